/-! 9t.start: the law's entry -/
/-! THE CLAIM OUT OF ONE WALK OF THE LAW'S BODY. Your part is whole_start (and what it stands on); all else here is the same for every law, but numbers. -/
def R_law : String := "PhaseBookLaw"
def lw_P (b : Addr) (xs : List Int32) (args : Array Value) (s : State) : Prop := args = #[.ref b] ∧ s.IntsAt b xs ∧ xs.length ≤ 3074 ∧ (Jvm.Cond.and given_1 narrow_1).before args s = true
def lw_Q (_ : Array Value) (s : State) (o : Outcome) (t : State) : Prop := o = .returned (some (.int 1)) ∧ Framed s o t [] 600000 7302250
def lw_Z (below : List Frame) (a : Array Value) (s : State) : State → Prop := fun t => ∃ o, t.status = .running ∧ Ended t below o ∧ lw_Q a s o t
/-- the law's own end, with 1 on the stack, nothing written that was there before, its room as the claim has it -/
theorem lw_ret {p : Program} {l : Launch} {e : Env} {s : State} {m : MethodId} {below : List Frame} {meth : Method} {c : Code} {b : Nat} (hx : p.tables.exec = Jvm.exec) (hb : c.code = code) (hr : meth.sig.returnType = ret) (hlocks : meth.locks = false) {pc : Nat} {H : Heap} {ls : Array Slot} (hdg : decode code pc = .ok (.ireturn, 1)) : W p l e room_1 s m #[Value.ref b] below meth c H [] 600000 7302250 (lw_Z below #[Value.ref b] s) (F0 m pc ls [.int 1]) := by
  intro T hT X
  obtain ⟨fs, hret, hrun, hended, hW, hframe⟩ := X.leave (v := some (.int 1)) (hlocks := hlocks) (fun h => by rw [hr] at h; cases h)
  have hmeth' : T.vm.method? m = some meth := X.method'
  refine ⟨T.setFrames fs, ?_, .returned (some (.int 1)), hrun, hended, rfl, ⟨_, rfl⟩, hW, hframe⟩
  jvm_step X.here [X.here.top, hx, hb, hdg, hmeth', hr, ret, narrow_b1]
  (try refine ⟨rfl, ?_⟩); (try refine ⟨rfl, ?_⟩)
  first | (intro acts; rw [hret _ acts rfl rfl rfl]) | rw [hret _ _ rfl rfl rfl]
  exact Steps.refl _
/-- what holds at the law's entry: the machine, the code, the tables' words (any of lw_tbl by 'hts w (by decide +kernel)'), the script of L ints xs at the cell b, what the Statement gives of the start (any of its parts by flat_of_before) -/
def lw_At (p : Program) (s : State) (m : MethodId) (meth : Method) (c : Code) (b L : Nat) (xs : Nat → Int32) : Prop :=
  p.tables.exec = Jvm.exec ∧ c.code = code ∧ meth.sig.returnType = ret ∧ c.maxLocals = 4 ∧ s.vm.findClass R_law = some m.cls ∧ (∀ w ∈ lw_tbl, w.before #[Value.ref b] s = true) ∧ va_X b L xs s s.heap ∧ b < s.heap.size ∧ meth.locks = false ∧ (Jvm.Cond.and given_1 narrow_1).before #[Value.ref b] s = true ∧ meth.name = "law"
theorem ma_onT {w : Cond} (h : ma_nest w = true) : w.onTables = true := by
  cases w with
  | fieldLinkNest => rfl
  | methodLinkNest => rfl
  | _ => simp [ma_nest] at h
/-- a return of the law with 1 -/
theorem rt_1 {pc : Nat} {i : ma_I} {L : List (Option Value)} {st : List Value} {σ : ma_S} {mc ms : Nat} (hn : ma_nl i.1 i.2.1 = true) (h : ma_rt (some .boolean) i (pc, L, st, σ, mc, ms) = some (some (vi 1))) : i.1 = .ireturn ∧ i.2.1 = 1 ∧ st = [vi 1] := by
  obtain ⟨ins, len, a, q, z⟩ := i
  unfold ma_rt at h
  dsimp only at *
  split at h
  · obtain rfl : len = 1 := by simpa [ma_nl] using hn
    refine ⟨rfl, rfl, ?_⟩
    split at h
    · rename_i x hret
      cases hret
    · rename_i x hret
      split at h
      · cases h
        rfl
      · cases h
    · cases h
  · split at h
    · cases h
    · cases h
  · cases h
/-- from the entry, for every script of at most 3074 ints, the law comes to its end with true -/
theorem whole_start {p : Program} {e : Env} {s : State} {m : MethodId} {below : List Frame} {meth : Method} {c : Code} (l : Launch) {b L : Nat} {xs : Nat → Int32} (hL : L ≤ 3074) (C0 : lw_At p s m meth c b L xs) : W p l e room_1 s m #[Value.ref b] below meth c s.heap [] 0 0 (lw_Z below #[Value.ref b] s) (entryFrame m ([Value.ref b] : List Value).toArray 4) := by
  obtain ⟨hx, hb, hr, hml, hown, hts, hX, hbl, hlk, hgv, hnm⟩ := C0
  have hTs : ∀ w ∈ Ts, w.before #[Value.ref b] s = true := fun w hw => hts w (Ts_in w hw)
  have hkn : ∀ k : Nat, ∃ (cC : ClassId) (iS : Nat → Nat), ∀ q : vw_C, CLS[k]? = some q → u_Kn s q.1 q.2.1 q.2.2 cC iS := by
    intro k
    cases hq : CLS[k]? with
    | none => exact ⟨m.cls, fun _ => 0, fun q h => by cases h⟩
    | some q =>
      have hm : q ∈ CLS := List.mem_of_getElem? hq
      obtain ⟨cC, iS, hK⟩ := u_known hTs (ma_ok.1 q hm).2 (hts _ (cls_inst q hm))
      exact ⟨cC, iS, fun q' h => by cases h; exact hK⟩
  obtain ⟨D, hD⟩ : ∃ D : va_G, ∀ (k : Nat) (q : vw_C), CLS[k]? = some q → u_Kn s q.1 q.2.1 q.2.2 (D.1 k) (D.2 k) := ⟨(fun k => Classical.choose (hkn k), fun k => Classical.choose (Classical.choose_spec (hkn k))), fun k => Classical.choose_spec (Classical.choose_spec (hkn k))⟩
  obtain ⟨cI, c2, kA, hfI, hkA, hkindA, hfA⟩ := ma_over (hts _ tb_over)
  obtain ⟨cI', kI, comp, g1, g2, g3⟩ := Cond.arrayClass_spec (hts _ tb_arr)
  have eI : cI' = cI := Option.some.inj (g1.symm.trans hfI)
  subst eI
  have hK : va_K D CLS (ma_ty2 cI' c2) s := by
    refine ⟨hD, fun k q hk => ?_⟩
    match k, hk with
    | 0, hk =>
      cases hk
      exact ⟨fun n z => ⟨(fun k h => by cases h), kI, g2, comp, g3⟩, g1⟩
    | 1, hk =>
      cases hk
      exact ⟨fun n z => ⟨(fun k h => by cases h), kA, hkA, cI', hkindA⟩, hfA⟩
    | k + 2, hk => cases hk
  have hN : ma_N CLS NS D cI' c2 s.heap.size b (L, xs) s s.heap := ⟨hK, hX, hbl, Nat.le_refl _, ⟨kA, hkA, hkindA⟩, fun w hw => va_Nw.of (ma_onT (List.all_eq_true.mp NS_nest w hw)) (hts w (NS_in w hw))⟩
  have hC : ma_Ctx CLS Ts NS D cI' c2 s.heap.size b (L, xs) mm0 p s m #[Value.ref b] meth c := ⟨hx, hb, hml, hr, hTs, hown, hlk, hnm, hN⟩
  obtain ⟨σ', n, hex⟩ := law_go (scr := (L, xs)) hL
  have hle : (lg_sl (([.retAddr 0] : List Value).map (ma_cv s.heap.size b))).length ≤ 4 := by rw [ma_sl_len]; decide
  have hl := lv_entry (([.retAddr 0] : List Value).map (ma_cv s.heap.size b)) hle
  show W p l e room_1 s m #[Value.ref b] below meth c s.heap [] 0 0 (lw_Z below #[Value.ref b] s) (entryFrame m (([.retAddr 0] : List Value).map (ma_cv s.heap.size b)).toArray 4)
  rw [lg_entry_eq]
  have hl2 : lv_has ((lg_sl (([.retAddr 0] : List Value).map (ma_cv s.heap.size b)) ++ List.replicate (4 - (lg_sl (([.retAddr 0] : List Value).map (ma_cv s.heap.size b))).length) Slot.unset).toArray) 4 (ma_lv (ma_cv s.heap.size b) 0 (([.retAddr 0] : List Value).map some ++ List.replicate (4 - ([.retAddr 0] : List Value).length) none)) := ⟨hl.1, hl.2.1, fun q hq => hl.2.2 q (ma_lv_args s.heap.size b [.retAddr 0] _ 0 q hq)⟩
  refine ma_sound ma_ok n 8 0 (0, [some (.retAddr 0), none, none, none], [], [], 0, 0) (some (vi 1)) σ' 84 21499 mm0 rfl hex p e room_1 s m #[Value.ref b] below meth c s.heap [] _ (lw_Z below #[Value.ref b] s) (fun pc i L1 st H1 locs1 ls1 hi hrt hw1 => ?_) hC (by decide) (by decide) (by decide) (by decide) rfl hl2 ⟨rfl, fun k q h => by simp [ma_ws] at h, va_S.rf⟩
  obtain ⟨d1, d2, -⟩ := ma_entry (ok_all mm0 (List.mem_of_getElem? (i := 0) rfl)) hi
  obtain ⟨e1, e2, e3⟩ := rt_1 d2 hrt
  rw [e1, e2] at d1
  subst e3
  exact va_forget (fun q hq => hw1.2.2.2.2 q hq) (W.widen (k := 600000) (n := 7302250) (by decide) (by decide) (lw_ret hx hb hr hlk d1))
