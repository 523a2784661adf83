/-! 45.main: what the small machine answers, the method does -/
set_option maxHeartbeats 4000000 in
theorem ma_one_grow {cls : List vw_C} {scr : Nat × (Nat → Int32)} {d : Nat} {i : ma_I} {f f' : ma_F} (h : ma_one cls scr d i f = some f') : f.2.2.2.2.1 ≤ f'.2.2.2.2.1 ∧ f.2.2.2.2.2 ≤ f'.2.2.2.2.2 := by
  unfold ma_one at h
  split at h
  all_goals (try simp only [ma_ild, ma_ald, ma_sto, ma_lib, ma_cp, ma_br, ma_jp, ma_go] at h)
  all_goals (repeat' split at h)
  all_goals first
    | (cases h; done)
    | (cases h; exact ⟨Nat.le_refl _, Nat.le_refl _⟩)
    | (cases h; refine ⟨?_, ?_⟩ <;> simp <;> omega)
theorem ma_grow {cls : List vw_C} {P : List ma_M} {scr : Nat × (Nat → Int32)} : ∀ (n d mi : Nat) (f : ma_F) (r : Option Value) (σ : ma_S) (mc ms : Nat), ma_ex cls P scr n d mi f = some (r, σ, mc, ms) → f.2.2.2.2.1 ≤ mc ∧ f.2.2.2.2.2 ≤ ms := by
  intro n
  induction n with
  | zero => intro d mi f r σ mc ms h; simp [ma_ex] at h
  | succ n ih =>
    intro d mi f r σ mc ms h
    obtain ⟨pc, L, st, σ0, k, s0⟩ := f
    rw [ma_ex] at h
    split at h
    · cases h
    · split at h
      · cases h
      · split at h
        · split at h
          · cases h
          · split at h
            · cases h
            · split at h
              · cases h
              · split at h
                · cases h
                · have h1 := ih _ _ _ _ _ _ _ h
                  dsimp only at h1 ⊢
                  omega
        · split at h
          · split at h
            · cases h
            · cases h
              exact ⟨Nat.le_refl _, Nat.le_refl _⟩
          · split at h
            · cases h
            · rename_i f' h1
              have h2 := ih _ _ _ _ _ _ _ h
              have h3 := ma_one_grow h1
              omega
theorem ma_entry {cls : List vw_C} {P : List ma_M} {mt : ma_M} (h : ma_okM cls P mt = true) {pc : Nat} {i : ma_I} (hi : (pc, i) ∈ mt.2.2.2.2.2.2) : decode mt.2.1 pc = .ok (i.1, i.2.1) ∧ ma_nl i.1 i.2.1 = true ∧ ma_lk cls P mt i = true := by
  unfold ma_okM at h
  rw [Bool.and_eq_true] at h
  have h1 := List.all_eq_true.mp h.2 _ hi
  rw [Bool.and_eq_true, Bool.and_eq_true] at h1
  obtain ⟨⟨h2, h3⟩, h4⟩ := h1
  refine ⟨?_, h3, h4⟩
  split at h2
  · rename_i j n hd
    rw [Bool.and_eq_true, decide_eq_true_eq, decide_eq_true_eq] at h2
    rw [← h2.1, ← h2.2]
    exact hd
  · cases h2
theorem ma_okM_at {cls : List vw_C} {P : List ma_M} {mt : ma_M} (h : ma_okM cls P mt = true) : plainFor mt.1 = true ∧ mt.1.cls ≠ "java/lang/invoke/MethodHandle" ∧ mt.1.cls ≠ "java/lang/invoke/VarHandle" ∧ mt.2.2.1 ≤ 18 ∧ (parseMethodDescriptor mt.1.desc).map (fun d => d.parameters.length) = some mt.2.2.2.2.1 ∧ ∀ q, cls[mt.2.2.2.2.2.1]? = some q → q.1 = mt.1.cls := by
  unfold ma_okM at h
  simp only [Bool.and_eq_true, decide_eq_true_eq] at h
  obtain ⟨⟨⟨⟨⟨⟨h1, h2⟩, h3⟩, h4⟩, h5⟩, h6⟩, -⟩ := h
  refine ⟨h1, h2, h3, h4, h5, fun q hq => ?_⟩
  rw [hq] at h6
  simpa using h6
section MSX
variable {l : Launch} {hs : String} {cls : List vw_C} {P : List ma_M} {Ts NS : List Cond} {D : va_G} {cI c2 : ClassId} {b sa : Nat} {scr : Nat × (Nat → Int32)}
/-- the machine's answer with this fuel is the method's -/
def ma_Snd (l : Launch) (cls : List vw_C) (P : List ma_M) (Ts NS : List Cond) (D : va_G) (cI c2 : ClassId) (b sa : Nat) (scr : Nat × (Nat → Int32)) (n : Nat) : Prop :=
  ∀ (d mi : Nat) (f : ma_F) (r : Option Value) (σ' : ma_S) (mc ms : Nat) (mt : ma_M), P[mi]? = some mt → ma_ex cls P scr n d mi f = some (r, σ', mc, ms) →
  ∀ (p : Program) (e : Env) (R : Room) (s : State) (m : MethodId) (args : Array Value) (below : List Frame) (meth : Method) (c : Code) (H : Heap) (locs : List Loc) (ls : Array Slot) (Q : State → Prop), (∀ (pc : Nat) (i : ma_I) (L : List (Option Value)) (st : List Value) (H1 : Heap) (locs1 : List Loc) (ls1 : Array Slot), (pc, i) ∈ mt.2.2.2.2.2.2 → ma_rt mt.2.2.2.1 i (pc, L, st, σ', mc, ms) = some r → ma_Wd cls D cI c2 b sa σ' s.heap H1 locs1 → W p l e R s m args below meth c H1 locs1 mc ms Q (F0 m pc ls1 (st.map (ma_cv b sa)))) → ma_Ctx cls Ts NS D cI c2 b sa scr mt p s m args meth c → d ≤ R.frames → 37 * d ≤ R.locals → mc ≤ R.cells → ms ≤ R.slots →
    f.2.1.length = mt.2.2.1 → lv_has ls mt.2.2.1 (ma_lv (ma_cv b sa) 0 f.2.1) → ma_Wd cls D cI c2 b sa f.2.2.2.1 s.heap H locs →
    W p l e R s m args below meth c H locs f.2.2.2.2.1 f.2.2.2.2.2 Q (F0 m f.1 ls (f.2.2.1.map (ma_cv b sa)))
theorem ma_ret {p : Program} {e : Env} {R : Room} {s : State} {m : MethodId} {args : Array Value} {below : List Frame} {meth : Method} {c : Code} {H : Heap} {locs : List Loc} {ls : Array Slot} {pc k s0 : Nat} {L : List (Option Value)} {st : List Value} {σ : ma_S} {mt : ma_M} (hC : ma_Ctx cls Ts NS D cI c2 b sa scr mt p s m args meth c) {i : ma_I} (hdec : decode mt.2.1 pc = .ok (i.1, i.2.1)) (hn : ma_nl i.1 i.2.1 = true) {r : Option Value} (h : ma_rt mt.2.2.2.1 i (pc, L, st, σ, k, s0) = some r) (hw : ma_Wd cls D cI c2 b sa σ s.heap H locs) :
    W p l e R s m args below meth c H locs k s0 (MQ below (ma_Qc cls D cI c2 b sa r σ) args s k s0 (fun q => b ≤ q)) (F0 m pc ls (st.map (ma_cv b sa))) := by
  obtain ⟨hx, hb, hml, hr, hts, hown, hlocks, hin, hN⟩ := hC
  have hq : ∀ t : State, t.heap = H → s.WarmedH t.vm → ma_Qc cls D cI c2 b sa r σ args s (.returned (r.map (ma_cv b sa))) t := fun t ht _ => ⟨rfl, by rw [ht]; exact hw.1, by rw [ht]; exact hw.2.1, hw.2.2.F ht⟩
  obtain ⟨ins, len, a, q, z⟩ := i
  unfold ma_rt at h
  dsimp only at *
  split at h
  · obtain rfl : len = 1 := by simpa [ma_nl] using hn
    split at h
    · rename_i x hret
      cases h
      exact W.iret hx hb (hr.trans hret) hq hw.2.2.2.2 hdec hlocks
    · rename_i x hret
      split at h
      · rename_i h01
        cases h
        exact W.zret hx hb (hr.trans hret) (by rcases h01 with rfl | rfl <;> rfl) hq hw.2.2.2.2 hdec hlocks
      · cases h
    · cases h
  · obtain rfl : len = 1 := by simpa [ma_nl] using hn
    split at h
    · rename_i hret
      cases h
      exact W.vret hx hb (hr.trans hret) hq hw.2.2.2.2 hdec hlocks
    · cases h
  · cases h
theorem ma_ofW {y : MethodName} {ws ws' : List Cond} {rm : Room} {Pc : Array Value → State → Prop} {Qc : Array Value → State → Outcome → State → Prop} {mc ms : Nat} {free : Addr → Prop} {cc : ByteArray} {maxL : Nat} {ret : Option FieldType} (hy : plainFor y = true) (hw : ws = Cond.code y cc maxL ret :: ws')
    (body : ∀ p e s m args below meth c s₁, BodyLoose p l y (headSpec ws rm) cc maxL ret e s m args below meth c s₁ → c.maxLocals = maxL → Pc args s → W p l e (headSpec ws rm).room s m args below meth c s.heap [] 0 0 (MQ below Qc args s mc ms free) (entryFrame m args maxL)) : Met l y ws rm Pc Qc mc ms free := by
  refine MetFree.of_bodyRF (code := cc) (maxLocals := maxL) (ret := ret) hy ?_ ?_
  · intro args s m h hn
    obtain ⟨meth, c, h1, h2, h3, h4, h5, h6, -, -⟩ := Cond.code_spec hn (atoms_spec (ws := ws) h _ (by rw [hw]; exact List.mem_cons_self))
    exact ⟨meth, c, h1, h2, h3, h4, h5, h6⟩
  · intro p e s m args below meth c s₁ B hml hP _ hst
    have hh0 : s₁.heap = s.heap := by rw [B.state]; rfl
    obtain ⟨t, a1, o, b1, b2, b3⟩ := body p e s m args below meth c s₁ B hml hP s₁ hh0 (Stand.of_body B)
    exact ⟨t, o, hst.trans a1, b1, b2, ⟨b3.1, b3.2⟩⟩
theorem ma_met {n : Nat} (ih : ma_Snd l cls P Ts NS D cI c2 b sa scr n) {d mi : Nat} {my : ma_M} (hmy : P[mi]? = some my) (hokM : ma_okM cls P my = true) {as : List Value} {σ σ' : ma_S} {r : Option Value} {mc ms : Nat} (hal : as.length ≤ my.2.2.1) (hex : ma_ex cls P scr n d mi (ma_in my as σ) = some (r, σ', mc, ms)) :
    Met l my.1 (ma_wy my Ts) (ma_rm d mc ms) (ma_Pc cls NS D cI c2 b sa scr as σ) (ma_Qc cls D cI c2 b sa r σ') mc ms (fun q => b ≤ q) := by
  refine ma_ofW (cc := my.2.1) (maxL := my.2.2.1) (ret := my.2.2.2.1) (ma_okM_at hokM).1 rfl ?_
  intro p e s m args below meth c s₁ B hml hv
  obtain ⟨hargs, hsz, hPw, hN⟩ := hv
  have hts := atoms_spec (ws := ma_wy my Ts) B.pre
  have hctx : ma_Ctx cls Ts NS D cI c2 b sa scr my p s m args meth c := ⟨B.exec, B.bytes, hml, B.returns, fun w hw => hts w (List.mem_cons_of_mem _ hw), findClass_of_methodNamed B.named, B.notSynchronized, (name_of_methodNamed B.named B.method).1, hN⟩
  subst hargs
  rw [lg_entry_eq]
  have hle : (lg_sl (as.map (ma_cv b sa))).length ≤ my.2.2.1 := by rw [ma_sl_len]; exact hal
  have hl := lv_entry (as.map (ma_cv b sa)) hle
  have hl2 : lv_has ((lg_sl (as.map (ma_cv b sa)) ++ List.replicate (my.2.2.1 - (lg_sl (as.map (ma_cv b sa))).length) Slot.unset).toArray) my.2.2.1 (ma_lv (ma_cv b sa) 0 (as.map some ++ List.replicate (my.2.2.1 - as.length) none)) := ⟨hl.1, hl.2.1, fun q hq => hl.2.2 q (ma_lv_args b sa as _ 0 q hq)⟩
  exact ih d mi (ma_in my as σ) r σ' mc ms my hmy hex p e _ s m _ below meth c s.heap [] _ _ (fun pc i L st H1 locs1 ls1 hi hrt hw1 => ma_ret hctx (ma_entry hokM hi).1 (ma_entry hokM hi).2.1 hrt hw1) hctx (Nat.le_refl _) (Nat.le_refl _) (Nat.le_refl _) (Nat.le_refl _) (by show (as.map some ++ List.replicate (my.2.2.1 - as.length) none).length = _; rw [List.length_append, List.length_map, List.length_replicate]; omega) hl2 ⟨hsz, hPw, va_S.rf⟩
theorem ma_good {my : ma_M} (hgood : ∀ w ∈ Ts, (w.onTables && w.keeps) = true ∨ ∃ ty, w = .arrayClass ty) (hc : Cond.code my.1 my.2.1 my.2.2.1 my.2.2.2.1 ∈ Ts) : GoodIn Ts (ma_wy my Ts) := by
  intro w hw
  rcases List.mem_cons.mp hw with h | h
  · subst h
    exact ⟨hc, hgood _ hc⟩
  · exact ⟨h, hgood w h⟩
variable {p : Program} {e : Env} {R : Room} {s : State} {m : MethodId} {args : Array Value} {below : List Frame} {meth : Method} {c : Code} {H : Heap} {locs : List Loc} {Q : State → Prop} {ls : Array Slot}
variable {pc d' k s0 : Nat} {L : List (Option Value)} {st : List Value} {σ : ma_S} {mt my : ma_M}
theorem ma_cy1 {i : ma_I} {cy : Nat} (hcy : ma_callee i = some cy) (hmy : P[cy]? = some my) (hlk : ma_lk cls P mt i = true) : ∃ cy0, cy = cy0 + 1 := by
  obtain ⟨ins, len, a, q, z⟩ := i
  unfold ma_callee at hcy
  dsimp only at hcy
  refine ⟨cy - 1, ?_⟩
  split at hcy
  · split at hcy
    · rename_i ha
      cases hcy
      simp [ma_lk, hmy] at hlk
      omega
    · cases hcy
  · split at hcy
    · rename_i ha
      cases hcy
      simp [ma_lk, hmy] at hlk
      omega
    · cases hcy
  · split at hcy
    · rename_i ha
      cases hcy
      simp [ma_lk, hmy] at hlk
      omega
    · cases hcy
  · cases hcy
theorem ma_split (b sa q : Nat) (st : List Value) : st.map (ma_cv b sa) = (((st.take q).reverse).map (ma_cv b sa)).reverse ++ (st.drop q).map (ma_cv b sa) := by
  rw [← List.map_reverse, List.reverse_reverse, ← List.map_append, List.take_append_drop]
set_option maxHeartbeats 4000000 in
theorem ma_call {n : Nat} (ih : ma_Snd l cls P Ts NS D cI c2 b sa scr n) (hok : ma_Ok hs cls Ts NS P) (hC : ma_Ctx cls Ts NS D cI c2 b sa scr mt p s m args meth c) {i : ma_I} {cy : Nat} (hmy : P[cy]? = some my) (hcy : ma_callee i = some cy)
    (hdec : decode mt.2.1 pc = .ok (i.1, i.2.1)) (hn : ma_nl i.1 i.2.1 = true) (hlk : ma_lk cls P mt i = true) (hwd : ∀ w ∈ ma_wd cls P mt i, w.before args s = true) (hwn : ∀ w ∈ ma_wn hs cls P mt i, va_Nw w s) (hfr : d' + 1 ≤ R.frames) (hlo : 37 * (d' + 1) ≤ R.locals)
    (hq1 : ¬ st.length < i.2.2.2.1) (hq2 : ¬ 8 + i.2.2.2.1 < st.length) (hq3 : ¬ my.2.2.1 < i.2.2.2.1) (hrc : ¬ ma_rcv i (st.take i.2.2.2.1).reverse σ = false) {r : Option Value} {σ1 : ma_S} {mc ms : Nat} (hex : ma_ex cls P scr n d' cy (ma_in my (st.take i.2.2.2.1).reverse σ) = some (r, σ1, mc, ms))
    (hkc : k + mc ≤ R.cells) (hks : s0 + ms ≤ R.slots) (hl : lv_has ls mt.2.2.1 (ma_lv (ma_cv b sa) 0 L)) (hw : ma_Wd cls D cI c2 b sa σ s.heap H locs)
    (kk : ∀ (H1 : Heap) (locs1 : List Loc), ma_Wd cls D cI c2 b sa σ1 s.heap H1 locs1 → W p l e R s m args below meth c H1 locs1 (k + mc) (s0 + ms) Q (F0 m (pc + 3) ls ((r.toList ++ st.drop i.2.2.2.1).map (ma_cv b sa)))) :
    W p l e R s m args below meth c H locs k s0 Q (F0 m pc ls (st.map (ma_cv b sa))) := by
  obtain ⟨hcl, hgood, hNS, hPok, hPc⟩ := hok
  obtain ⟨hokM, -, -⟩ := hPok my (List.mem_of_getElem? hmy)
  obtain ⟨cy0, hcy0⟩ : ∃ cy0, cy = cy0 + 1 := ma_cy1 hcy hmy hlk
  obtain ⟨hcode, hini0⟩ := hPc cy0 my (by rw [← hcy0]; exact hmy)
  clear hcy0
  obtain ⟨hx, hb, hml, hr, hts, hown, hlocks, hin, hN⟩ := hC
  obtain ⟨o1, o2, o3, o4, o5, o6⟩ := ma_okM_at hokM
  have hini : (Cond.initialized my.1.cls).before args s = true := hts _ hini0
  have hG := ma_good hgood hcode
  have halen : (st.take i.2.2.2.1).reverse.length = i.2.2.2.1 := by rw [List.length_reverse, List.length_take]; omega
  have hM := ma_met ih hmy hokM (by rw [halen]; omega) hex
  have hS : CallFix p m c mt.2.1 mt.2.2.1 s args Ts mt.1.cls := ⟨hx, hb, hml, hown, hts⟩
  have hPre : ∀ U : State, U.heap = H → s.WarmedH U.vm → ma_Pc cls NS D cI c2 b sa scr (st.take i.2.2.2.1).reverse σ (((st.take i.2.2.2.1).reverse.map (ma_cv b sa)).toArray) U := fun U hU hW => ⟨rfl, by rw [hU]; exact hw.1, by rw [hU]; exact hw.2.1, by rw [hU]; exact hN.warm hNS hW hw.2.2⟩
  have hbl := ma_blind cls NS hNS D cI c2 b sa scr (st.take i.2.2.2.1).reverse σ
  have hroom : (ma_rm d' mc ms).frames + 1 ≤ R.frames ∧ 8 + (my.2.2.1 + 11) + (ma_rm d' mc ms).locals ≤ R.locals := ⟨hfr, by show 8 + (my.2.2.1 + 11) + 37 * d' ≤ _; omega⟩
  have hsum : ((((st.drop i.2.2.2.1).map (ma_cv b sa)).map fun v => v.category).sum) ≤ 8 := by rw [ma_catsum, List.length_drop]; omega
  have hkk : ∀ (H1 : Heap) (locs1 : List Loc), ma_Wd cls D cI c2 b sa σ1 s.heap H1 locs1 → W p l e R s m args below meth c H1 locs1 (k + mc) (s0 + ms) Q (F0 m (pc + 3) ls ((r.map (ma_cv b sa)).toList ++ (st.drop i.2.2.2.1).map (ma_cv b sa))) := by
    intro H1 locs1 hw1
    have h := kk H1 locs1 hw1
    rw [List.map_append] at h
    cases r <;> exact h
  obtain ⟨ins, len, a, q, z⟩ := i
  unfold ma_callee at hcy
  dsimp only at *
  split at hcy
  · rename_i ix
    obtain rfl : len = 3 := by simpa [ma_nl] using hn
    split at hcy
    · rename_i ha
      cases hcy
      have hna : ¬ a < 10 := by omega
      have hq : q = my.2.2.2.2.1 := by
        simp [ma_lk, hna, hmy] at hlk
        exact hlk.1
      have hlen : ((st.take q).reverse.map (ma_cv b sa)).length = my.2.2.2.2.1 := by rw [List.length_map, halen]; exact hq
      obtain ⟨a', rfl⟩ : ∃ a', a = a' + 10 := ⟨a - 10, by omega⟩
      rw [Nat.add_sub_cancel] at hmy hex
      rw [ma_split b sa q st]
      cases hz : z / 100 with
      | zero =>
        have hlink : (Cond.methodLink mt.1.cls ix my.1).before args s = true := hwd _ (by simp [ma_wd, hmy, hz])
        have hstat : (Cond.static my.1).before args s = true := hwd _ (by simp [ma_wd, hmy, hz])
        exact ma_run (va_runS hS hM ⟨callB_of my.2.2.2.2.1 hts hG rfl rfl rfl hini hlink ⟨o2, o3, o5⟩ hroom, hstat⟩ ⟨hbl, hPre⟩ rfl hlen hl.1 rfl (by show 2 * 0 + (((st.drop q).map (ma_cv b sa)).map fun v => v.category).sum ≤ 8; omega) hdec ⟨hkc, hks⟩) hw hkk
      | succ z' =>
        have hlink : va_Nw (.methodLinkNest mt.1.cls ix my.1 hs) s := hwn _ (by simp [ma_wn, hmy, hz])
        have hstat : (Cond.static my.1).before args s = true := hwd _ (by simp [ma_wd, hmy, hz])
        exact ma_run (va_runSN hS hM ⟨va_cnB my.2.2.2.2.1 hts hG rfl rfl rfl hlink hini ⟨o2, o3, o5⟩ hroom, hstat, trivial⟩ ⟨hbl, hPre⟩ rfl hlen hl.1 rfl (by show 2 * 0 + (((st.drop q).map (ma_cv b sa)).map fun v => v.category).sum ≤ 8; omega) hdec ⟨hkc, hks⟩) hw hkk
    · cases hcy
  · rename_i ix
    obtain rfl : len = 3 := by simpa [ma_nl] using hn
    split at hcy
    · rename_i ha
      cases hcy
      simp only [ma_lk, hmy, Bool.and_eq_true, decide_eq_true_eq] at hlk
      obtain ⟨⟨hq, hz0⟩, -⟩ := hlk
      have hst := ma_split b sa q st
      simp only [ma_rcv] at hrc
      generalize hasd : (st.take q).reverse = as at *
      cases as with
      | nil => simp at hrc
      | cons v as' =>
        cases v with
        | ref o =>
          dsimp only at hrc
          cases ho : σ[o]? with
          | none => rw [ho] at hrc; simp at hrc
          | some ce =>
            rw [ho] at hrc
            rcases ce with x | x | ⟨ci, fs⟩
            · simp at hrc
            · simp at hrc
            · have hci : ci = z % 100 := by simpa using hrc
              obtain ⟨qc, hqc, -⟩ := hw.2.1 _ _ (ma_ws_at ho)
              have hqc' : cls[ci]? = some qc := hqc
              have hname : qc.1 = my.1.cls := o6 qc (by rw [← hz0, ← hci]; exact hqc')
              have hcell := va_recv hN.1 hw.2.1 hqc' (ma_ws_at ho)
              rw [hname] at hcell
              have hlen : (as'.map (ma_cv b sa)).length = my.2.2.2.2.1 := by rw [List.length_map]; rw [List.length_cons] at halen; omega
              rw [hst, List.map_cons, List.reverse_cons, List.append_assoc]
              cases hz : z / 100 with
              | zero =>
                have hlink : (Cond.methodLink mt.1.cls ix my.1).before args s = true := hwd _ (by simp [ma_wd, hmy, hz])
                have hinst : (Cond.instanceMethod my.1).before args s = true := hwd _ (by simp [ma_wd, hmy, hz])
                have hsel : (Cond.selects my.1.cls my.1 my.1).before args s = true := hwd _ (by simp [ma_wd, hmy, hz])
                exact ma_run (va_runV hS hM ⟨callB_of my.2.2.2.2.1 hts hG rfl rfl rfl hini hlink ⟨o2, o3, o5⟩ hroom, hinst, hsel⟩ ⟨hbl, hcell, hPre⟩ rfl hlen hl.1 rfl (by show 2 * 0 + (((st.drop q).map (ma_cv b sa)).map fun v => v.category).sum ≤ 8; omega) hdec ⟨hkc, hks⟩) hw hkk
              | succ z' =>
                have hlink : va_Nw (.methodLinkNest mt.1.cls ix my.1 hs) s := hwn _ (by simp [ma_wn, hmy, hz])
                have hinst : (Cond.instanceMethod my.1).before args s = true := hwd _ (by simp [ma_wd, hmy, hz])
                have hsel : (Cond.selects my.1.cls my.1 my.1).before args s = true := hwd _ (by simp [ma_wd, hmy, hz])
                exact ma_run (va_runVN hS hM ⟨va_cnB my.2.2.2.2.1 hts hG rfl rfl rfl hlink hini ⟨o2, o3, o5⟩ hroom, hinst, hsel⟩ ⟨hbl, hcell, hPre⟩ rfl hlen hl.1 rfl (by show 2 * 0 + (((st.drop q).map (ma_cv b sa)).map fun v => v.category).sum ≤ 8; omega) hdec ⟨hkc, hks⟩) hw hkk
        | _ => simp at hrc
    · cases hcy
  · rename_i ix
    obtain rfl : len = 3 := by simpa [ma_nl] using hn
    split at hcy
    · rename_i ha
      cases hcy
      have hna : ¬ a < 10 := by omega
      have hn5 : ¬ a = 5 := by omega
      simp only [ma_lk, hmy, hna, decide_false, Bool.false_or, Bool.and_eq_true, decide_eq_true_eq] at hlk
      obtain ⟨⟨⟨hq, hnm⟩, hret⟩, -⟩ := hlk
      have hret' : my.2.2.2.1 = none := by simpa using hret
      have hst := ma_split b sa q st
      simp only [ma_rcv] at hrc
      generalize hasd : (st.take q).reverse = as at *
      rw [hret'] at hcode
      cases as with
      | nil => simp at hrc
      | cons v as' =>
        cases v with
        | ref o =>
          have hlen : (as'.map (ma_cv b sa)).length = my.2.2.2.2.1 := by rw [List.length_map]; rw [List.length_cons] at halen; omega
          have hwy : ma_wy my Ts = Cond.code my.1 my.2.1 my.2.2.1 none :: Ts := by rw [ma_wy, hret']
          rw [hst, List.map_cons, List.reverse_cons, List.append_assoc]
          cases hz : z / 100 with
          | zero =>
            have hlink : (Cond.methodLink mt.1.cls ix my.1).before args s = true := hwd _ (by simp [ma_wd, hmy, hz, hn5])
            have hinst : (Cond.instanceMethod my.1).before args s = true := hwd _ (by simp [ma_wd, hmy, hz, hn5])
            exact ma_run (va_runI hS hM ⟨callB_of my.2.2.2.2.1 hts hG hwy rfl rfl hini hlink ⟨o2, o3, o5⟩ hroom, hnm, hinst⟩ ⟨hbl, hPre⟩ rfl hlen hl.1 rfl (by show 2 * 0 + (((st.drop q).map (ma_cv b sa)).map fun v => v.category).sum ≤ 8; omega) hdec ⟨hkc, hks⟩) hw hkk
          | succ z' =>
            have hlink : va_Nw (.methodLinkNest mt.1.cls ix my.1 hs) s := hwn _ (by simp [ma_wn, hmy, hz])
            have hinst : (Cond.instanceMethod my.1).before args s = true := hwd _ (by simp [ma_wd, hmy, hz, hn5])
            exact ma_run (va_runIN hS hM ⟨va_cnB my.2.2.2.2.1 hts hG hwy rfl rfl hlink hini ⟨o2, o3, o5⟩ hroom, hnm, hinst⟩ ⟨hbl, hPre⟩ rfl hlen hl.1 rfl (by show 2 * 0 + (((st.drop q).map (ma_cv b sa)).map fun v => v.category).sum ≤ 8; omega) hdec ⟨hkc, hks⟩) hw hkk
        | _ => simp at hrc
    · cases hcy
  · cases hcy
theorem ma_sound (hok : ma_Ok hs cls Ts NS P) : ∀ n : Nat, ma_Snd l cls P Ts NS D cI c2 b sa scr n := by
  intro n
  induction n with
  | zero =>
    intro d mi f r σ' mc ms mt hmt hex
    simp [ma_ex] at hex
  | succ n ih =>
    intro d mi f r σ' mc ms mt hmt hex p e R s m args below meth c H locs ls Q hQ hC hfr hlo hmc hms hL hl hw
    have hok' := hok
    obtain ⟨hcl, hgood, hNS, hP, -⟩ := hok'
    obtain ⟨pc, L, st, σ, k, s0⟩ := f
    obtain ⟨hokM, hwm, hwnm⟩ := hP mt (List.mem_of_getElem? hmt)
    rw [ma_ex, hmt] at hex
    dsimp only at hex hL hl hw ⊢
    cases hi : mt.2.2.2.2.2.2.lookup pc with
    | none => rw [hi] at hex; cases hex
    | some i =>
      rw [hi] at hex
      dsimp only at hex
      have hmem := ma_lookup hi
      obtain ⟨hdec, hnl, hlk⟩ := ma_entry hokM hmem
      have hC' := hC
      obtain ⟨hx, hb, hml, hr, hts, hown, hlocks, hin, hK, hX, hsb, hbs, hAO, hNW⟩ := hC'
      have hwd : ∀ w ∈ ma_wd cls P mt i, w.before args s = true := fun w h => hts w (hwm w (List.mem_flatMap.mpr ⟨_, hmem, h⟩))
      have hwn : ∀ w ∈ ma_wn hs cls P mt i, va_Nw w s := fun w h => hNW w (hwnm w (List.mem_flatMap.mpr ⟨_, hmem, h⟩))
      cases hcy : ma_callee i with
      | some cy =>
        rw [hcy] at hex
        dsimp only at hex
        cases d with
        | zero => cases hex
        | succ d' =>
          dsimp only at hex
          cases hmy : P[cy]? with
          | none => rw [hmy] at hex; cases hex
          | some my =>
            rw [hmy] at hex
            dsimp only at hex
            split at hex
            · cases hex
            · rename_i hcond
              cases hex1 : ma_ex cls P scr n d' cy (ma_in my (st.take i.2.2.2.1).reverse σ) with
              | none => rw [hex1] at hex; cases hex
              | some res =>
                obtain ⟨r1, σ1, mc1, ms1⟩ := res
                rw [hex1] at hex
                dsimp only at hex
                have hg := ma_grow _ _ _ _ _ _ _ _ hex
                dsimp only at hg
                exact ma_call ih hok hC hmy hcy hdec hnl hlk hwd hwn hfr hlo (fun g => hcond (Or.inl g)) (fun g => hcond (Or.inr (Or.inl g))) (fun g => hcond (Or.inr (Or.inr (Or.inl g)))) (fun g => hcond (Or.inr (Or.inr (Or.inr g)))) hex1 (Nat.le_trans hg.1 hmc) (Nat.le_trans hg.2 hms) hl hw fun H1 locs1 hw1 => ih _ _ _ _ _ _ _ _ hmt hex p e R s m args below meth c H1 locs1 ls Q hQ hC hfr hlo hmc hms hL hl hw1
      | none =>
        rw [hcy] at hex
        dsimp only at hex
        split at hex
        · cases hrt : ma_rt mt.2.2.2.1 i (pc, L, st, σ, k, s0) with
          | none => rw [hrt] at hex; cases hex
          | some r1 =>
            rw [hrt] at hex
            cases hex
            exact hQ pc i L st H locs ls hmem hrt hw
        · cases ho : ma_one cls scr d i (pc, L, st, σ, k, s0) with
          | none => rw [ho] at hex; cases hex
          | some f' =>
            rw [ho] at hex
            dsimp only at hex
            have hg := ma_grow _ _ _ _ _ _ _ _ hex
            obtain ⟨ins, len, a, q, z⟩ := i
            exact ma_step hC hcl hdec hnl hlk hwd hwn hfr hlo ho (Nat.le_trans hg.1 hmc) (Nat.le_trans hg.2 hms) hL hl hw fun H1 locs1 ls1 hL1 hl1 hw1 => ih _ _ _ _ _ _ _ _ hmt hex p e R s m args below meth c H1 locs1 ls1 Q hQ hC hfr hlo hmc hms hL1 hl1 hw1
end MSX
