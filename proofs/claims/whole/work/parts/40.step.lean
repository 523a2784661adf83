/-! 40.step: a step of the small machine is a step of the real one (written by gen_step.py) -/
theorem ma_lookup {α : Type} {l : List (Nat × α)} {a : Nat} {v : α} (h : l.lookup a = some v) : (a, v) ∈ l := by
  induction l with
  | nil => cases h
  | cons q l ih =>
    obtain ⟨k, x⟩ := q
    rw [List.lookup_cons] at h
    cases hk : a == k with
    | true =>
      rw [hk] at h
      cases h
      rw [eq_of_beq hk]
      exact List.mem_cons_self
    | false =>
      rw [hk] at h
      exact List.mem_cons_of_mem _ (ih h)
theorem ma_tg_eq {pc t : Nat} {o : Int} (h : ma_tg pc o = some t) : (pc : Int) + o = (t : Int) := by
  unfold ma_tg at h
  split at h
  · cases h
    omega
  · cases h
theorem ma_catsum (b sa : Nat) (st : List Value) : ((st.map (ma_cv b sa)).map fun v => v.category).sum = st.length := by
  induction st with
  | nil => rfl
  | cons v st ih => rw [List.map_cons, List.map_cons, List.sum_cons, ih, ma_cv_cat, List.length_cons, Nat.add_comm]
theorem ma_okC_at {q : vw_C} (h : ma_okC q = true) {j : Nat} (hj : j < q.2.2) : (q.2.1 j).1 = q.1 ∧ (∃ ty, parseFieldDescriptor (q.2.1 j).2.2.1 = some ty ∧ ((ty = .int ∧ (q.2.1 j).2.2.1 = "I") ∨ (((∃ n, ty = .object n) ∨ ∃ t, ty = .array t) ∧ ¬ (q.2.1 j).2.2.1 = "I"))) ∧ ∀ k, k < q.2.2 → j ≠ k → (q.2.1 j).2.1 ≠ (q.2.1 k).2.1 := by
  have h1 := List.all_eq_true.mp h j (List.mem_range.mpr hj)
  rw [Bool.and_eq_true, Bool.and_eq_true, decide_eq_true_eq] at h1
  obtain ⟨⟨h2, h3⟩, h4⟩ := h1
  refine ⟨h3, ?_, fun k hk hne => ?_⟩
  · split at h2
    · rename_i hp
      exact ⟨_, hp, Or.inl ⟨rfl, of_decide_eq_true h2⟩⟩
    · rename_i hp
      exact ⟨_, hp, Or.inr ⟨Or.inl ⟨_, rfl⟩, of_decide_eq_true h2⟩⟩
    · rename_i hp
      exact ⟨_, hp, Or.inr ⟨Or.inr ⟨_, rfl⟩, of_decide_eq_true h2⟩⟩
    · cases h2
  · have h5 := List.all_eq_true.mp h4 k (List.mem_range.mpr hk)
    rw [Bool.or_eq_true, decide_eq_true_eq, decide_eq_true_eq] at h5
    exact h5.resolve_left hne
def ma_ty0 (T : u_T) (k : Nat) : FieldType := (parseFieldDescriptor (T k).2.2.1).getD .int
theorem ma_fit {d : String} {ty : FieldType} (h : (ty = .int ∧ d = "I") ∨ (((∃ n, ty = .object n) ∨ ∃ t, ty = .array t) ∧ ¬ d = "I")) (b sa : Nat) {v : Value} (hv : ma_vt d v = true) : narrow ty (ma_cv b sa v) = ma_cv b sa v ∧ fits ty (ma_cv b sa v) = true := by
  rcases h with ⟨rfl, hd⟩ | ⟨ht, hd⟩
  · cases v <;> simp [ma_vt, hd] at hv
    exact ⟨rfl, rfl⟩
  · cases v <;> simp [ma_vt, hd] at hv <;> rcases ht with ⟨n, rfl⟩ | ⟨t, rfl⟩ <;> exact ⟨rfl, rfl⟩
theorem ma_df_at {d : String} {ty : FieldType} (h : (ty = .int ∧ d = "I") ∨ (((∃ n, ty = .object n) ∨ ∃ t, ty = .array t) ∧ ¬ d = "I")) (b sa : Nat) : ma_cv b sa (ma_df d) = defaultValue ty := by
  unfold ma_df
  rcases h with ⟨rfl, hd⟩ | ⟨ht, hd⟩
  · rw [if_pos hd]
    rfl
  · rw [if_neg hd]
    rcases ht with ⟨n, rfl⟩ | ⟨t, rfl⟩ <;> rfl
theorem ma_out_in {i : Int32} {n : Nat} (h : ¬ ma_out i n = true) : vp_in i n := by
  intro h2
  apply h
  unfold ma_out
  rcases h2 with h2 | h2 <;> simp [h2]

section MST
variable {p : Program} {l : Launch} {e : Env} {R : Room} {s : State} {m : MethodId} {args : Array Value} {below : List Frame} {meth : Method} {c : Code} {H : Heap} {locs : List Loc} {Q : State → Prop}
variable {cls : List vw_C} {Ts NS : List Cond} {P : List ma_M} {D : va_G} {cI c2 : ClassId} {b sa : Nat} {scr : Nat × (Nat → Int32)} {mt : ma_M}
variable {pc d k s0 : Nat} {L : List (Option Value)} {st : List Value} {σ : ma_S} {ls : Array Slot}
set_option maxHeartbeats 4000000 in
set_option maxRecDepth 100000 in
theorem ma_step {hs : String} {ins : Instr} {len a q z : Nat} {f' : ma_F} (hC : ma_Ctx cls Ts NS D cI c2 b sa scr mt p s m args meth c) (hcl : ∀ x ∈ cls, ma_okC x = true ∧ ∀ w ∈ u_ws x.1 x.2.1 x.2.2, w ∈ Ts)
    (hdec : decode mt.2.1 pc = .ok (ins, len)) (hn : ma_nl ins len = true) (hlk : ma_lk cls P mt (ins, len, a, q, z) = true) (hwd : ∀ w ∈ ma_wd cls P mt (ins, len, a, q, z), w.before args s = true) (hwn : ∀ w ∈ ma_wn hs cls P mt (ins, len, a, q, z), va_Nw w s) (hfr : d ≤ R.frames) (hlo : 37 * d ≤ R.locals)
    (h : ma_one cls scr d (ins, len, a, q, z) (pc, L, st, σ, k, s0) = some f') (hkc : f'.2.2.2.2.1 ≤ R.cells) (hks : f'.2.2.2.2.2 ≤ R.slots)
    (hL : L.length = mt.2.2.1) (hl : lv_has ls mt.2.2.1 (ma_lv (ma_cv b sa) 0 L)) (hw : ma_Wd cls D cI c2 b sa σ s.heap H locs)
    (kk : ∀ (H1 : Heap) (locs1 : List Loc) (ls1 : Array Slot), f'.2.1.length = mt.2.2.1 → lv_has ls1 mt.2.2.1 (ma_lv (ma_cv b sa) 0 f'.2.1) → ma_Wd cls D cI c2 b sa f'.2.2.2.1 s.heap H1 locs1 →
      W p l e R s m args below meth c H1 locs1 f'.2.2.2.2.1 f'.2.2.2.2.2 Q (F0 m f'.1 ls1 (f'.2.2.1.map (ma_cv b sa)))) :
    W p l e R s m args below meth c H locs k s0 Q (F0 m pc ls (st.map (ma_cv b sa))) := by
  obtain ⟨hx, hb, hml, hr, hts, hown, hlocks, hin, hK, hX, hsb, hbs, hAO, hNW⟩ := hC
  cases ins with
  | iconst v =>
    obtain rfl : len = 1 := by simpa [ma_nl] using hn
    simp only [ma_one, ma_go, Option.some.injEq] at h
    subst h
    exact lv_iconst hx hb hdec rfl (kk H locs ls hL hl hw)
  | bipush v =>
    obtain rfl : len = 2 := by simpa [ma_nl] using hn
    simp only [ma_one, ma_go, Option.some.injEq] at h
    subst h
    exact lv_bipush hx hb hdec rfl (kk H locs ls hL hl hw)
  | sipush v =>
    obtain rfl : len = 3 := by simpa [ma_nl] using hn
    simp only [ma_one, ma_go, Option.some.injEq] at h
    subst h
    exact lv_sipush hx hb hdec rfl (kk H locs ls hL hl hw)
  | iload_n j =>
    obtain rfl : len = 1 := by simpa [ma_nl] using hn
    simp only [ma_one, ma_ild, ma_go] at h
    split at h
    · rename_i x hj
      cases h
      exact lv_iload_n hx hb hdec rfl (ma_lv_at hl hj) (kk H locs ls hL hl hw)
    · cases h
  | iload j =>
    obtain rfl : len = 2 := by simpa [ma_nl] using hn
    simp only [ma_one, ma_ild, ma_go] at h
    split at h
    · rename_i x hj
      cases h
      exact lv_iload hx hb hdec (ma_lv_at hl hj) (kk H locs ls hL hl hw)
    · cases h
  | aload_n j =>
    obtain rfl : len = 1 := by simpa [ma_nl] using hn
    simp only [ma_one, ma_ald, ma_go] at h
    split at h
    · rename_i x hj
      cases h
      exact lv_aload_n hx hb hdec rfl (ma_lv_at hl hj) (kk H locs ls hL hl hw)
    · rename_i x hj
      cases h
      exact lv_aload_n hx hb hdec rfl (ma_lv_at hl hj) (kk H locs ls hL hl hw)
    · cases h
  | aload j =>
    obtain rfl : len = 2 := by simpa [ma_nl] using hn
    simp only [ma_one, ma_ald, ma_go] at h
    split at h
    · rename_i x hj
      cases h
      exact lv_aload hx hb hdec (ma_lv_at hl hj) (kk H locs ls hL hl hw)
    · rename_i x hj
      cases h
      exact lv_aload hx hb hdec (ma_lv_at hl hj) (kk H locs ls hL hl hw)
    · cases h
  | istore_n j =>
    obtain rfl : len = 1 := by simpa [ma_nl] using hn
    simp only [ma_one, ma_sto] at h
    split at h
    · split at h
      · rename_i hj
        cases h
        exact lv_istore_n hx hb hdec rfl hl (by omega) rfl fun ls1 hl1 => kk H locs ls1 (by rw [List.length_set]; exact hL) (ma_lv_put (ma_cv_cat b sa) hj hl1) hw
      · cases h
    · cases h
  | istore j =>
    obtain rfl : len = 2 := by simpa [ma_nl] using hn
    simp only [ma_one, ma_sto] at h
    split at h
    · split at h
      · rename_i hj
        cases h
        exact lv_istore hx hb hdec hl (by omega) rfl fun ls1 hl1 => kk H locs ls1 (by rw [List.length_set]; exact hL) (ma_lv_put (ma_cv_cat b sa) hj hl1) hw
      · cases h
    · cases h
  | astore_n j =>
    obtain rfl : len = 1 := by simpa [ma_nl] using hn
    simp only [ma_one, ma_sto] at h
    split at h
    · split at h
      · rename_i hj
        cases h
        exact lv_astore_n hx hb hdec rfl hl (by omega) rfl fun ls1 hl1 => kk H locs ls1 (by rw [List.length_set]; exact hL) (ma_lv_put (ma_cv_cat b sa) hj hl1) hw
      · cases h
    · cases h
  | astore j =>
    obtain rfl : len = 2 := by simpa [ma_nl] using hn
    simp only [ma_one, ma_sto] at h
    split at h
    · split at h
      · rename_i hj
        cases h
        exact lv_astore hx hb hdec hl (by omega) rfl fun ls1 hl1 => kk H locs ls1 (by rw [List.length_set]; exact hL) (ma_lv_put (ma_cv_cat b sa) hj hl1) hw
      · cases h
    · cases h
  | iinc j v =>
    obtain rfl : len = 3 := by simpa [ma_nl] using hn
    simp only [ma_one, ma_sto] at h
    split at h
    · rename_i x hx0
      split at h
      · rename_i hj
        cases h
        have hmem : (j, Value.int x) ∈ ma_lv (ma_cv b sa) 0 L := (ma_lv_mem (ma_cv b sa) L 0 j (.int x)).mpr ⟨j, .int x, hx0, by omega, rfl⟩
        obtain ⟨kx, hkx⟩ := List.getElem?_of_mem hmem
        exact lv_iinc hx hb hdec hl hkx rfl (by omega) rfl fun ls1 hl1 => kk H locs ls1 (by rw [List.length_set]; exact hL) (ma_lv_put (v := .int (x + Int32.ofInt v)) (ma_cv_cat b sa) hj hl1) hw
      · cases h
    · cases h
  | iadd =>
    obtain rfl : len = 1 := by simpa [ma_nl] using hn
    simp only [ma_one, ma_go] at h
    split at h
    · cases h
      exact lv_iadd hx hb hdec (kk H locs ls hL hl hw)
    · cases h
  | isub =>
    obtain rfl : len = 1 := by simpa [ma_nl] using hn
    simp only [ma_one, ma_go] at h
    split at h
    · cases h
      exact lv_isub hx hb hdec (kk H locs ls hL hl hw)
    · cases h
  | imul =>
    obtain rfl : len = 1 := by simpa [ma_nl] using hn
    simp only [ma_one, ma_go] at h
    split at h
    · cases h
      exact lv_imul hx hb hdec (kk H locs ls hL hl hw)
    · cases h
  | iand =>
    obtain rfl : len = 1 := by simpa [ma_nl] using hn
    simp only [ma_one, ma_go] at h
    split at h
    · cases h
      exact lv_iand hx hb hdec (kk H locs ls hL hl hw)
    · cases h
  | ixor =>
    obtain rfl : len = 1 := by simpa [ma_nl] using hn
    simp only [ma_one, ma_go] at h
    split at h
    · cases h
      exact lv_ixor hx hb hdec (kk H locs ls hL hl hw)
    · cases h
  | idiv =>
    obtain rfl : len = 1 := by simpa [ma_nl] using hn
    simp only [ma_one, ma_go] at h
    split at h
    · split at h
      · cases h
      · rename_i hy
        cases h
        exact lv_idiv hx hb hdec hy (kk H locs ls hL hl hw)
    · cases h
  | irem =>
    obtain rfl : len = 1 := by simpa [ma_nl] using hn
    simp only [ma_one, ma_go] at h
    split at h
    · split at h
      · cases h
      · rename_i hy
        cases h
        exact lv_irem hx hb hdec hy (kk H locs ls hL hl hw)
    · cases h
  | ineg =>
    obtain rfl : len = 1 := by simpa [ma_nl] using hn
    simp only [ma_one, ma_go] at h
    split at h
    · cases h
      exact lv_ineg hx hb hdec (kk H locs ls hL hl hw)
    · cases h
  | dup =>
    obtain rfl : len = 1 := by simpa [ma_nl] using hn
    simp only [ma_one, ma_go] at h
    split at h
    · cases h
      exact lv_dup hx hb hdec (ma_cv_cat b sa _) (kk H locs ls hL hl hw)
    · cases h
  | dup2 =>
    obtain rfl : len = 1 := by simpa [ma_nl] using hn
    simp only [ma_one, ma_go] at h
    split at h
    · cases h
      exact lv_dup2_11 hx hb hdec (ma_cv_cat b sa _) (ma_cv_cat b sa _) (kk H locs ls hL hl hw)
    · cases h
  | dup_x1 =>
    obtain rfl : len = 1 := by simpa [ma_nl] using hn
    simp only [ma_one, ma_go] at h
    split at h
    · cases h
      exact lv_dup_x1 hx hb hdec (ma_cv_cat b sa _) (ma_cv_cat b sa _) (kk H locs ls hL hl hw)
    · cases h
  | pop =>
    obtain rfl : len = 1 := by simpa [ma_nl] using hn
    simp only [ma_one, ma_go] at h
    split at h
    · cases h
      exact lv_pop hx hb hdec (ma_cv_cat b sa _) (kk H locs ls hL hl hw)
    · cases h
  | ifCond cnd o =>
    obtain rfl : len = 3 := by simpa [ma_nl] using hn
    cases cnd with
    | eq =>
      simp only [ma_one, ma_br] at h
      split at h
      · split at h
        · rename_i t ht
          cases h
          refine lv_if_eq hx hb hdec (ma_tg_eq ht) (fun hp => ?_) (fun hp => ?_)
          · have k1 := kk H locs ls hL hl hw
            simpa [hp] using k1
          · have k1 := kk H locs ls hL hl hw
            simpa [hp] using k1
        · cases h
      · cases h
    | ne =>
      simp only [ma_one, ma_br] at h
      split at h
      · split at h
        · rename_i t ht
          cases h
          refine lv_if_ne hx hb hdec (ma_tg_eq ht) (fun hp => ?_) (fun hp => ?_)
          · have k1 := kk H locs ls hL hl hw
            simpa [hp] using k1
          · have k1 := kk H locs ls hL hl hw
            simpa [hp] using k1
        · cases h
      · cases h
    | lt =>
      simp only [ma_one, ma_br] at h
      split at h
      · split at h
        · rename_i t ht
          cases h
          refine lv_if_lt hx hb hdec (ma_tg_eq ht) (fun hp => ?_) (fun hp => ?_)
          · have k1 := kk H locs ls hL hl hw
            simpa [hp] using k1
          · have k1 := kk H locs ls hL hl hw
            simpa [hp] using k1
        · cases h
      · cases h
    | ge =>
      simp only [ma_one, ma_br] at h
      split at h
      · split at h
        · rename_i t ht
          cases h
          refine lv_if_ge hx hb hdec (ma_tg_eq ht) (fun hp => ?_) (fun hp => ?_)
          · have k1 := kk H locs ls hL hl hw
            simpa [hp] using k1
          · have k1 := kk H locs ls hL hl hw
            simpa [hp] using k1
        · cases h
      · cases h
    | gt =>
      simp only [ma_one, ma_br] at h
      split at h
      · split at h
        · rename_i t ht
          cases h
          refine lv_if_gt hx hb hdec (ma_tg_eq ht) (fun hp => ?_) (fun hp => ?_)
          · have k1 := kk H locs ls hL hl hw
            simpa [hp] using k1
          · have k1 := kk H locs ls hL hl hw
            simpa [hp] using k1
        · cases h
      · cases h
    | le =>
      simp only [ma_one, ma_br] at h
      split at h
      · split at h
        · rename_i t ht
          cases h
          refine lv_if_le hx hb hdec (ma_tg_eq ht) (fun hp => ?_) (fun hp => ?_)
          · have k1 := kk H locs ls hL hl hw
            simpa [hp] using k1
          · have k1 := kk H locs ls hL hl hw
            simpa [hp] using k1
        · cases h
      · cases h
  | if_icmp cnd o =>
    obtain rfl : len = 3 := by simpa [ma_nl] using hn
    cases cnd with
    | eq =>
      simp only [ma_one, ma_br] at h
      split at h
      · split at h
        · rename_i t ht
          cases h
          refine lv_icmp_eq hx hb hdec (ma_tg_eq ht) (fun hp => ?_) (fun hp => ?_)
          · have k1 := kk H locs ls hL hl hw
            simpa [hp] using k1
          · have k1 := kk H locs ls hL hl hw
            simpa [hp] using k1
        · cases h
      · cases h
    | ne =>
      simp only [ma_one, ma_br] at h
      split at h
      · split at h
        · rename_i t ht
          cases h
          refine lv_icmp_ne hx hb hdec (ma_tg_eq ht) (fun hp => ?_) (fun hp => ?_)
          · have k1 := kk H locs ls hL hl hw
            simpa [hp] using k1
          · have k1 := kk H locs ls hL hl hw
            simpa [hp] using k1
        · cases h
      · cases h
    | lt =>
      simp only [ma_one, ma_br] at h
      split at h
      · split at h
        · rename_i t ht
          cases h
          refine lv_icmp_lt hx hb hdec (ma_tg_eq ht) (fun hp => ?_) (fun hp => ?_)
          · have k1 := kk H locs ls hL hl hw
            simpa [hp] using k1
          · have k1 := kk H locs ls hL hl hw
            simpa [hp] using k1
        · cases h
      · cases h
    | ge =>
      simp only [ma_one, ma_br] at h
      split at h
      · split at h
        · rename_i t ht
          cases h
          refine lv_icmp_ge hx hb hdec (ma_tg_eq ht) (fun hp => ?_) (fun hp => ?_)
          · have k1 := kk H locs ls hL hl hw
            simpa [hp] using k1
          · have k1 := kk H locs ls hL hl hw
            simpa [hp] using k1
        · cases h
      · cases h
    | gt =>
      simp only [ma_one, ma_br] at h
      split at h
      · split at h
        · rename_i t ht
          cases h
          refine lv_icmp_gt hx hb hdec (ma_tg_eq ht) (fun hp => ?_) (fun hp => ?_)
          · have k1 := kk H locs ls hL hl hw
            simpa [hp] using k1
          · have k1 := kk H locs ls hL hl hw
            simpa [hp] using k1
        · cases h
      · cases h
    | le =>
      simp only [ma_one, ma_br] at h
      split at h
      · split at h
        · rename_i t ht
          cases h
          refine lv_icmp_le hx hb hdec (ma_tg_eq ht) (fun hp => ?_) (fun hp => ?_)
          · have k1 := kk H locs ls hL hl hw
            simpa [hp] using k1
          · have k1 := kk H locs ls hL hl hw
            simpa [hp] using k1
        · cases h
      · cases h
  | goto o =>
    obtain rfl : len = 3 := by simpa [ma_nl] using hn
    simp only [ma_one, ma_jp] at h
    split at h
    · rename_i t ht
      cases h
      exact lv_goto hx hb hdec (ma_tg_eq ht) (kk H locs ls hL hl hw)
    · cases h
  | tableswitch df lo hi os =>
    simp only [ma_one, ma_jp] at h
    split at h
    · split at h
      · rename_i hout
        split at h
        · rename_i t ht
          cases h
          exact lv_tableOut hx hb hdec hout (ma_tg_eq ht) (kk H locs ls hL hl hw)
        · cases h
      · rename_i hout
        split at h
        · rename_i o ho
          split at h
          · rename_i t ht
            cases h
            exact lv_tableIn hx hb hdec (fun g => hout (Or.inl g)) (fun g => hout (Or.inr g)) ho (ma_tg_eq ht) (kk H locs ls hL hl hw)
          · cases h
        · cases h
    · cases h
  | lookupswitch df ps =>
    simp only [ma_one, ma_jp] at h
    split at h
    · split at h
      · rename_i t ht
        cases h
        exact lv_lookup hx hb hdec (by simpa [ma_lk] using hlk) rfl (ma_tg_eq ht) (kk H locs ls hL hl hw)
      · cases h
    · cases h
  | getfield ix =>
    obtain rfl : len = 3 := by simpa [ma_nl] using hn
    simp only [ma_one, ma_go] at h
    split at h
    · split at h
      · rename_i ho
        split at h
        · rename_i hci
          split at h
          · rename_i v hv
            cases h
            obtain ⟨r, hr, -⟩ := hw.2.1 _ _ (ma_ws_at ho)
            obtain ⟨C, T, N⟩ := r
            dsimp only at hr
            rw [hci] at hr
            obtain ⟨hoC, hinC⟩ := hcl _ (List.mem_of_getElem? hr)
            have hqN : q < N := by simpa [ma_lk, hr] using hlk
            have hsame : (T q).1 = C := (ma_okC_at hoC hqN).1
            have hv' := congrArg (Option.map (ma_cv b sa)) hv
            rw [← List.getElem?_map, Option.map_some] at hv'
            subst hci
            cases z with
            | zero =>
              exact va_get hx hb hts hinC hown hK hw.2.1 _ (ma_ws_at ho) hr q hqN (hwd (.fieldLink mt.1.cls ix C (T q).2.1 (T q).2.2.1) (by simp [ma_wd, hr])) (fun x hx => by rw [← hsame]; exact hx) hv' hdec (kk H locs ls hL hl hw)
            | succ z =>
              exact va_getN hx hb hts hinC hown hK hw.2.1 _ (ma_ws_at ho) hr q hqN (va_Nw.use rfl (hwn (.fieldLinkNest mt.1.cls ix C (T q).2.1 (T q).2.2.1 hs) (by simp [ma_wn, hr]))) (fun x hx => by rw [← hsame]; exact hx) hv' hdec (kk H locs ls hL hl hw)
          · cases h
        · cases h
      · cases h
    · cases h
  | putfield ix =>
    obtain rfl : len = 3 := by simpa [ma_nl] using hn
    simp only [ma_one] at h
    split at h
    · rename_i v o st'
      split at h
      · rename_i ho hr
        split at h
        · rename_i hc3
          obtain ⟨hci, hql, hvt⟩ := hc3
          cases h
          obtain ⟨hoC, hinC⟩ := hcl _ (List.mem_of_getElem? hr)
          simp only [ma_lk, hr, Bool.and_eq_true, Bool.or_eq_true, Bool.not_eq_true', decide_eq_true_eq] at hlk
          obtain ⟨hqN, hfin⟩ := hlk
          obtain ⟨hsame, ⟨ty, hpd, hty⟩, -⟩ := ma_okC_at hoC hqN
          obtain ⟨f1, f2⟩ := ma_fit hty b sa hvt
          subst hci
          refine ma_putf hx hb hts hinC (ma_ty0 _) (fun j hj => ?_) (fun a1 h1 b1 h2 hne => (ma_okC_at hoC h1).2.2 b1 h2 hne) hown hK hw ho hr q hqN hsame ?_ (hfin.imp id fun g => ⟨hin.trans g.1, g.2⟩) (by rw [ma_ty0, hpd]; exact f1) (by rw [ma_ty0, hpd]; exact f2) hql hdec fun H1 locs1 hw1 => kk H1 locs1 ls hL hl hw1
          · obtain ⟨-, ⟨tj, hpj, -⟩, -⟩ := ma_okC_at hoC hj
            rw [ma_ty0, hpj]
            rfl
          · cases z with
            | zero => exact Or.inl (hwd _ (by simp [ma_wd, hr]))
            | succ z => exact Or.inr ⟨hs, va_Nw.use rfl (hwn _ (by simp [ma_wn, hr]))⟩
        · cases h
      · cases h
    · cases h
  | iaload =>
    obtain rfl : len = 1 := by simpa [ma_nl] using hn
    simp only [ma_one, ma_go] at h
    split at h
    · split at h
      · rename_i ho
        split at h
        · cases h
        · rename_i hin
          cases h
          exact va_iald hx hb hK hw.2.1 _ 0 (ma_ws_at ho) rfl (ma_out_in hin) hdec (kk H locs ls hL hl hw)
      · cases h
    · split at h
      · cases h
      · rename_i hin
        cases h
        exact va_sld hx hb hX (by omega) (by show ¬ b ≤ sa; omega) hw.2.2 (ma_out_in hin) hdec (kk H locs ls hL hl hw)
    · cases h
  | iastore =>
    obtain rfl : len = 1 := by simpa [ma_nl] using hn
    simp only [ma_one] at h
    split at h
    · split at h
      · rename_i ho
        split at h
        · cases h
        · rename_i hin
          cases h
          exact ma_iast hx hb hK hw ho (ma_out_in hin) hdec fun H1 locs1 hw1 => kk H1 locs1 ls hL hl hw1
      · cases h
    · cases h
  | aaload =>
    obtain rfl : len = 1 := by simpa [ma_nl] using hn
    simp only [ma_one, ma_go] at h
    split at h
    · split at h
      · rename_i ho
        split at h
        · cases h
        · rename_i hin2
          split at h
          · rename_i r hr
            cases h
            exact ma_aald hx hb hK hw.2.1 ho hr (ma_out_in hin2) hdec (kk H locs ls hL hl hw)
          · cases h
      · cases h
    · cases h
  | arraylength =>
    obtain rfl : len = 1 := by simpa [ma_nl] using hn
    simp only [ma_one, ma_go] at h
    split at h
    · split at h
      · rename_i ho
        cases h
        exact va_alen hx hb hK hw.2.1 _ 0 (ma_ws_at ho) rfl rfl hdec (kk H locs ls hL hl hw)
      · cases h
    · cases h
      exact va_slen hx hb hX (by omega) (by show ¬ b ≤ sa; omega) hw.2.2 hdec (kk H locs ls hL hl hw)
    · cases h
  | newarray at_ =>
    obtain rfl : len = 2 := by simpa [ma_nl] using hn
    cases at_ with
    | int =>
      simp only [ma_one] at h
      split at h
      · split at h
        · cases h
        · rename_i hc2
          cases h
          have n1 : ¬ _ := fun g => hc2 (Or.inl g)
          have n2 : ¬ _ := fun g => hc2 (Or.inr g)
          exact ma_newa hx hb (hwd _ (by simp [ma_wd])) hK hw hbs n1 (by omega) hkc hks hdec fun H1 hw1 => kk H1 locs ls hL hl hw1
      · cases h
    | _ => simp [ma_one] at h
  | multianewarray ix dm =>
    obtain rfl : len = 4 := by simpa [ma_nl] using hn
    by_cases hdm : dm = 2
    · subst hdm
      simp only [ma_one] at h
      split at h
      · split at h
        · cases h
        · rename_i hc2
          cases h
          have n1 : ¬ _ := fun g => hc2 (Or.inl g)
          have n2 : ¬ _ := fun g => hc2 (Or.inr (Or.inl g))
          have n3 : ¬ _ := fun g => hc2 (Or.inr (Or.inr (Or.inl g)))
          have n4 : ¬ _ := fun g => hc2 (Or.inr (Or.inr (Or.inr g)))
          have hkc' : _ ≤ R.cells := hkc
          have hks' : _ ≤ R.slots := hks
          exact ma_multi hx hb hown (hwd _ (by simp [ma_wd])) hAO (hwd _ (by simp [ma_wd])) hK hw hbs n1 n2 (by omega) (by omega) (by rw [← Nat.add_assoc]; exact hkc) (by rw [← Nat.add_assoc]; exact hks) hdec fun H1 locs1 hw1 => kk H1 locs1 ls hL hl hw1
      · cases h
    · simp [ma_one, hdm] at h
  | new ix =>
    obtain rfl : len = 3 := by simpa [ma_nl] using hn
    simp only [ma_one] at h
    split at h
    · rename_i C T N hr
      cases h
      obtain ⟨hoC, hinC⟩ := hcl _ (List.mem_of_getElem? hr)
      refine ma_newo hx hb hts hinC (ma_ty0 T) (fun j hj => ?_) hown (hwd _ (by simp [ma_wd, hr])) (hwd (.instantiable C N) (by simp [ma_wd, hr])) (hwd (.initialized C) (by simp [ma_wd, hr])) hK hw hbs hr (fun j hj => ?_) hkc hks hdec fun H1 hw1 => kk H1 locs ls hL hl hw1
      · obtain ⟨-, ⟨tj, hpj, -⟩, -⟩ := ma_okC_at hoC hj
        rw [ma_ty0, hpj]
        rfl
      · obtain ⟨-, ⟨tj, hpj, htj⟩, -⟩ := ma_okC_at hoC hj
        rw [ma_ty0, hpj]
        simp [vp_V, List.getD_eq_getElem?_getD, List.getElem?_map, List.getElem?_range hj, ma_df_at htj]
    · cases h
  | invokestatic ix =>
    obtain rfl : len = 3 := by simpa [ma_nl] using hn
    simp only [ma_one, ma_lib, ma_go] at h
    split at h
    · cases h
    · rename_i d'
      have hfr1 : 1 ≤ R.frames := by omega
      split at h
      · rename_i st'
        split at h
        · cases h
        · cases h
          exact va_mmax hx hb (hml.trans hl.1.symm) hown (hwd _ (by simp [ma_wd])) (hwd (.static Lib.Math.max.name) (by simp [ma_wd])) (hwd (.initialized "java/lang/Math") (by simp [ma_wd])) (hwd (.code Lib.Math.max.name Lib.Math.max.code 2 (some .int)) (by simp [ma_wd])) hfr1 (by rw [ma_catsum]; omega) hkc hks hdec (kk H locs ls hL hl hw)
      · rename_i st'
        split at h
        · cases h
        · cases h
          exact va_mmin hx hb (hml.trans hl.1.symm) hown (hwd _ (by simp [ma_wd])) (hwd (.static Lib.Math.min.name) (by simp [ma_wd])) (hwd (.initialized "java/lang/Math") (by simp [ma_wd])) (hwd (.code Lib.Math.min.name Lib.Math.min.code 2 (some .int)) (by simp [ma_wd])) hfr1 (by rw [ma_catsum]; omega) hkc hks hdec (kk H locs ls hL hl hw)
      · rename_i st'
        split at h
        · cases h
        · cases h
          exact va_mabs hx hb (hml.trans hl.1.symm) hown (hwd _ (by simp [ma_wd])) (hwd (.static Lib.Math.abs.name) (by simp [ma_wd])) (hwd (.initialized "java/lang/Math") (by simp [ma_wd])) (hwd (.code Lib.Math.abs.name Lib.Math.abs.code 1 (some .int)) (by simp [ma_wd])) hfr1 (by rw [ma_catsum]; omega) hkc hks hdec (kk H locs ls hL hl hw)
      · rename_i st'
        split at h
        · cases h
        · simp only [ma_cp] at h
          split at h
          · rename_i ho0 ho1
            split at h
            · cases h
            · rename_i hc5
              cases h
              exact ma_copy hx hb (hml.trans hl.1.symm) hown (hwd _ (by simp [ma_wd])) (hwd (.native arraycopyName) (by simp [ma_wd])) (hwd (.static arraycopyName) (by simp [ma_wd])) (hwd (.initialized "java/lang/System") (by simp [ma_wd])) hK hw ho0 ho1 (fun g => hc5 (Or.inl g)) (fun g => hc5 (Or.inr (Or.inl g))) (fun g => hc5 (Or.inr (Or.inr (Or.inl g)))) (Nat.not_lt.mp fun g => hc5 (Or.inr (Or.inr (Or.inr (Or.inl g))))) (Nat.not_lt.mp fun g => hc5 (Or.inr (Or.inr (Or.inr (Or.inr g))))) hfr1 (by rw [ma_catsum, show nativeFrameWords "java/lang/System" "arraycopy" 5 = 7 by decide +kernel]; omega) hdec fun H1 locs1 hw1 => kk H1 locs1 ls hL hl hw1
          · cases h
      · cases h
  | invokespecial ix =>
    obtain rfl : len = 3 := by simpa [ma_nl] using hn
    simp only [ma_one, ma_go] at h
    split at h
    · rename_i d' o st'
      split at h
      · rename_i hc2
        obtain ⟨ha, hst⟩ := hc2
        cases h
        have ha' : a = 5 := ha
        subst ha'
        exact W.objInit hx hb hown (hwd (.methodLink mt.1.cls ix Lib.objectInit) (by simp [ma_wd])) (hwd (.instanceMethod Lib.objectInit) (by simp [ma_wd])) (hwd (.code Lib.objectInit ⟨#[0xb1]⟩ 1 none) (by simp [ma_wd])) rfl (hl.1.trans hml.symm) rfl hdec (by omega) (by show 2 * 0 + _ + 12 ≤ _; rw [ma_catsum]; omega) (kk H locs ls hL hl hw)
      · cases h
    · cases h
  | _ => simp [ma_one] at h
end MST
