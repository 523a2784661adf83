/-! 9j.ref7: the reference: fill, auction, copy (its nine columns written by gen5.py) -/
theorem lnI_nil {k : Nat} : lnI [] k = -1 := by unfold lnI; simp
theorem rp_fillLoop {scr : Nat × (Nat → Int32)} {d N s : Nat} {p m : Int} (hs : s < 2) (hp : rg p) : ∀ (f : Nat) (S S0 : sk_S) (A : ab) (left x3 b B : Int) (l4 l5 : Option Value) (P : sk_S → Prop), MI N b S A → WS N m A → ((x3 = lnI (A.2 s) 0 ∧ (A.2 s).length ≤ f) ∨ left ≤ 0) → rg x3 → 0 ≤ left → left ≤ 100000 → rcB A B → B + f < 2147483000 → S 66 15 = p → MF S0 S → S 66 = S0 66 → (∀ S', MI N b S' (ab_fill s p f A left) → MF S0 S' → S' 66 = S0 66 → P S') →
    EE scr (d + 2) 56 12 [some (.ref 66), some (vi s), some (vi left), some (vi x3), l4, l5] S (pV P) := by
  intro f
  induction f with
  | zero =>
    intro S S0 A left x3 b B l4 l5 P hM hW hx rx hl0 hl1 hB hB2 h15 f0 f66 hP
    refine st_56_12 (rg_n (by omega)) (rg_b (by omega) (by omega)) rx ⟨fun _ => ⟨rfl, hP S hM f0 f66⟩, fun g => ⟨fun _ => ⟨rfl, hP S hM f0 f66⟩, fun g2 => ?_⟩⟩
    rcases hx with ⟨h1, h2⟩ | h
    · have : A.2 s = [] := List.length_eq_zero_iff.mp (by omega)
      rw [this, lnI_nil] at h1
      omega
    · exact absurd h g
  | succ f ih =>
    intro S S0 A left x3 b B l4 l5 P hM hW hx rx hl0 hl1 hB hB2 h15 f0 f66 hP
    have hN := hW.2.1.1
    unfold ab_fill at hP
    refine st_56_12 (rg_n (by omega)) (rg_b (by omega) (by omega)) rx ⟨fun g => ?_, fun g => ?_⟩
    · rw [if_neg (by omega)] at hP
      exact ⟨rfl, hP S hM f0 f66⟩
    · rw [if_pos (by omega)] at hP
      rcases hx with ⟨h1, h2⟩ | h
      · cases hl : A.2 s with
        | nil =>
          rw [hl] at hP h1
          rw [lnI_nil] at h1
          exact ⟨fun _ => ⟨rfl, hP S hM f0 f66⟩, fun g2 => by omega⟩
        | cons i l =>
          rw [hl] at hP h1
          dsimp only at hP
          have ei : x3 = i := h1
          subst ei
          have him : i ∈ A.2 s := by rw [hl]; exact List.mem_cons_self
          obtain ⟨c0, c1, c2⟩ := hW.2.1.2.2 s hs
          obtain ⟨a1, a2, a3⟩ := (c1 i).mp him
          have hb7 := (hW.2.2.2.2.2.2.1 i a1).2.2.1 a2
          obtain ⟨-, -, -, -, v4, v6, -⟩ := hW.2.1.2.1 i a1
          obtain ⟨o, ho, eo⟩ := hW.2.1.own a1
          have e4 : S 71 i = A.1 4 i := hM.1.c (c := 4) (by omega) a1
          have e0 : S 68 i = o := (hM.1.c (c := 0) (by omega) a1).trans eo
          have e6 : S 74 i = A.1 6 i := hM.1.c (c := 6) (by omega) a1
          have hbo := hB o ho
          refine ⟨fun q => by omega, fun _ => (rp_behind hM.1 hM.2.1 hW hs (k := 1) (x := i) (Or.inr ⟨0, i, rfl, rfl, by rw [hl]; rfl⟩)).I fun y4 S3 _ ry4 hy _ => ?_⟩
          obtain ⟨rfl, rfl⟩ := hy
          simp only [Int.toNat_natCast, e4]
          refine ⟨by omega, by omega, (rp_least (rg_b (by omega) (by omega)) (rg_b (by omega) (by omega))).I fun y9 S8 _ _ hy _ => ?_⟩
          obtain ⟨rfl, rfl⟩ := hy
          rw [e0, h15]
          obtain ⟨fw, fb⟩ := fill1_ws (p := p) hW hs him (show 1 ≤ min left (A.1 4 i) by omega) (by omega) hB
          generalize hv : min left (A.1 4 i) = v at *
          have hv1 : 1 ≤ v ∧ v ≤ A.1 4 i ∧ v ≤ left := by omega
          refine (rp_tell hM ho hbo.1 (by omega) (rg_b (by omega) (by omega)) (rg_n (by omega)) (rg_b (by omega) (by omega)) hp).V fun S13 _ h13 => ?_
          obtain ⟨m13, f13, k13, -⟩ := h13
          have x4 : S13 71 i = A.1 4 i := by rw [k13 71 (by omega) (by omega)]; exact e4
          rw [x4]
          refine ⟨rg_b (by omega) (by omega), fun S18 q18 => ?_⟩
          have m18 := m13.col (c := 4) (k := 71) (i := i) (v := A.1 4 i - v) (by omega) (by omega) rfl
          rw [← q18] at m18
          have et : ab_tell (ab_u A 4 i (A.1 4 i - v)) o 2 i v p = ab_u (ab_tell A o 2 i v p) 4 i (A.1 4 i - v) := tell_u (by omega)
          rw [← et] at m18
          have y4 : S18 71 i = A.1 4 i - v := by rw [q18, sk_u_at]
          have y6 : S18 74 i = A.1 6 i := by rw [q18, sk_u_ne (by omega), k13 74 (by omega) (by omega)]; exact e6
          have y66 : S18 66 = S0 66 := by rw [q18, sk_u_ne (by omega), k13 66 (by omega) (by omega)]; exact f66
          have f18 : MF S0 S18 := (f0.trans f13).trans (by rw [q18]; exact MF.u (by omega))
          rw [y4, y6]
          rw [fill_eq, eo] at hP fw fb
          have nx : lnI (A.2 s) 1 = lnI l 0 := by rw [hl]; rfl
          have h15' : S0 66 15 = p := by rw [← f66]; exact h15
          refine ⟨fun q => ?_, fun q => ?_⟩
          · rw [if_neg q] at hP fw fb
            refine (rp_least (rg_b (by omega) (by omega)) (rg_b (by omega) (by omega))).I fun y23 S22 _ _ hy _ S27 q27 => ?_
            obtain ⟨rfl, rfl⟩ := hy
            have m27 := m18.col (c := 7) (k := 75) (i := i) (v := min (A.1 6 i) (A.1 4 i - v)) (by omega) (by omega) rfl
            rw [← q27] at m27
            exact ih S27 S0 _ (left - v) _ b (B + 1) _ _ P m27 fw (Or.inr (by omega)) ry4 (by omega) (by omega) fb (by omega) (by rw [q27, sk_u_ne (by omega), y66]; exact h15') (f18.trans (by rw [q27]; exact MF.u (by omega))) (by rw [q27, sk_u_ne (by omega)]; exact y66) hP
          · rw [if_pos q] at hP fw fb
            refine (rp_leave (by omega)).V fun S30 _ h30 => ?_
            have m30 := m18.leave (i := i)
            rw [← h30] at m30
            generalize hT : ab_tell (ab_u A 4 i (A.1 4 i - v)) o 2 i v p = T at *
            have t4 : (ab_out T i).1 4 i = 0 := by rw [out_ne (Or.inl (by omega)), ← hT, tell_1i _ (by omega), u_at]; exact q
            rw [ab_u_same t4] at m30
            have t1 : T.1 1 i = s := by rw [← hT, tell_1i _ (by omega), u_ne (Or.inl (by omega))]; exact a3
            have tl : T.2 s = i :: l := by rw [← hT]; exact hl
            have ol : (ab_out T i).2 s = l := by
              rw [out_2 (ab_sd_of t1), if_pos rfl, tl]
              rw [hl] at c0
              have hni := (List.nodup_cons.mp c0).1
              rw [List.filter_cons, if_neg (by simp)]
              exact filter_none hni
            rw [hl, List.length_cons] at h2
            exact ih S30 S0 _ (left - v) _ b (B + 1) _ _ P m30 fw (Or.inl ⟨by rw [ol]; exact nx, by rw [ol]; omega⟩) ry4 (by omega) (by omega) fb (by omega) (by rw [h30, sk_u_ne (by omega), sk_u_ne (by omega), sk_u_ne (by omega), y66]; exact h15') (f18.trans (by rw [h30]; exact MF.leave (by omega))) (by rw [h30, sk_u_ne (by omega), sk_u_ne (by omega), sk_u_ne (by omega)]; exact y66) hP
      · omega
theorem rp_fill {scr : Nat × (Nat → Int32)} {d N s : Nat} {p m left b B : Int} {S : sk_S} {A : ab} (hs : s < 2) (hp : rg p) (hM : MI N b S A) (hW : WS N m A) (h15 : S 66 15 = p) (h16 : S 66 16 = left) (hl0 : 0 ≤ left) (hl1 : left ≤ 100000) (hB : rcB A B) (hB2 : B + 40 < 2147483000) :
    EE scr (d + 2) 56 0 [some (.ref 66), some (vi s), none, none, none, none] S (pV fun S' => MI N b S' (ab_fill s p 40 A left) ∧ MF S S' ∧ S' 66 = S 66) := by
  refine st_56_0 (rg_n (by omega)) ?_
  rw [h16]
  refine (rp_behind hM.1 hM.2.1 hW hs (k := 0) (x := -1) (Or.inl ⟨rfl, rfl⟩)).I fun y S1 _ ry hy _ => ?_
  obtain ⟨rfl, rfl⟩ := hy
  have hl := (hW.2.1.2.2 s hs).2.2
  exact rp_fillLoop hs hp 40 S1 S1 A left _ b B none none _ hM hW (Or.inl ⟨rfl, hl⟩) ry hl0 hl1 hB (by omega) h15 MF.refl rfl (fun S' h1 h2 h3 => ⟨h1, h2, h3⟩)
theorem rp_auction {scr : Nat × (Nat → Int32)} {d N : Nat} {m b B : Int} {S : sk_S} {A : ab} (hM : MI N b S A) (hW : WS N m A) (hB : rcB A B) (hB2 : B < 2147000000) :
    EE scr (d + 3) 57 0 [some (.ref 66)] S (pV fun S' => MI N b S' (ab_auction A) ∧ MF S S') := by
  refine st_57_0 ?_
  refine (rp_weigh hM hW).V fun S1 _ h1 => ?_
  obtain ⟨m1, f1, w1, w2, w3⟩ := h1
  have hwp := wto_price A 999
  have hwb := weigh_bd hW 999
  have hwp' : 0 ≤ (ab_weigh A).1 ∧ (ab_weigh A).1 ≤ 999 := hwp
  have hwb' : 0 ≤ (ab_weigh A).2.1 ∧ (ab_weigh A).2.1 ≤ 40000 := ⟨hwb.1, hwb.2.1⟩
  have rp : rg (ab_weigh A).1 := rg_b (by omega) (by omega)
  unfold ab_auction
  dsimp only
  rw [w2]
  refine ⟨fun g => ?_, fun g => ?_⟩
  · rw [if_neg g]
    refine (rp_fill (s := 0) (by omega) rp m1 hW w1 w2 hwb'.1 (by omega) hB (by omega)).V fun S7 _ h7 => ?_
    obtain ⟨m7, f7, k7⟩ := h7
    obtain ⟨x1, x2⟩ := fill_ws (p := (ab_weigh A).1) (show 0 < 2 by omega) 40 A (ab_weigh A).2.1 m B hW hB
    refine (rp_fill (s := 1) (by omega) rp m7 x1 (by rw [k7]; exact w1) (by rw [k7]; exact w2) hwb'.1 (by omega) x2 (by omega)).V fun S12 _ h12 S17 q17 S20 q20 => ?_
    obtain ⟨m12, f12, k12⟩ := h12
    have e15 : S12 66 15 = (ab_weigh A).1 := by rw [k12, k7]; exact w1
    rw [e15] at q17
    have e15' : S17 66 15 = (ab_weigh A).1 := by rw [q17, sk_u_ne (by omega)]; exact e15
    rw [e15'] at q20
    have f17 : MF S12 S17 := by rw [q17]; exact MF.u (by omega)
    have f20 : MF S17 S20 := by rw [q20]; exact MF.u (by omega)
    refine ⟨rfl, ?_, (((f1.trans f7).trans f12).trans f17).trans f20⟩
    rw [q20, q17]
    exact (m12.sc (by omega)).sc (by omega)
  · rw [if_pos g]
    exact ⟨rfl, m1, f1⟩
/-- one copy of the market becomes as the other -/
def CPd (k1 k2 : Nat) (S S' : sk_S) : Prop := (∀ j, S' 67 j = if 16 * k2 ≤ j ∧ j < 16 * k2 + 16 then S 67 (16 * k1 + (j - 16 * k2)) else S 67 j) ∧ (∀ c, 68 ≤ c → c ≤ 76 → ∀ j, S' c j = if 200 * k2 ≤ j ∧ j < 200 * k2 + 200 then S c (200 * k1 + (j - 200 * k2)) else S c j) ∧ (∀ j, S' 77 j = if 512 * k2 ≤ j ∧ j < 512 * k2 + 512 then S 77 (512 * k1 + (j - 512 * k2)) else S 77 j) ∧ (∀ k, (k < 67 ∨ 77 < k) → S' k = S k)
theorem cp_step {K k1 k2 n : Nat} {f g h : Nat → Int} (hne : ¬ k1 = k2) (hn : n < K) (hg : ∀ j, g j = if K * k2 ≤ j ∧ j < K * k2 + n then f (K * k1 + (j - K * k2)) else f j) (hh : ∀ j, h j = if j = K * k2 + n then g (K * k1 + n) else g j) : ∀ j, h j = if K * k2 ≤ j ∧ j < K * k2 + (n + 1) then f (K * k1 + (j - K * k2)) else f j := by
  have hK : ¬ (K * k2 ≤ K * k1 + n ∧ K * k1 + n < K * k2 + n) := by
    intro h
    rcases Nat.lt_or_gt_of_ne hne with e | e
    · have := Nat.mul_le_mul_left K (show k1 + 1 ≤ k2 by omega)
      rw [Nat.mul_add, Nat.mul_one] at this
      omega
    · have := Nat.mul_le_mul_left K (show k2 + 1 ≤ k1 by omega)
      rw [Nat.mul_add, Nat.mul_one] at this
      omega
  intro j
  rw [hh j]
  by_cases c : j = K * k2 + n
  · rw [if_pos c, hg, if_neg hK, if_pos (by omega), c, Nat.add_sub_cancel_left]
  · rw [if_neg c, hg j]
    by_cases c2 : K * k2 ≤ j ∧ j < K * k2 + n
    · rw [if_pos c2, if_pos (by omega)]
    · rw [if_neg c2, if_neg (by omega)]
theorem rp_copy {scr : Nat × (Nat → Int32)} {d k1 k2 : Nat} {S : sk_S} (h1 : k1 < 2) (h2 : k2 < 2) (hne : ¬ k1 = k2) :
    EE scr d 35 0 [some (.ref 66), some (vi k1), some (vi k2), none, none, none] S (pV fun S' => CPd k1 k2 S S') := by
  have loop3 : ∀ (f n : Nat) (T : sk_S) (l4 l5 : Option Value), n + f = 512 → (∀ j, T 67 j = if 16 * k2 ≤ j ∧ j < 16 * k2 + 16 then S 67 (16 * k1 + (j - 16 * k2)) else S 67 j) → (∀ c, 68 ≤ c → c ≤ 76 → ∀ j, T c j = if 200 * k2 ≤ j ∧ j < 200 * k2 + 200 then S c (200 * k1 + (j - 200 * k2)) else S c j) → (∀ j, T 77 j = if 512 * k2 ≤ j ∧ j < 512 * k2 + n then S 77 (512 * k1 + (j - 512 * k2)) else S 77 j) → (∀ k, (k < 67 ∨ 77 < k) → T k = S k) →
      EE scr d 35 197 [some (.ref 66), some (vi k1), some (vi k2), some (vi n), l4, l5] T (pV fun S' => CPd k1 k2 S S') := by
    intro f
    induction f with
    | zero =>
      intro n T l4 l5 hn a1 a2 a3 a4
      rw [show n = 512 by omega] at a3 ⊢
      exact st_35_197 (rg_n (by omega)) (rg_n (by omega)) (rg_n (by omega)) ⟨fun _ => ⟨rfl, a1, a2, a3, a4⟩, fun g => by omega⟩
    | succ f ih =>
      intro n T l4 l5 hn a1 a2 a3 a4
      have i1 : (512 * (k1 : Int) + n).toNat = 512 * k1 + n := by omega
      have i2 : (512 * (k2 : Int) + n).toNat = 512 * k2 + n := by omega
      refine st_35_197 (rg_n (by omega)) (rg_n (by omega)) (rg_n (by omega)) ⟨fun g => by omega, fun _ => ⟨by omega, by omega, by omega, by omega, fun S2 q2 => ?_⟩⟩
      rw [i1, i2] at q2
      refine ih (n + 1) S2 l4 l5 (by omega) (fun j => by rw [q2, sk_u_ne (by omega)]; exact a1 j) (fun c c1 c2 j => by rw [q2, sk_u_ne (by omega)]; exact a2 c c1 c2 j) ?_ (fun k hk => by rw [q2, sk_u_ne (by omega)]; exact a4 k hk)
      refine cp_step (g := T 77) hne (by omega) a3 (fun j => ?_)
      rw [q2, sk_u_get]
      by_cases c : j = 512 * k2 + n
      · rw [if_pos ⟨rfl, c⟩, if_pos c]
      · rw [if_neg (fun g => c g.2), if_neg c]
  have loop2 : ∀ (f n : Nat) (T : sk_S) (l4 l5 : Option Value), n + f = 200 → (∀ j, T 67 j = if 16 * k2 ≤ j ∧ j < 16 * k2 + 16 then S 67 (16 * k1 + (j - 16 * k2)) else S 67 j) → (∀ c, 68 ≤ c → c ≤ 76 → ∀ j, T c j = if 200 * k2 ≤ j ∧ j < 200 * k2 + n then S c (200 * k1 + (j - 200 * k2)) else S c j) → (∀ k, (k < 67 ∨ 76 < k) → T k = S k) →
      EE scr d 35 38 [some (.ref 66), some (vi k1), some (vi k2), some (vi n), l4, l5] T (pV fun S' => CPd k1 k2 S S') := by
    intro f
    induction f with
    | zero =>
      intro n T l4 l5 hn a1 a2 a4
      rw [show n = 200 by omega] at a2 ⊢
      refine st_35_38 (rg_n (by omega)) (rg_n (by omega)) (rg_n (by omega)) ⟨fun _ => ?_, fun g => by omega⟩
      exact loop3 512 0 T l4 l5 (by omega) a1 a2 (fun j => by rw [if_neg (by omega), a4 77 (by omega)]) (fun k hk => a4 k (by omega))
    | succ f ih =>
      intro n T l4 l5 hn a1 a2 a4
      have i1 : (200 * (k1 : Int) + n).toNat = 200 * k1 + n := by omega
      have i2 : (200 * (k2 : Int) + n).toNat = 200 * k2 + n := by omega
      refine st_35_38 (rg_n (by omega)) (rg_n (by omega)) (rg_n (by omega)) ⟨fun g => by omega, fun _ => ⟨by omega, by omega, by omega, by omega, fun S2 q2 => fun S5 q5 => fun S8 q8 => fun S11 q11 => fun S14 q14 => fun S17 q17 => fun S20 q20 => fun S23 q23 => fun S26 q26 => ?_⟩⟩
      rw [i1, i2] at q2 q5 q8 q11 q14 q17 q20 q23 q26
      have fr : ∀ k, (k < 68 ∨ 76 < k) → S26 k = T k := fun k hk => by rw [q26, sk_u_ne (by omega), q23, sk_u_ne (by omega), q20, sk_u_ne (by omega), q17, sk_u_ne (by omega), q14, sk_u_ne (by omega), q11, sk_u_ne (by omega), q8, sk_u_ne (by omega), q5, sk_u_ne (by omega), q2, sk_u_ne (by omega)]
      have p68 : T 68 = T 68 := rfl
      have z68 : ∀ j, S26 68 j = if j = 200 * k2 + n then T 68 (200 * k1 + n) else T 68 j := fun j => by
        rw [q26, sk_u_ne (by omega), q23, sk_u_ne (by omega), q20, sk_u_ne (by omega), q17, sk_u_ne (by omega), q14, sk_u_ne (by omega), q11, sk_u_ne (by omega), q8, sk_u_ne (by omega), q5, sk_u_ne (by omega), q2, sk_u_get, p68]
        by_cases c : j = 200 * k2 + n
        · rw [if_pos ⟨rfl, c⟩, if_pos c]
        · rw [if_neg (fun g => c g.2), if_neg c]
      have p69 : S2 69 = T 69 := by rw [q2, sk_u_ne (by omega)]
      have z69 : ∀ j, S26 69 j = if j = 200 * k2 + n then T 69 (200 * k1 + n) else T 69 j := fun j => by
        rw [q26, sk_u_ne (by omega), q23, sk_u_ne (by omega), q20, sk_u_ne (by omega), q17, sk_u_ne (by omega), q14, sk_u_ne (by omega), q11, sk_u_ne (by omega), q8, sk_u_ne (by omega), q5, sk_u_get, p69]
        by_cases c : j = 200 * k2 + n
        · rw [if_pos ⟨rfl, c⟩, if_pos c]
        · rw [if_neg (fun g => c g.2), if_neg c]
      have p70 : S5 70 = T 70 := by rw [q5, sk_u_ne (by omega), q2, sk_u_ne (by omega)]
      have z70 : ∀ j, S26 70 j = if j = 200 * k2 + n then T 70 (200 * k1 + n) else T 70 j := fun j => by
        rw [q26, sk_u_ne (by omega), q23, sk_u_ne (by omega), q20, sk_u_ne (by omega), q17, sk_u_ne (by omega), q14, sk_u_ne (by omega), q11, sk_u_ne (by omega), q8, sk_u_get, p70]
        by_cases c : j = 200 * k2 + n
        · rw [if_pos ⟨rfl, c⟩, if_pos c]
        · rw [if_neg (fun g => c g.2), if_neg c]
      have p71 : S8 71 = T 71 := by rw [q8, sk_u_ne (by omega), q5, sk_u_ne (by omega), q2, sk_u_ne (by omega)]
      have z71 : ∀ j, S26 71 j = if j = 200 * k2 + n then T 71 (200 * k1 + n) else T 71 j := fun j => by
        rw [q26, sk_u_ne (by omega), q23, sk_u_ne (by omega), q20, sk_u_ne (by omega), q17, sk_u_ne (by omega), q14, sk_u_ne (by omega), q11, sk_u_get, p71]
        by_cases c : j = 200 * k2 + n
        · rw [if_pos ⟨rfl, c⟩, if_pos c]
        · rw [if_neg (fun g => c g.2), if_neg c]
      have p72 : S11 72 = T 72 := by rw [q11, sk_u_ne (by omega), q8, sk_u_ne (by omega), q5, sk_u_ne (by omega), q2, sk_u_ne (by omega)]
      have z72 : ∀ j, S26 72 j = if j = 200 * k2 + n then T 72 (200 * k1 + n) else T 72 j := fun j => by
        rw [q26, sk_u_ne (by omega), q23, sk_u_ne (by omega), q20, sk_u_ne (by omega), q17, sk_u_ne (by omega), q14, sk_u_get, p72]
        by_cases c : j = 200 * k2 + n
        · rw [if_pos ⟨rfl, c⟩, if_pos c]
        · rw [if_neg (fun g => c g.2), if_neg c]
      have p73 : S14 73 = T 73 := by rw [q14, sk_u_ne (by omega), q11, sk_u_ne (by omega), q8, sk_u_ne (by omega), q5, sk_u_ne (by omega), q2, sk_u_ne (by omega)]
      have z73 : ∀ j, S26 73 j = if j = 200 * k2 + n then T 73 (200 * k1 + n) else T 73 j := fun j => by
        rw [q26, sk_u_ne (by omega), q23, sk_u_ne (by omega), q20, sk_u_ne (by omega), q17, sk_u_get, p73]
        by_cases c : j = 200 * k2 + n
        · rw [if_pos ⟨rfl, c⟩, if_pos c]
        · rw [if_neg (fun g => c g.2), if_neg c]
      have p74 : S17 74 = T 74 := by rw [q17, sk_u_ne (by omega), q14, sk_u_ne (by omega), q11, sk_u_ne (by omega), q8, sk_u_ne (by omega), q5, sk_u_ne (by omega), q2, sk_u_ne (by omega)]
      have z74 : ∀ j, S26 74 j = if j = 200 * k2 + n then T 74 (200 * k1 + n) else T 74 j := fun j => by
        rw [q26, sk_u_ne (by omega), q23, sk_u_ne (by omega), q20, sk_u_get, p74]
        by_cases c : j = 200 * k2 + n
        · rw [if_pos ⟨rfl, c⟩, if_pos c]
        · rw [if_neg (fun g => c g.2), if_neg c]
      have p75 : S20 75 = T 75 := by rw [q20, sk_u_ne (by omega), q17, sk_u_ne (by omega), q14, sk_u_ne (by omega), q11, sk_u_ne (by omega), q8, sk_u_ne (by omega), q5, sk_u_ne (by omega), q2, sk_u_ne (by omega)]
      have z75 : ∀ j, S26 75 j = if j = 200 * k2 + n then T 75 (200 * k1 + n) else T 75 j := fun j => by
        rw [q26, sk_u_ne (by omega), q23, sk_u_get, p75]
        by_cases c : j = 200 * k2 + n
        · rw [if_pos ⟨rfl, c⟩, if_pos c]
        · rw [if_neg (fun g => c g.2), if_neg c]
      have p76 : S23 76 = T 76 := by rw [q23, sk_u_ne (by omega), q20, sk_u_ne (by omega), q17, sk_u_ne (by omega), q14, sk_u_ne (by omega), q11, sk_u_ne (by omega), q8, sk_u_ne (by omega), q5, sk_u_ne (by omega), q2, sk_u_ne (by omega)]
      have z76 : ∀ j, S26 76 j = if j = 200 * k2 + n then T 76 (200 * k1 + n) else T 76 j := fun j => by
        rw [q26, sk_u_get, p76]
        by_cases c : j = 200 * k2 + n
        · rw [if_pos ⟨rfl, c⟩, if_pos c]
        · rw [if_neg (fun g => c g.2), if_neg c]
      refine ih (n + 1) S26 _ _ (by omega) (fun j => by rw [fr 67 (by omega)]; exact a1 j) (fun c c1 c2 => ?_) (fun k hk => by rw [fr k (by omega)]; exact a4 k hk)
      refine cp_step (g := T c) hne (by omega) (a2 c c1 c2) ?_
      rcases (show c = 68 ∨ c = 69 ∨ c = 70 ∨ c = 71 ∨ c = 72 ∨ c = 73 ∨ c = 74 ∨ c = 75 ∨ c = 76 by omega) with e | e | e | e | e | e | e | e | e <;> subst e
      · exact z68
      · exact z69
      · exact z70
      · exact z71
      · exact z72
      · exact z73
      · exact z74
      · exact z75
      · exact z76
  have loop1 : ∀ (f n : Nat) (T : sk_S) (l4 l5 : Option Value), n + f = 16 → (∀ j, T 67 j = if 16 * k2 ≤ j ∧ j < 16 * k2 + n then S 67 (16 * k1 + (j - 16 * k2)) else S 67 j) → (∀ k, ¬ k = 67 → T k = S k) →
      EE scr d 35 2 [some (.ref 66), some (vi k1), some (vi k2), some (vi n), l4, l5] T (pV fun S' => CPd k1 k2 S S') := by
    intro f
    induction f with
    | zero =>
      intro n T l4 l5 hn a1 a4
      rw [show n = 16 by omega] at a1 ⊢
      refine st_35_2 (rg_n (by omega)) (rg_n (by omega)) (rg_n (by omega)) ⟨fun _ => ?_, fun g => by omega⟩
      exact loop2 200 0 T l4 l5 (by omega) a1 (fun c c1 c2 j => by rw [if_neg (by omega), a4 c (by omega)]) (fun k hk => a4 k (by omega))
    | succ f ih =>
      intro n T l4 l5 hn a1 a4
      have i1 : (16 * (k1 : Int) + n).toNat = 16 * k1 + n := by omega
      have i2 : (16 * (k2 : Int) + n).toNat = 16 * k2 + n := by omega
      refine st_35_2 (rg_n (by omega)) (rg_n (by omega)) (rg_n (by omega)) ⟨fun g => by omega, fun _ => ⟨by omega, by omega, by omega, by omega, fun S2 q2 => ?_⟩⟩
      rw [i1, i2] at q2
      refine ih (n + 1) S2 l4 l5 (by omega) ?_ (fun k hk => by rw [q2, sk_u_ne hk]; exact a4 k hk)
      refine cp_step (g := T 67) hne (by omega) a1 (fun j => ?_)
      rw [q2, sk_u_get]
      by_cases c : j = 16 * k2 + n
      · rw [if_pos ⟨rfl, c⟩, if_pos c]
      · rw [if_neg (fun g => c g.2), if_neg c]
  exact st_35_0 (rg_n (by omega)) (rg_n (by omega)) (loop1 16 0 S none none (by omega) (fun j => by rw [if_neg (by omega)]) (fun _ _ => rfl))
theorem RM.copy {k1 k2 N : Nat} {S S' : sk_S} {A : ab} (h : RM k1 N S A) (hc : CPd k1 k2 S S') (hN : N ≤ 200) : RM k2 N S' A := by
  obtain ⟨c1, c2, c3, -⟩ := hc
  obtain ⟨⟨h1, h2, h3, h4⟩, h5, h7, h8⟩ := h
  have r : ∀ t, t < 16 → S' 67 (16 * k2 + t) = S 67 (16 * k1 + t) := fun t ht => by rw [c1, if_pos (by omega), Nat.add_sub_cancel_left]
  refine ⟨⟨by rw [r 3 (by omega)]; exact h1, ?_, by rw [r 1 (by omega)]; exact h3, by rw [r 2 (by omega)]; exact h4⟩, fun c hc i hi => ?_, fun q hq s hs => ?_, fun s hs j hj => ?_⟩
  · have := r 0 (by omega)
    rw [Nat.add_zero, Nat.add_zero] at this
    rw [this]; exact h2
  · have g1 := mcol_lt (c := c)
    have g2 := mcol_7 hc
    rw [c2 _ (by omega) (by omega), if_pos (by omega), Nat.add_sub_cancel_left]
    exact h5 c hc i hi
  · have := r (4 + 4 * q + s) (by omega)
    rw [show 16 * k2 + (4 + 4 * q + s) = 16 * k2 + 4 + 4 * q + s by omega, show 16 * k1 + (4 + 4 * q + s) = 16 * k1 + 4 + 4 * q + s by omega] at this
    rw [this]
    exact h7 q hq s hs
  · rw [c3, if_pos (by omega), show 512 * k1 + (512 * k2 + 128 * s + j - 512 * k2) = 512 * k1 + 128 * s + j by omega]
    exact h8 s hs j hj
theorem RM.keep {k1 k2 N : Nat} {S S' : sk_S} {A : ab} (h : RM k1 N S A) (hc : CPd k1 k2 S S') (hN : N ≤ 200) (h1 : k1 < 2) (h2 : k2 < 2) (hne : ¬ k1 = k2) : RM k1 N S' A := by
  obtain ⟨c1, c2, c3, -⟩ := hc
  obtain ⟨⟨g1, g2, g3, g4⟩, g5, g7, g8⟩ := h
  refine ⟨⟨by rw [c1, if_neg (by omega)]; exact g1, by rw [c1, if_neg (by omega)]; exact g2, by rw [c1, if_neg (by omega)]; exact g3, by rw [c1, if_neg (by omega)]; exact g4⟩, fun c hc i hi => ?_, fun q hq s hs => by rw [c1, if_neg (by omega)]; exact g7 q hq s hs, fun s hs j hj => by rw [c3, if_neg (by omega)]; exact g8 s hs j hj⟩
  have a1 := mcol_lt (c := c)
  have a2 := mcol_7 hc
  rw [c2 _ (by omega) (by omega), if_neg (by omega)]
  exact g5 c hc i hi
theorem RK.copy {k1 k2 N : Nat} {S S' : sk_S} {A : ab} (h : RK k1 S A) (hc : CPd k1 k2 S S') (hw : WFw N A) : RK k2 S' A := by
  have hN := hw.1
  intro s hs
  obtain ⟨a1, a2⟩ := h s hs
  have hm : ∀ i ∈ A.2 s, i < 200 := fun i hi => by
    have := (((hw.2.2 s hs).2.1 i).mp hi).1
    omega
  have e : ∀ i, i < 200 → S' 76 (200 * k2 + i) = S 76 (200 * k1 + i) := fun i hi => by rw [hc.2.1 76 (by omega) (by omega), if_pos (by omega), Nat.add_sub_cancel_left]
  refine ⟨List.Pairwise.imp_of_mem (fun {a b} ha hb hr => ?_) a1, fun i hi => ?_⟩
  · unfold Rr at *
    rw [e a (hm a ha), e b (hm b hb)]
    exact hr
  · rw [e i (hm i hi), hc.2.2.2 66 (by omega)]
    exact a2 i hi
theorem RK.keep {k1 k2 N : Nat} {S S' : sk_S} {A : ab} (h : RK k1 S A) (hc : CPd k1 k2 S S') (hw : WFw N A) (h1 : k1 < 2) (h2 : k2 < 2) (hne : ¬ k1 = k2) : RK k1 S' A := by
  have hN := hw.1
  refine h.frame (fun i hi => by rw [hc.2.1 76 (by omega) (by omega), if_neg (by omega)]) (by rw [hc.2.2.2 66 (by omega)]; exact Int.le_refl _) (fun s hs i hi => ?_)
  have := (((hw.2.2 s hs).2.1 i).mp hi).1
  omega
