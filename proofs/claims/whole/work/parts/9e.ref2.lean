/-! 9e.ref2: the reference: cancelling, resting, the line by ranks, what could trade -/
theorem RK.cells {k : Nat} {S S' : sk_S} {A : ab} (h : RK k S A) (h76 : S' 76 = S 76) (h66 : S' 66 11 = S 66 11) : RK k S' A := by
  intro s hs
  have h' := h s hs
  unfold Rr at *
  rw [h76, h66]
  exact h'
theorem MI.col {N : Nat} {b : Int} {S : sk_S} {A : ab} (h : MI N b S A) {c k i : Nat} {v : Int} (hc : c < 8) (h5 : ¬ c = 5) (hk : k = mcol c) : MI N b (sk_u S k i v) (ab_u A c i v) := by
  have g1 := mcol_lt (c := c)
  have g2 := mcol_7 hc
  refine ⟨h.1.col hc hk (by omega), (h.2.1.same (B := ab_u A c i v) (fun _ => rfl) (fun j => u_ne (Or.inl (by omega)))).cells (sk_u_ne (by omega)) (by rw [sk_u_ne (by omega)]), by rw [sk_u_ne (by omega)]; exact h.2.2⟩
theorem MI.sc {N : Nat} {b : Int} {S : sk_S} {A : ab} (h : MI N b S A) {q j : Nat} {v : Int} (hq : (q = 0 ∧ j = 3) ∨ (q = 1 ∧ j = 0) ∨ (q = 2 ∧ j = 1) ∨ (q = 3 ∧ j = 2)) : MI N b (sk_u S 67 j v) (ab_u A 8 q v) :=
  ⟨h.1.sc (by omega), (h.2.1.same (B := ab_u A 8 q v) (fun _ => rfl) (fun j => u_ne (Or.inl (by omega)))).cells (sk_u_ne (by omega)) (by rw [sk_u_ne (by omega)]), by rw [sk_u_ne (by omega)]; exact h.2.2⟩
theorem MI.cells {N : Nat} {b : Int} {S S' : sk_S} {A : ab} (h : MI N b S A) (hf : ∀ q, 67 ≤ q → q ≤ 77 → S' q = S q) (h66 : S' 66 11 = S 66 11) : MI N b S' A :=
  ⟨h.1.frame (fun q a b _ => hf q a b), h.2.1.cells (hf 76 (by omega) (by omega)) h66, by rw [h66]; exact h.2.2⟩
theorem MI.leave {N : Nat} {b : Int} {S : sk_S} {A : ab} (h : MI N b S A) {i : Nat} : MI N b (sk_u (sk_u (sk_u S 72 i 0) 75 i 0) 71 i 0) (ab_u (ab_out A i) 4 i 0) := by
  have h1 := ((h.col (c := 3) (k := 72) (i := i) (v := 0) (by omega) (by omega) rfl).col (c := 7) (k := 75) (i := i) (v := 0) (by omega) (by omega) rfl).col (c := 4) (k := 71) (i := i) (v := 0) (by omega) (by omega) rfl
  refine ⟨h1.1.lines (fun q j => ?_), ?_, h1.2.2⟩
  · rw [ab_u_get, ab_u_get (A := ab_u (ab_u A 3 i 0) 7 i 0), out_1, ab_u_get, ab_u_get]
    by_cases c1 : q = 4 ∧ j = i
    · rw [if_pos c1, if_pos c1]
    · rw [if_neg c1, if_neg c1]
      by_cases c2 : (q = 3 ∨ q = 7) ∧ j = i
      · rw [if_pos c2]
        by_cases c3 : q = 7 ∧ j = i
        · rw [if_pos c3]
        · rw [if_neg c3, if_pos (by omega)]
      · rw [if_neg c2, if_neg (by omega), if_neg (by omega)]
  · refine ((h.2.1.out (i := i)).same (B := ab_u (ab_out A i) 4 i 0) (fun _ => rfl) (fun j => u_ne (Or.inl (by omega)))).cells ?_ ?_
    · rw [sk_u_ne (by omega), sk_u_ne (by omega), sk_u_ne (by omega)]
    · rw [sk_u_ne (by omega), sk_u_ne (by omega), sk_u_ne (by omega)]
theorem rp_leave {scr : Nat × (Nat → Int32)} {d i : Nat} {S : sk_S} (hi : i < 200) : EE scr d 40 0 [some (.ref 66), some (vi i)] S (pV fun S' => S' = sk_u (sk_u (sk_u S 72 i 0) 75 i 0) 71 i 0) := by
  refine st_40_0 (rg_n (by omega)) ?_
  simp only [Int.toNat_natCast]
  exact ⟨by omega, by omega, fun S1 q1 S4 q4 S7 q7 => ⟨rfl, by rw [q7, q4, q1]⟩⟩
theorem MF.leave {S : sk_S} {i : Nat} (hi : i < 200) : MF S (sk_u (sk_u (sk_u S 72 i 0) 75 i 0) 71 i 0) := ((MF.u (by omega)).trans (MF.u (by omega))).trans (MF.u (by omega))
theorem rp_drop {scr : Nat × (Nat → Int32)} {d N i : Nat} {m b B : Int} {S : sk_S} {A : ab} (hM : MI N b S A) (hW : WS N m A) (hi : i < N) (hB : rcB A B) (hB2 : B < 2147483000) :
    EE scr (d + 1) 41 0 [some (.ref 66), some (vi i)] S (pV fun S' => MI N b S' (ab_drop A i) ∧ MF S S') := by
  have hN := hW.2.1.1
  obtain ⟨o, ho, eo⟩ := hW.2.1.own hi
  have hbo := hB o ho
  have e0 : S 68 i = o := (hM.1.c (c := 0) (by omega) hi).trans eo
  have e4 : S 71 i = A.1 4 i := hM.1.c (c := 4) (by omega) hi
  have h4 := (hW.2.1.2.1 i hi).2.2.2.2.1
  refine st_41_0 (rg_n (by omega)) ?_
  simp only [Int.toNat_natCast, e0, e4]
  refine ⟨by omega, by omega, (rp_told hM.1 hi hN).I fun y S1 _ _ hy _ => ?_⟩
  obtain ⟨rfl, rfl⟩ := hy
  refine (rp_tell hM ho hbo.1 (by omega) (rg_b (by omega) (by omega)) (rg_n (by omega)) (rg_b (by omega) (by omega)) (told_rg hW hi)).V fun S6 _ h6 => ?_
  obtain ⟨m6, f6, -⟩ := h6
  refine (rp_leave (by omega)).V fun S11 _ h11 => ?_
  subst h11
  refine ⟨rfl, ?_, f6.trans (MF.leave (by omega))⟩
  unfold ab_drop
  rw [eo]
  exact m6.leave
theorem sk_u_u {S : sk_S} {k j : Nat} {v w : Int} : sk_u (sk_u S k j v) k j w = sk_u S k j w := by
  funext q i
  rw [sk_u_get, sk_u_get, sk_u_get]
  split <;> rfl
theorem rp_rest0 {scr : Nat × (Nat → Int32)} {d N i s : Nat} {b w : Int} {S0 : sk_S} {A : ab} (hM : MI N b S0 A) (hw : WFw N A) (hi : i < N) (hs : s < 2) (hsd : A.1 1 i = s) (hst : ¬ A.1 3 i = 1) (hb : b < 2147483000) :
    EE scr (d + 1) 46 0 [some (.ref 66), some (vi i)] (sk_u S0 72 i w) (pV fun S' => MI N (b + 1) S' (ab_rest A i) ∧ MF (sk_u S0 72 i w) S') := by
  have hN := hw.1
  obtain ⟨-, -, -, -, w4, w6, -⟩ := hw.2.1 i hi
  have e4 : S0 71 i = A.1 4 i := hM.1.c (c := 4) (by omega) hi
  have e6 : S0 74 i = A.1 6 i := hM.1.c (c := 6) (by omega) hi
  refine st_46_0 (rg_n (by omega)) ?_
  simp only [Int.toNat_natCast]
  refine ⟨by omega, by omega, fun S1 q1' => ?_⟩
  have q1 : S1 = sk_u S0 72 i 1 := by rw [q1', sk_u_u]
  have m1 : MI N b S1 (ab_u A 3 i 1) := by rw [q1]; exact hM.col (c := 3) (by omega) (by omega) rfl
  rw [show S1 74 i = A.1 6 i by rw [q1, sk_u_ne (by omega)]; exact e6, show S1 71 i = A.1 4 i by rw [q1, sk_u_ne (by omega)]; exact e4]
  refine (rp_least (rg_b (by omega) (by omega)) (rg_b (by omega) (by omega))).I fun y S4 _ _ hy _ S9 q9 => ?_
  obtain ⟨rfl, rfl⟩ := hy
  have m9 : MI N b S9 (ab_u (ab_u A 3 i 1) 7 i (min (A.1 6 i) (A.1 4 i))) := by rw [q9]; exact m1.col (c := 7) (by omega) (by omega) rfl
  have hb9 := m9.2.2
  refine ⟨rg_b (by omega) (by omega), fun S12 q12 S15 q15 => ⟨rfl, ⟨?_, ?_, ?_⟩, ?_⟩⟩
  · refine (m9.1.frame (S' := S15) (fun q a1 a2 a3 => ?_)).lines (fun q j => ?_)
    · rw [q15, sk_u_ne a3, q12, sk_u_ne (by omega)]
    · unfold ab_rest
      rw [ab_l_1]
  · have e66 : S12 66 11 = S9 66 11 + 1 := by rw [q12, sk_u_at]
    have e66' : S15 66 11 = S9 66 11 + 1 := by rw [q15, sk_u_ne (by omega)]; exact e66
    have e76 : ∀ j, ¬ j = i → S15 76 (200 * 0 + j) = S9 76 (200 * 0 + j) := fun j hj => by rw [q15, sk_u_nj (by omega), q12, sk_u_ne (by omega)]
    have e76i : S15 76 (200 * 0 + i) = S9 66 11 + 1 := by rw [show 200 * 0 + i = i by omega, q15, sk_u_at]; exact e66
    have hni : ∀ t, t < 2 → ¬ i ∈ A.2 t := fun t ht hm => hst (((hw.2.2 t ht).2.1 i).mp hm).2.1
    intro t ht
    have hk := m9.2.1 t ht
    have hk1 : (A.2 t).Pairwise (fun a b => Rr S9 0 (ab_u (ab_u A 3 i 1) 7 i (min (A.1 6 i) (A.1 4 i))) t a b = true) := hk.1
    have hk2 : ∀ j ∈ A.2 t, S9 76 (200 * 0 + j) ≤ S9 66 11 := hk.2
    have e5 : ∀ j, (ab_rest A i).1 5 j = A.1 5 j := fun j => rst_ne (Or.inl (by omega))
    have e5' : ∀ j, (ab_u (ab_u A 3 i 1) 7 i (min (A.1 6 i) (A.1 4 i))).1 5 j = A.1 5 j := fun j => by rw [u_ne (Or.inl (by omega)), u_ne (Or.inl (by omega))]
    have hkA : (A.2 t).Pairwise (fun a b => Rr S9 0 A t a b = true) := hk1.imp (fun {a b} hr => by
      unfold Rr at *
      rw [e5', e5'] at hr
      exact hr)
    rw [rst_2 (ab_sd_of hsd)]
    by_cases e : t = s
    · subst e
      rw [if_pos rfl]
      refine ⟨(rk_ins (S := S9) (S' := S15) hsd e76 (A.2 t) (hni t ht) hkA (fun j hj => ?_)).imp (fun {a b} hr => ?_), fun j hj => ?_⟩
      · rw [e76i]
        have := hk2 j hj
        omega
      · unfold Rr at *
        rw [e5, e5]
        exact hr
      · rw [e66']
        rcases mem_ins.mp hj with g | g
        · rw [g, e76i]
          exact Int.le_refl _
        · have hji : ¬ j = i := fun q => hni t ht (q ▸ g)
          rw [e76 j hji]
          have := hk2 j g
          omega
    · rw [if_neg e]
      refine ⟨List.Pairwise.imp_of_mem (fun {a b} ha hb hr => ?_) hkA, fun j hj => ?_⟩
      · have hai : ¬ a = i := fun q => hni t ht (q ▸ ha)
        have hbi : ¬ b = i := fun q => hni t ht (q ▸ hb)
        unfold Rr at *
        rw [e5, e5, e76 a hai, e76 b hbi]
        exact hr
      · have hji : ¬ j = i := fun q => hni t ht (q ▸ hj)
        rw [e66', e76 j hji]
        have := hk2 j hj
        omega
  · rw [q15, sk_u_ne (by omega), q12, sk_u_at]
    omega
  · rw [q15, q12, q9, q1']
    exact (((MF.u (by omega)).trans (MF.u (by omega))).trans (MF.rank (by omega))).trans (MF.u (by omega))
theorem rp_rest {scr : Nat × (Nat → Int32)} {d N i s : Nat} {b : Int} {S : sk_S} {A : ab} (hM : MI N b S A) (hw : WFw N A) (hi : i < N) (hs : s < 2) (hsd : A.1 1 i = s) (hst : ¬ A.1 3 i = 1) (hb : b < 2147483000) :
    EE scr (d + 1) 46 0 [some (.ref 66), some (vi i)] S (pV fun S' => MI N (b + 1) S' (ab_rest A i) ∧ MF S S') := by
  have h := rp_rest0 (scr := scr) (d := d) (w := S 72 i) hM hw hi hs hsd hst hb
  rw [sk_u_same rfl] at h
  exact h
theorem rp_wild {scr : Nat × (Nat → Int32)} {d N : Nat} {S : sk_S} {A : ab} {p band : Int} (hR : RM 0 N S A) (hb : S 66 0 = band) (hp : 1 ≤ p ∧ p ≤ 999) (hr : 1 ≤ A.1 8 3 ∧ A.1 8 3 ≤ 999) : EE scr d 42 0 [some (.ref 66), some (vi p), none] S (pI fun x S' => S' = S ∧ x = if ab_wild band A p = true then 1 else 0) := by
  have e : S 67 2 = A.1 8 3 := hR.1.2.2.2
  refine st_42_0 (rg_b (by omega) (by omega)) ?_
  simp only [e, hb]
  unfold ab_wild
  refine ⟨rg_b (by omega) (by omega), fun g => ⟨_, rfl, rfl, ?_⟩, fun g => ⟨rg_b (by omega) (by omega), fun g2 => ⟨_, rfl, rfl, ?_⟩, fun g2 => ⟨_, rfl, rfl, ?_⟩⟩⟩
  · rw [if_pos]
    rw [decide_eq_true_eq]
    omega
  · rw [if_neg]
    rw [decide_eq_true_eq]
    omega
  · rw [if_pos]
    rw [decide_eq_true_eq]
    omega
theorem rp_isCall {scr : Nat × (Nat → Int32)} {d N : Nat} {S : sk_S} {A : ab} (hR : RM 0 N S A) : EE scr d 36 0 [some (.ref 66)] S (pI fun x S' => S' = S ∧ x = if ab_call (A.1 8 1) = true then 1 else 0) := by
  have e : S 67 0 = A.1 8 1 := hR.1.2.1
  refine st_36_0 ?_
  rw [e]
  unfold ab_call
  simp only [decide_eq_true_eq]
  refine ⟨fun g => ⟨_, rfl, rfl, ?_⟩, fun g => ⟨fun g2 => ⟨_, rfl, rfl, ?_⟩, fun g2 => ⟨fun g3 => ⟨_, rfl, rfl, ?_⟩, fun g3 => ⟨_, rfl, rfl, ?_⟩⟩⟩⟩
  · rw [if_pos (by omega)]
  · rw [if_pos (by omega)]
  · rw [if_neg (by omega)]
  · rw [if_pos (by omega)]
theorem rp_open {scr : Nat × (Nat → Int32)} {d N : Nat} {S : sk_S} {A : ab} (hR : RM 0 N S A) (hn : A.1 8 0 = N) (hN : N ≤ 200) : EE scr d 37 0 [some (.ref 66), none, none] S (pI fun x S' => S' = S ∧ x = ab_open A) := by
  have e3 : S 67 3 = N := by
    have := hR.1.1
    rw [show 16 * 0 + 3 = 3 by omega] at this
    rw [this, hn]
  have en : ab_n A = N := by unfold ab_n; rw [hn, Int.toNat_natCast]
  have loop : ∀ (f k : Nat), k + f = N → EE scr d 37 4 [some (.ref 66), some (vi ((List.range k).countP fun i => decide (¬ A.1 3 i = 0) : Nat)), some (vi k)] S (pI fun x S' => S' = S ∧ x = ab_open A) := by
    intro f
    induction f with
    | zero =>
      intro k hk
      have hc : (List.range k).countP (fun i => decide (¬ A.1 3 i = 0)) ≤ k := Nat.le_trans List.countP_le_length (by rw [List.length_range]; exact Nat.le_refl _)
      refine st_37_4 (rg_n (by omega)) (rg_n (by omega)) ?_
      rw [e3]
      refine ⟨fun _ => ⟨_, rfl, rfl, ?_⟩, fun g => by omega⟩
      unfold ab_open
      rw [en, show k = N by omega]
    | succ f ih =>
      intro k hk
      have hc : (List.range k).countP (fun i => decide (¬ A.1 3 i = 0)) ≤ k := Nat.le_trans List.countP_le_length (by rw [List.length_range]; exact Nat.le_refl _)
      have e72 : S 72 k = A.1 3 k := hR.c (c := 3) (by omega) (by omega)
      have hs : (List.range (k + 1)).countP (fun i => decide (¬ A.1 3 i = 0)) = (List.range k).countP (fun i => decide (¬ A.1 3 i = 0)) + (if A.1 3 k = 0 then 0 else 1) := by
        rw [List.range_succ, List.countP_append]
        congr 1
        by_cases g : A.1 3 k = 0 <;> simp [g]
      have h := ih (k + 1) (by omega)
      refine st_37_4 (rg_n (by omega)) (rg_n (by omega)) ?_
      simp only [Int.toNat_natCast, e3, e72]
      refine ⟨fun g => by omega, fun _ => ⟨by omega, by omega, fun g => ?_, fun g => ?_⟩⟩
      · rw [hs, if_pos g] at h
        exact h
      · rw [hs, if_neg g] at h
        exact h
  exact st_37_0 (loop N 0 (by omega))
theorem rp_ahead {scr : Nat × (Nat → Int32)} {d N x y s : Nat} {S : sk_S} {A : ab} (hR : RM 0 N S A) (hN : N ≤ 200) (hx : x < N) (hy : y < N) (hs : s < 2) (hsd : A.1 1 x = s) : EE scr d 43 0 [some (.ref 66), some (vi x), some (vi y)] S (pI fun z S' => S' = S ∧ z = if Rr S 0 A s x y = true then 1 else 0) := by
  have e5x : S 73 x = A.1 5 x := hR.c (c := 5) (by omega) hx
  have e5y : S 73 y = A.1 5 y := hR.c (c := 5) (by omega) hy
  have e1 : S 69 x = s := (hR.c (c := 1) (by omega) hx).trans hsd
  refine st_43_0 (rg_n (by omega)) (rg_n (by omega)) ?_
  simp only [Int.toNat_natCast, e5x, e5y, e1]
  have hRr : (Rr S 0 A s x y = true) ↔ ((if (s : Int) = 0 then A.1 5 y < A.1 5 x else A.1 5 x < A.1 5 y) ∨ (A.1 5 x = A.1 5 y ∧ S 76 x < S 76 y)) := by
    unfold Rr ab_bt
    rw [Nat.mul_zero, Nat.zero_add, Nat.zero_add, Bool.or_eq_true, decide_eq_true_eq]
    split <;> simp only [decide_eq_true_eq]
  refine ⟨by omega, by omega, by omega, by omega, fun g => ⟨fun g2 => ⟨_, rfl, rfl, ?_⟩, fun g2 => ⟨_, rfl, rfl, ?_⟩⟩, fun g => ⟨fun g2 => ⟨fun g3 => ⟨_, rfl, rfl, ?_⟩, fun g3 => ⟨_, rfl, rfl, ?_⟩⟩, fun g2 => ⟨fun g3 => ⟨_, rfl, rfl, ?_⟩, fun g3 => ⟨_, rfl, rfl, ?_⟩⟩⟩⟩
  · rw [if_neg (fun h => ?_)]
    have := hRr.mp h
    split at this <;> omega
  · rw [if_pos (hRr.mpr (Or.inr ⟨g, by omega⟩))]
  · rw [if_neg (fun h => ?_)]
    have := hRr.mp h
    rw [if_neg g2] at this
    omega
  · rw [if_pos (hRr.mpr (Or.inl (by rw [if_neg g2]; omega)))]
  · rw [if_neg (fun h => ?_)]
    have := hRr.mp h
    rw [if_pos g2] at this
    omega
  · rw [if_pos (hRr.mpr (Or.inl (by rw [if_pos g2]; omega)))]
