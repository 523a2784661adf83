/-! 99.cls13: the class: saving and coming back (the copies written by gen4.py) -/
theorem sk_r_ne {S : sk_S} {k : Nat} {g : Nat → Int} {k' : Nat} (h : ¬ k' = k) : sk_r S k g k' = S k' := by rw [sk_r_get, if_neg h]
theorem sk_r_at {S : sk_S} {k : Nat} {g : Nat → Int} : sk_r S k g k = g := by rw [sk_r_get, if_pos rfl]
theorem cp_get (f g : Nat → Int) (n k : Nat) : sk_cp f g 0 0 n k = if k < n then f k else g k := by
  unfold sk_cp
  by_cases h : k < n
  · rw [if_pos ⟨Nat.zero_le _, by omega⟩, if_pos h, Nat.zero_add, Nat.sub_zero]
  · rw [if_neg (by omega), if_neg h]
def BC (o r N : Nat) (S S' : sk_S) : Prop := S' (10 + o) 0 = S (10 + r) 0 ∧ (∀ c, c < 8 → ∀ i, i < N → S' (11 + o + c) i = S (11 + r + c) i) ∧ (∀ s, s < 2 → S' (22 + o) s = S (22 + r) s ∧ ∀ j : Nat, (j : Int) < S (22 + r) s → S' (20 + o + s) j = S (20 + r + s) j) ∧ Fr (10 + o) (22 + o) S S'
def SSc (o r : Nat) (S S' : sk_S) : Prop := (∀ q, q < 3 → ∀ s, s < 4 → S' (24 + o + q) s = S (24 + r + q) s) ∧ (∀ s, s < 4 → ∀ j, j < 128 → S' (28 + o + s) j = S (28 + r + s) j) ∧ Fr (24 + o) (31 + o) S S'
theorem sp_booka {scr : Nat × (Nat → Int32)} {d N : Nat} {S : sk_S} (hn : S 10 0 = N) (hN : N ≤ 200) (hl : ∀ s, s < 2 → 0 ≤ S 22 s ∧ S 22 s ≤ 40) :
    EE scr (d + 1) 101 0 [some (.ref 33), some (.ref 10), none] S (pV fun S' => BC 23 0 N S S') := by
  refine st_101a_0 fun S1 q1 => ?_
  have e1 : S1 33 0 = N := by rw [q1, sk_u_at]; exact hn
  have f1 : ∀ k, (k < 33 ∨ 41 < k) → S1 k = S k := fun k hk => by rw [q1, sk_u_ne (by omega)]
  simp only [e1, Int.toNat_natCast]
  refine ⟨by omega, by omega, fun S4 q4 => ?_⟩
  have e4 : S4 33 0 = N := by rw [q4, sk_r_ne (by omega)]; exact e1
  have f4 : ∀ k, (k < 33 ∨ 41 < k) → S4 k = S k := fun k hk => by rw [q4, sk_r_ne (by omega)]; exact f1 k hk
  have c0 : ∀ i, i < N → S4 34 i = S 11 i := fun i hi => by rw [q4, sk_r_at, cp_get, if_pos hi, f1 11 (by omega)]
  simp only [e4, Int.toNat_natCast]
  refine ⟨by omega, by omega, fun S7 q7 => ?_⟩
  have e7 : S7 33 0 = N := by rw [q7, sk_r_ne (by omega)]; exact e4
  have f7 : ∀ k, (k < 33 ∨ 41 < k) → S7 k = S k := fun k hk => by rw [q7, sk_r_ne (by omega)]; exact f4 k hk
  have c1 : ∀ i, i < N → S7 35 i = S 12 i := fun i hi => by rw [q7, sk_r_at, cp_get, if_pos hi, f4 12 (by omega)]
  simp only [e7, Int.toNat_natCast]
  refine ⟨by omega, by omega, fun S10 q10 => ?_⟩
  have e10 : S10 33 0 = N := by rw [q10, sk_r_ne (by omega)]; exact e7
  have f10 : ∀ k, (k < 33 ∨ 41 < k) → S10 k = S k := fun k hk => by rw [q10, sk_r_ne (by omega)]; exact f7 k hk
  have c2 : ∀ i, i < N → S10 36 i = S 13 i := fun i hi => by rw [q10, sk_r_at, cp_get, if_pos hi, f7 13 (by omega)]
  simp only [e10, Int.toNat_natCast]
  refine ⟨by omega, by omega, fun S13 q13 => ?_⟩
  have e13 : S13 33 0 = N := by rw [q13, sk_r_ne (by omega)]; exact e10
  have f13 : ∀ k, (k < 33 ∨ 41 < k) → S13 k = S k := fun k hk => by rw [q13, sk_r_ne (by omega)]; exact f10 k hk
  have c3 : ∀ i, i < N → S13 37 i = S 14 i := fun i hi => by rw [q13, sk_r_at, cp_get, if_pos hi, f10 14 (by omega)]
  simp only [e13, Int.toNat_natCast]
  refine ⟨by omega, by omega, fun S16 q16 => ?_⟩
  have e16 : S16 33 0 = N := by rw [q16, sk_r_ne (by omega)]; exact e13
  have f16 : ∀ k, (k < 33 ∨ 41 < k) → S16 k = S k := fun k hk => by rw [q16, sk_r_ne (by omega)]; exact f13 k hk
  have c4 : ∀ i, i < N → S16 38 i = S 15 i := fun i hi => by rw [q16, sk_r_at, cp_get, if_pos hi, f13 15 (by omega)]
  simp only [e16, Int.toNat_natCast]
  refine ⟨by omega, by omega, fun S19 q19 => ?_⟩
  have e19 : S19 33 0 = N := by rw [q19, sk_r_ne (by omega)]; exact e16
  have f19 : ∀ k, (k < 33 ∨ 41 < k) → S19 k = S k := fun k hk => by rw [q19, sk_r_ne (by omega)]; exact f16 k hk
  have c5 : ∀ i, i < N → S19 39 i = S 16 i := fun i hi => by rw [q19, sk_r_at, cp_get, if_pos hi, f16 16 (by omega)]
  simp only [e19, Int.toNat_natCast]
  refine ⟨by omega, by omega, fun S22 q22 => ?_⟩
  have e22 : S22 33 0 = N := by rw [q22, sk_r_ne (by omega)]; exact e19
  have f22 : ∀ k, (k < 33 ∨ 41 < k) → S22 k = S k := fun k hk => by rw [q22, sk_r_ne (by omega)]; exact f19 k hk
  have c6 : ∀ i, i < N → S22 40 i = S 17 i := fun i hi => by rw [q22, sk_r_at, cp_get, if_pos hi, f19 17 (by omega)]
  simp only [e22, Int.toNat_natCast]
  refine ⟨by omega, by omega, fun S25 q25 => ?_⟩
  have e25 : S25 33 0 = N := by rw [q25, sk_r_ne (by omega)]; exact e22
  have f25 : ∀ k, (k < 33 ∨ 41 < k) → S25 k = S k := fun k hk => by rw [q25, sk_r_ne (by omega)]; exact f22 k hk
  have c7 : ∀ i, i < N → S25 41 i = S 18 i := fun i hi => by rw [q25, sk_r_at, cp_get, if_pos hi, f22 18 (by omega)]
  have g0 : ∀ i, i < N → S25 34 i = S 11 i := fun i hi => by rw [q25, sk_r_ne (by omega), q22, sk_r_ne (by omega), q19, sk_r_ne (by omega), q16, sk_r_ne (by omega), q13, sk_r_ne (by omega), q10, sk_r_ne (by omega), q7, sk_r_ne (by omega)]; exact c0 i hi
  have g1 : ∀ i, i < N → S25 35 i = S 12 i := fun i hi => by rw [q25, sk_r_ne (by omega), q22, sk_r_ne (by omega), q19, sk_r_ne (by omega), q16, sk_r_ne (by omega), q13, sk_r_ne (by omega), q10, sk_r_ne (by omega)]; exact c1 i hi
  have g2 : ∀ i, i < N → S25 36 i = S 13 i := fun i hi => by rw [q25, sk_r_ne (by omega), q22, sk_r_ne (by omega), q19, sk_r_ne (by omega), q16, sk_r_ne (by omega), q13, sk_r_ne (by omega)]; exact c2 i hi
  have g3 : ∀ i, i < N → S25 37 i = S 14 i := fun i hi => by rw [q25, sk_r_ne (by omega), q22, sk_r_ne (by omega), q19, sk_r_ne (by omega), q16, sk_r_ne (by omega)]; exact c3 i hi
  have g4 : ∀ i, i < N → S25 38 i = S 15 i := fun i hi => by rw [q25, sk_r_ne (by omega), q22, sk_r_ne (by omega), q19, sk_r_ne (by omega)]; exact c4 i hi
  have g5 : ∀ i, i < N → S25 39 i = S 16 i := fun i hi => by rw [q25, sk_r_ne (by omega), q22, sk_r_ne (by omega)]; exact c5 i hi
  have g6 : ∀ i, i < N → S25 40 i = S 17 i := fun i hi => by rw [q25, sk_r_ne (by omega)]; exact c6 i hi
  have g7 := c7
  have loop : ∀ (f t : Nat) (T : sk_S), t + f = 2 → (∀ s, s < t → T 45 s = S 22 s ∧ ∀ j : Nat, (j : Int) < S 22 s → T (43 + s) j = S (20 + s) j) → (∀ k, (k < 43 ∨ 45 < k) → T k = S25 k) →
      EE scr (d + 1) 101 146 [some (.ref 33), some (.ref 10), some (vi t)] T (pV fun S' => BC 23 0 N S S') := by
    intro f
    induction f with
    | zero =>
      intro t T ht h1 h2
      refine st_101a_146 (rg_n (by omega)) ⟨fun _ => ⟨rfl, ?_⟩, fun g => by omega⟩
      refine ⟨?_, fun c hc i hi => ?_, fun s hs => h1 s (by omega), fun k hk => by rw [h2 k (by omega), f25 k (by omega)]⟩
      · show T 33 0 = S 10 0
        rw [h2 33 (by omega), e25, hn]
      · rw [h2 _ (by omega)]
        rcases (show c = 0 ∨ c = 1 ∨ c = 2 ∨ c = 3 ∨ c = 4 ∨ c = 5 ∨ c = 6 ∨ c = 7 by omega) with e | e | e | e | e | e | e | e <;> subst e
        · exact g0 i hi
        · exact g1 i hi
        · exact g2 i hi
        · exact g3 i hi
        · exact g4 i hi
        · exact g5 i hi
        · exact g6 i hi
        · exact g7 i hi
    | succ f ih =>
      intro t T ht h1 h2
      have hlt := hl t (by omega)
      have e22 : T 22 t = S 22 t := by rw [h2 22 (by omega), f25 22 (by omega)]
      refine st_101a_146 (rg_n (by omega)) ⟨fun g => by omega, fun _ => ⟨by omega, by omega, fun S2 q2 => ?_⟩⟩
      simp only [Int.toNat_natCast] at q2 ⊢
      rw [e22] at q2
      have x22 : S2 45 t = S 22 t := by rw [q2, sk_u_at]
      rw [x22]
      refine ⟨by omega, by omega, fun S5 q5 => ?_⟩
      refine ih (t + 1) S5 (by omega) (fun s hs => ?_) (fun k hk => by rw [q5, sk_r_ne (by omega), q2, sk_u_ne (by omega)]; exact h2 k hk)
      by_cases e : s = t
      · subst e
        refine ⟨by rw [q5, sk_r_ne (by omega)]; exact x22, fun j hj => ?_⟩
        rw [q5, sk_r_at, cp_get, if_pos (by omega), q2, sk_u_ne (by omega), h2 (20 + s) (by omega), f25 (20 + s) (by omega)]
      · refine ⟨by rw [q5, sk_r_ne (by omega), q2, sk_u_nj e]; exact (h1 s (by omega)).1, fun j hj => ?_⟩
        rw [q5, sk_r_ne (by omega), q2, sk_u_ne (by omega)]
        exact (h1 s (by omega)).2 j hj
  exact loop 2 0 S25 (by omega) (fun s hs => by omega) (fun _ _ => rfl)
theorem sp_sesa {scr : Nat × (Nat → Int32)} {d : Nat} {S : sk_S} :
    EE scr (d + 1) 144 0 [some (.ref 46), some (.ref 23), none] S (pV fun S' => SSc 23 0 S S') := by
  refine st_144a_0 fun S1 q1 S4 q4 S7 q7 => ?_
  have f7 : ∀ k, (k < 47 ∨ 49 < k) → S7 k = S k := fun k hk => by rw [q7, sk_r_ne (by omega), q4, sk_r_ne (by omega), q1, sk_r_ne (by omega)]
  have a0 : ∀ s, s < 4 → S7 47 s = S 24 s := fun s hs => by rw [q7, sk_r_ne (by omega), q4, sk_r_ne (by omega), q1, sk_r_at, cp_get, if_pos hs]
  have a1 : ∀ s, s < 4 → S7 48 s = S 25 s := fun s hs => by rw [q7, sk_r_ne (by omega), q4, sk_r_at, cp_get, if_pos hs, q1, sk_r_ne (by omega)]
  have a2 : ∀ s, s < 4 → S7 49 s = S 26 s := fun s hs => by rw [q7, sk_r_at, cp_get, if_pos hs, q4, sk_r_ne (by omega), q1, sk_r_ne (by omega)]
  have loop : ∀ (f t : Nat) (T : sk_S), t + f = 4 → (∀ s, s < t → ∀ j, j < 128 → T (51 + s) j = S (28 + s) j) → (∀ k, (k < 51 ∨ 54 < k) → T k = S7 k) →
      EE scr (d + 1) 144 44 [some (.ref 46), some (.ref 23), some (vi t)] T (pV fun S' => SSc 23 0 S S') := by
    intro f
    induction f with
    | zero =>
      intro t T ht h1 h2
      refine st_144a_44 (rg_n (by omega)) ⟨fun _ => ⟨rfl, ?_⟩, fun g => by omega⟩
      refine ⟨fun q hq s hs => ?_, fun s hs j hj => h1 s (by omega) j hj, fun k hk => by rw [h2 k (by omega), f7 k (by omega)]⟩
      rw [h2 _ (by omega)]
      rcases (show q = 0 ∨ q = 1 ∨ q = 2 by omega) with e | e | e <;> subst e
      · exact a0 s hs
      · exact a1 s hs
      · exact a2 s hs
    | succ f ih =>
      intro t T ht h1 h2
      refine st_144a_44 (rg_n (by omega)) ⟨fun g => by omega, fun _ => ⟨by omega, by omega, fun S2 q2 => ?_⟩⟩
      simp only [Int.toNat_natCast] at q2
      refine ih (t + 1) S2 (by omega) (fun s hs j hj => ?_) (fun k hk => by rw [q2, sk_r_ne (by omega)]; exact h2 k hk)
      by_cases e : s = t
      · subst e
        rw [q2, sk_r_at, cp_get, if_pos hj, h2 (28 + s) (by omega), f7 (28 + s) (by omega)]
      · rw [q2, sk_r_ne (by omega)]
        exact h1 s (by omega) j hj
  exact loop 4 0 S7 (by omega) (fun s hs => by omega) (fun _ _ => rfl)
theorem sp_copya {scr : Nat × (Nat → Int32)} {d N : Nat} {S : sk_S} {A : ab} (hR : RC 0 N S A) (hn : A.1 8 0 = N) (hN : N ≤ 200) (hl : ∀ s, s < 2 → (A.2 s).length ≤ 40) :
    EE scr (d + 2) 146 0 [some (.ref 32), some (.ref 9)] S (pV fun S' => RC 23 N S' A ∧ Fr 32 54 S S') := by
  obtain ⟨⟨h1, h2, h3, h4⟩, h5, h6, h7, h8⟩ := hR
  have h1' : S 10 0 = A.1 8 0 := h1
  have h2' : S 9 0 = A.1 8 1 := h2
  have h3' : S 9 1 = A.1 8 2 := h3
  have h4' : S 9 2 = A.1 8 3 := h4
  have h6' : ∀ s, s < 2 → S 22 s = ((A.2 s).length : Int) := fun s hs => (h6 s hs).1
  refine st_146a_0 fun S1 q1 S4 q4 S7 q7 => ?_
  have f7 : ∀ k, ¬ k = 32 → S7 k = S k := fun k hk => by rw [q7, sk_u_ne hk, q4, sk_u_ne hk, q1, sk_u_ne hk]
  have b0 : S7 32 0 = A.1 8 1 := by rw [q7, sk_u_nj (by omega), q4, sk_u_nj (by omega), q1, sk_u_at]; exact h2'
  have b1 : S7 32 1 = A.1 8 2 := by rw [q7, sk_u_nj (by omega), q4, sk_u_at, q1, sk_u_ne (by omega)]; exact h3'
  have b2 : S7 32 2 = A.1 8 3 := by rw [q7, sk_u_at, q4, sk_u_ne (by omega), q1, sk_u_ne (by omega)]; exact h4'
  refine (sp_booka (N := N) (by rw [f7 _ (by omega)]; exact h1'.trans hn) hN (fun s hs => by
    have := hl s hs
    rw [f7 _ (by omega), h6' s hs]
    omega)).V fun S10 _ hk => ?_
  obtain ⟨k1, k2, k3, k4⟩ := hk
  refine sp_sesa.V fun S15 _ hk => ⟨rfl, ?_, ?_⟩
  · obtain ⟨j1, j2, j3⟩ := hk
    refine ⟨⟨?_, ?_, ?_, ?_⟩, fun c hc i hi => ?_, fun s hs => ⟨?_, fun j i hj => ?_⟩, fun q hq s hs => ?_, fun s hs j hj => ?_⟩
    · rw [j3 _ (by omega), k1, f7 _ (by omega)]; exact h1
    · rw [j3 _ (by omega), k4 _ (by omega)]; exact b0
    · rw [j3 _ (by omega), k4 _ (by omega)]; exact b1
    · rw [j3 _ (by omega), k4 _ (by omega)]; exact b2
    · rw [j3 _ (by omega), k2 c hc i hi, f7 _ (by omega)]; exact h5 c hc i hi
    · rw [j3 _ (by omega), (k3 s hs).1, f7 _ (by omega)]; exact (h6 s hs).1
    · have hj' : (j : Int) < S7 (22 + 0) s := by
        have := (List.getElem?_eq_some_iff.mp hj).1
        rw [f7 _ (by omega), (h6 s hs).1]
        omega
      rw [j3 _ (by omega), (k3 s hs).2 j hj', f7 _ (by omega)]; exact (h6 s hs).2 j i hj
    · rw [j1 q hq s hs, k4 _ (by omega), f7 _ (by omega)]; exact h7 q hq s hs
    · rw [j2 s hs j hj, k4 _ (by omega), f7 _ (by omega)]; exact h8 s hs j hj
  · exact fun k hk' => by rw [hk.2.2 k (by omega), k4 k (by omega), f7 k (by omega)]
theorem sp_bookb {scr : Nat × (Nat → Int32)} {d N : Nat} {S : sk_S} (hn : S 33 0 = N) (hN : N ≤ 200) (hl : ∀ s, s < 2 → 0 ≤ S 45 s ∧ S 45 s ≤ 40) :
    EE scr (d + 1) 101 0 [some (.ref 10), some (.ref 33), none] S (pV fun S' => BC 0 23 N S S') := by
  refine st_101b_0 fun S1 q1 => ?_
  have e1 : S1 10 0 = N := by rw [q1, sk_u_at]; exact hn
  have f1 : ∀ k, (k < 10 ∨ 18 < k) → S1 k = S k := fun k hk => by rw [q1, sk_u_ne (by omega)]
  simp only [e1, Int.toNat_natCast]
  refine ⟨by omega, by omega, fun S4 q4 => ?_⟩
  have e4 : S4 10 0 = N := by rw [q4, sk_r_ne (by omega)]; exact e1
  have f4 : ∀ k, (k < 10 ∨ 18 < k) → S4 k = S k := fun k hk => by rw [q4, sk_r_ne (by omega)]; exact f1 k hk
  have c0 : ∀ i, i < N → S4 11 i = S 34 i := fun i hi => by rw [q4, sk_r_at, cp_get, if_pos hi, f1 34 (by omega)]
  simp only [e4, Int.toNat_natCast]
  refine ⟨by omega, by omega, fun S7 q7 => ?_⟩
  have e7 : S7 10 0 = N := by rw [q7, sk_r_ne (by omega)]; exact e4
  have f7 : ∀ k, (k < 10 ∨ 18 < k) → S7 k = S k := fun k hk => by rw [q7, sk_r_ne (by omega)]; exact f4 k hk
  have c1 : ∀ i, i < N → S7 12 i = S 35 i := fun i hi => by rw [q7, sk_r_at, cp_get, if_pos hi, f4 35 (by omega)]
  simp only [e7, Int.toNat_natCast]
  refine ⟨by omega, by omega, fun S10 q10 => ?_⟩
  have e10 : S10 10 0 = N := by rw [q10, sk_r_ne (by omega)]; exact e7
  have f10 : ∀ k, (k < 10 ∨ 18 < k) → S10 k = S k := fun k hk => by rw [q10, sk_r_ne (by omega)]; exact f7 k hk
  have c2 : ∀ i, i < N → S10 13 i = S 36 i := fun i hi => by rw [q10, sk_r_at, cp_get, if_pos hi, f7 36 (by omega)]
  simp only [e10, Int.toNat_natCast]
  refine ⟨by omega, by omega, fun S13 q13 => ?_⟩
  have e13 : S13 10 0 = N := by rw [q13, sk_r_ne (by omega)]; exact e10
  have f13 : ∀ k, (k < 10 ∨ 18 < k) → S13 k = S k := fun k hk => by rw [q13, sk_r_ne (by omega)]; exact f10 k hk
  have c3 : ∀ i, i < N → S13 14 i = S 37 i := fun i hi => by rw [q13, sk_r_at, cp_get, if_pos hi, f10 37 (by omega)]
  simp only [e13, Int.toNat_natCast]
  refine ⟨by omega, by omega, fun S16 q16 => ?_⟩
  have e16 : S16 10 0 = N := by rw [q16, sk_r_ne (by omega)]; exact e13
  have f16 : ∀ k, (k < 10 ∨ 18 < k) → S16 k = S k := fun k hk => by rw [q16, sk_r_ne (by omega)]; exact f13 k hk
  have c4 : ∀ i, i < N → S16 15 i = S 38 i := fun i hi => by rw [q16, sk_r_at, cp_get, if_pos hi, f13 38 (by omega)]
  simp only [e16, Int.toNat_natCast]
  refine ⟨by omega, by omega, fun S19 q19 => ?_⟩
  have e19 : S19 10 0 = N := by rw [q19, sk_r_ne (by omega)]; exact e16
  have f19 : ∀ k, (k < 10 ∨ 18 < k) → S19 k = S k := fun k hk => by rw [q19, sk_r_ne (by omega)]; exact f16 k hk
  have c5 : ∀ i, i < N → S19 16 i = S 39 i := fun i hi => by rw [q19, sk_r_at, cp_get, if_pos hi, f16 39 (by omega)]
  simp only [e19, Int.toNat_natCast]
  refine ⟨by omega, by omega, fun S22 q22 => ?_⟩
  have e22 : S22 10 0 = N := by rw [q22, sk_r_ne (by omega)]; exact e19
  have f22 : ∀ k, (k < 10 ∨ 18 < k) → S22 k = S k := fun k hk => by rw [q22, sk_r_ne (by omega)]; exact f19 k hk
  have c6 : ∀ i, i < N → S22 17 i = S 40 i := fun i hi => by rw [q22, sk_r_at, cp_get, if_pos hi, f19 40 (by omega)]
  simp only [e22, Int.toNat_natCast]
  refine ⟨by omega, by omega, fun S25 q25 => ?_⟩
  have e25 : S25 10 0 = N := by rw [q25, sk_r_ne (by omega)]; exact e22
  have f25 : ∀ k, (k < 10 ∨ 18 < k) → S25 k = S k := fun k hk => by rw [q25, sk_r_ne (by omega)]; exact f22 k hk
  have c7 : ∀ i, i < N → S25 18 i = S 41 i := fun i hi => by rw [q25, sk_r_at, cp_get, if_pos hi, f22 41 (by omega)]
  have g0 : ∀ i, i < N → S25 11 i = S 34 i := fun i hi => by rw [q25, sk_r_ne (by omega), q22, sk_r_ne (by omega), q19, sk_r_ne (by omega), q16, sk_r_ne (by omega), q13, sk_r_ne (by omega), q10, sk_r_ne (by omega), q7, sk_r_ne (by omega)]; exact c0 i hi
  have g1 : ∀ i, i < N → S25 12 i = S 35 i := fun i hi => by rw [q25, sk_r_ne (by omega), q22, sk_r_ne (by omega), q19, sk_r_ne (by omega), q16, sk_r_ne (by omega), q13, sk_r_ne (by omega), q10, sk_r_ne (by omega)]; exact c1 i hi
  have g2 : ∀ i, i < N → S25 13 i = S 36 i := fun i hi => by rw [q25, sk_r_ne (by omega), q22, sk_r_ne (by omega), q19, sk_r_ne (by omega), q16, sk_r_ne (by omega), q13, sk_r_ne (by omega)]; exact c2 i hi
  have g3 : ∀ i, i < N → S25 14 i = S 37 i := fun i hi => by rw [q25, sk_r_ne (by omega), q22, sk_r_ne (by omega), q19, sk_r_ne (by omega), q16, sk_r_ne (by omega)]; exact c3 i hi
  have g4 : ∀ i, i < N → S25 15 i = S 38 i := fun i hi => by rw [q25, sk_r_ne (by omega), q22, sk_r_ne (by omega), q19, sk_r_ne (by omega)]; exact c4 i hi
  have g5 : ∀ i, i < N → S25 16 i = S 39 i := fun i hi => by rw [q25, sk_r_ne (by omega), q22, sk_r_ne (by omega)]; exact c5 i hi
  have g6 : ∀ i, i < N → S25 17 i = S 40 i := fun i hi => by rw [q25, sk_r_ne (by omega)]; exact c6 i hi
  have g7 := c7
  have loop : ∀ (f t : Nat) (T : sk_S), t + f = 2 → (∀ s, s < t → T 22 s = S 45 s ∧ ∀ j : Nat, (j : Int) < S 45 s → T (20 + s) j = S (43 + s) j) → (∀ k, (k < 20 ∨ 22 < k) → T k = S25 k) →
      EE scr (d + 1) 101 146 [some (.ref 10), some (.ref 33), some (vi t)] T (pV fun S' => BC 0 23 N S S') := by
    intro f
    induction f with
    | zero =>
      intro t T ht h1 h2
      refine st_101b_146 (rg_n (by omega)) ⟨fun _ => ⟨rfl, ?_⟩, fun g => by omega⟩
      refine ⟨?_, fun c hc i hi => ?_, fun s hs => h1 s (by omega), fun k hk => by rw [h2 k (by omega), f25 k (by omega)]⟩
      · show T 10 0 = S 33 0
        rw [h2 10 (by omega), e25, hn]
      · rw [h2 _ (by omega)]
        rcases (show c = 0 ∨ c = 1 ∨ c = 2 ∨ c = 3 ∨ c = 4 ∨ c = 5 ∨ c = 6 ∨ c = 7 by omega) with e | e | e | e | e | e | e | e <;> subst e
        · exact g0 i hi
        · exact g1 i hi
        · exact g2 i hi
        · exact g3 i hi
        · exact g4 i hi
        · exact g5 i hi
        · exact g6 i hi
        · exact g7 i hi
    | succ f ih =>
      intro t T ht h1 h2
      have hlt := hl t (by omega)
      have e22 : T 45 t = S 45 t := by rw [h2 45 (by omega), f25 45 (by omega)]
      refine st_101b_146 (rg_n (by omega)) ⟨fun g => by omega, fun _ => ⟨by omega, by omega, fun S2 q2 => ?_⟩⟩
      simp only [Int.toNat_natCast] at q2 ⊢
      rw [e22] at q2
      have x22 : S2 22 t = S 45 t := by rw [q2, sk_u_at]
      rw [x22]
      refine ⟨by omega, by omega, fun S5 q5 => ?_⟩
      refine ih (t + 1) S5 (by omega) (fun s hs => ?_) (fun k hk => by rw [q5, sk_r_ne (by omega), q2, sk_u_ne (by omega)]; exact h2 k hk)
      by_cases e : s = t
      · subst e
        refine ⟨by rw [q5, sk_r_ne (by omega)]; exact x22, fun j hj => ?_⟩
        rw [q5, sk_r_at, cp_get, if_pos (by omega), q2, sk_u_ne (by omega), h2 (43 + s) (by omega), f25 (43 + s) (by omega)]
      · refine ⟨by rw [q5, sk_r_ne (by omega), q2, sk_u_nj e]; exact (h1 s (by omega)).1, fun j hj => ?_⟩
        rw [q5, sk_r_ne (by omega), q2, sk_u_ne (by omega)]
        exact (h1 s (by omega)).2 j hj
  exact loop 2 0 S25 (by omega) (fun s hs => by omega) (fun _ _ => rfl)
theorem sp_sesb {scr : Nat × (Nat → Int32)} {d : Nat} {S : sk_S} :
    EE scr (d + 1) 144 0 [some (.ref 23), some (.ref 46), none] S (pV fun S' => SSc 0 23 S S') := by
  refine st_144b_0 fun S1 q1 S4 q4 S7 q7 => ?_
  have f7 : ∀ k, (k < 24 ∨ 26 < k) → S7 k = S k := fun k hk => by rw [q7, sk_r_ne (by omega), q4, sk_r_ne (by omega), q1, sk_r_ne (by omega)]
  have a0 : ∀ s, s < 4 → S7 24 s = S 47 s := fun s hs => by rw [q7, sk_r_ne (by omega), q4, sk_r_ne (by omega), q1, sk_r_at, cp_get, if_pos hs]
  have a1 : ∀ s, s < 4 → S7 25 s = S 48 s := fun s hs => by rw [q7, sk_r_ne (by omega), q4, sk_r_at, cp_get, if_pos hs, q1, sk_r_ne (by omega)]
  have a2 : ∀ s, s < 4 → S7 26 s = S 49 s := fun s hs => by rw [q7, sk_r_at, cp_get, if_pos hs, q4, sk_r_ne (by omega), q1, sk_r_ne (by omega)]
  have loop : ∀ (f t : Nat) (T : sk_S), t + f = 4 → (∀ s, s < t → ∀ j, j < 128 → T (28 + s) j = S (51 + s) j) → (∀ k, (k < 28 ∨ 31 < k) → T k = S7 k) →
      EE scr (d + 1) 144 44 [some (.ref 23), some (.ref 46), some (vi t)] T (pV fun S' => SSc 0 23 S S') := by
    intro f
    induction f with
    | zero =>
      intro t T ht h1 h2
      refine st_144b_44 (rg_n (by omega)) ⟨fun _ => ⟨rfl, ?_⟩, fun g => by omega⟩
      refine ⟨fun q hq s hs => ?_, fun s hs j hj => h1 s (by omega) j hj, fun k hk => by rw [h2 k (by omega), f7 k (by omega)]⟩
      rw [h2 _ (by omega)]
      rcases (show q = 0 ∨ q = 1 ∨ q = 2 by omega) with e | e | e <;> subst e
      · exact a0 s hs
      · exact a1 s hs
      · exact a2 s hs
    | succ f ih =>
      intro t T ht h1 h2
      refine st_144b_44 (rg_n (by omega)) ⟨fun g => by omega, fun _ => ⟨by omega, by omega, fun S2 q2 => ?_⟩⟩
      simp only [Int.toNat_natCast] at q2
      refine ih (t + 1) S2 (by omega) (fun s hs j hj => ?_) (fun k hk => by rw [q2, sk_r_ne (by omega)]; exact h2 k hk)
      by_cases e : s = t
      · subst e
        rw [q2, sk_r_at, cp_get, if_pos hj, h2 (51 + s) (by omega), f7 (51 + s) (by omega)]
      · rw [q2, sk_r_ne (by omega)]
        exact h1 s (by omega) j hj
  exact loop 4 0 S7 (by omega) (fun s hs => by omega) (fun _ _ => rfl)
theorem sp_copyb {scr : Nat × (Nat → Int32)} {d N : Nat} {S : sk_S} {A : ab} (hR : RC 23 N S A) (hn : A.1 8 0 = N) (hN : N ≤ 200) (hl : ∀ s, s < 2 → (A.2 s).length ≤ 40) :
    EE scr (d + 2) 146 0 [some (.ref 9), some (.ref 32)] S (pV fun S' => RC 0 N S' A ∧ Fr 9 31 S S') := by
  obtain ⟨⟨h1, h2, h3, h4⟩, h5, h6, h7, h8⟩ := hR
  have h1' : S 33 0 = A.1 8 0 := h1
  have h2' : S 32 0 = A.1 8 1 := h2
  have h3' : S 32 1 = A.1 8 2 := h3
  have h4' : S 32 2 = A.1 8 3 := h4
  have h6' : ∀ s, s < 2 → S 45 s = ((A.2 s).length : Int) := fun s hs => (h6 s hs).1
  refine st_146b_0 fun S1 q1 S4 q4 S7 q7 => ?_
  have f7 : ∀ k, ¬ k = 9 → S7 k = S k := fun k hk => by rw [q7, sk_u_ne hk, q4, sk_u_ne hk, q1, sk_u_ne hk]
  have b0 : S7 9 0 = A.1 8 1 := by rw [q7, sk_u_nj (by omega), q4, sk_u_nj (by omega), q1, sk_u_at]; exact h2'
  have b1 : S7 9 1 = A.1 8 2 := by rw [q7, sk_u_nj (by omega), q4, sk_u_at, q1, sk_u_ne (by omega)]; exact h3'
  have b2 : S7 9 2 = A.1 8 3 := by rw [q7, sk_u_at, q4, sk_u_ne (by omega), q1, sk_u_ne (by omega)]; exact h4'
  refine (sp_bookb (N := N) (by rw [f7 _ (by omega)]; exact h1'.trans hn) hN (fun s hs => by
    have := hl s hs
    rw [f7 _ (by omega), h6' s hs]
    omega)).V fun S10 _ hk => ?_
  obtain ⟨k1, k2, k3, k4⟩ := hk
  refine sp_sesb.V fun S15 _ hk => ⟨rfl, ?_, ?_⟩
  · obtain ⟨j1, j2, j3⟩ := hk
    refine ⟨⟨?_, ?_, ?_, ?_⟩, fun c hc i hi => ?_, fun s hs => ⟨?_, fun j i hj => ?_⟩, fun q hq s hs => ?_, fun s hs j hj => ?_⟩
    · rw [j3 _ (by omega), k1, f7 _ (by omega)]; exact h1
    · rw [j3 _ (by omega), k4 _ (by omega)]; exact b0
    · rw [j3 _ (by omega), k4 _ (by omega)]; exact b1
    · rw [j3 _ (by omega), k4 _ (by omega)]; exact b2
    · rw [j3 _ (by omega), k2 c hc i hi, f7 _ (by omega)]; exact h5 c hc i hi
    · rw [j3 _ (by omega), (k3 s hs).1, f7 _ (by omega)]; exact (h6 s hs).1
    · have hj' : (j : Int) < S7 (22 + 23) s := by
        have := (List.getElem?_eq_some_iff.mp hj).1
        rw [f7 _ (by omega), (h6 s hs).1]
        omega
      rw [j3 _ (by omega), (k3 s hs).2 j hj', f7 _ (by omega)]; exact (h6 s hs).2 j i hj
    · rw [j1 q hq s hs, k4 _ (by omega), f7 _ (by omega)]; exact h7 q hq s hs
    · rw [j2 s hs j hj, k4 _ (by omega), f7 _ (by omega)]; exact h8 s hs j hj
  · exact fun k hk' => by rw [hk.2.2 k (by omega), k4 k (by omega), f7 k (by omega)]
