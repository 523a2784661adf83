/-! 87.cls3: the class: rest, show, cancelOrder -/
theorem LVr.frame {S S' : sk_S} (h : LVr S) (hf : ∀ k, (4 ≤ k ∧ k ≤ 7) ∨ (60 ≤ k ∧ k ≤ 61) → S' k = S k) : LVr S' := by
  intro t ht
  obtain ⟨f1, f2, f3, f4⟩ := h t ht
  rw [hf 6 (by omega), hf 7 (by omega), hf (4 + t) (by omega), hf (60 + t) (by omega)]
  exact ⟨f1, f2, f3, f4⟩
theorem LVs.frame {S S' : sk_S} {A B : ab} (h : LVs S A) (hf : ∀ k, 4 ≤ k ∧ k ≤ 5 → S' k = S k) (hl : ∀ s p, ab_lev B s p = ab_lev A s p) : LVs S' B := by
  intro t ht p hp
  rw [hf (4 + t) (by omega), hl]
  exact h t ht p hp
/-- a change of a level, and then cells of the market alone -/
theorem LVs.step {S S1 : sk_S} {A B : ab} {s p : Nat} {df : Int} (h : LVs S A) (hs : s < 2) (hc : ∀ t, t < 2 → ∀ q, S1 (4 + t) q = if t = s ∧ q = p then S (4 + s) p + df else S (4 + t) q) (hp : p < 1000) (hl : ∀ t, t < 2 → ∀ q : Nat, ab_lev B t q = ab_lev A t q + (if t = s ∧ q = p then df else 0)) : LVs S1 B := by
  intro t ht q hq
  rw [hc t ht q, hl t ht q]
  by_cases c : t = s ∧ q = p
  · rw [if_pos c, if_pos c, h s hs p hp, c.1, c.2]
  · rw [if_neg c, if_neg c, h t ht q hq, Int.add_zero]
theorem sp_show {scr : Nat × (Nat → Int32)} {d N i s : Nat} {S : sk_S} {A : ab} {v : Int} (hC : CI N S A) (hw : WFw N A) (hs : s < 2) (hi : i ∈ A.2 s) (hv0 : 0 ≤ v) (hv1 : v ≤ 1000) :
    EE scr (d + 1) 137 0 [some (.ref 1), some (vi i), some (vi v)] S (pV fun S' => CI N S' (ab_u A 7 i v) ∧ Fr 2 31 S S' ∧ S' 8 = S 8) := by
  obtain ⟨hR, hV, hL⟩ := hC
  have hw' := hw
  obtain ⟨hN, h1, h2⟩ := hw'
  obtain ⟨g0, g1, g2⟩ := h2 s hs
  obtain ⟨a1, a2, a3⟩ := (g1 i).mp hi
  obtain ⟨b1, b2, b3, b4, b5, b6, b7⟩ := h1 i a1
  have hp := b4 a2
  have e1 : S 12 i = s := (hR.2.1 1 (by omega) i a1).trans a3
  have e5 : S 16 i = A.1 5 i := hR.2.1 5 (by omega) i a1
  have e7 : S 18 i = A.1 7 i := hR.2.1 7 (by omega) i a1
  obtain ⟨p, hpp⟩ : ∃ p : Nat, A.1 5 i = p := ⟨(A.1 5 i).toNat, by omega⟩
  have hlv := hw.lev hs (A.1 5 i)
  have hsum : S (4 + s) p = ab_lev A s (A.1 5 i) := by rw [hV s hs p (by omega), hpp]
  refine st_137_0 (rg_n (by omega)) (rg_b (by omega) (by omega)) ?_
  simp only [Int.toNat_natCast, e1, e5, e7]
  refine ⟨by omega, by omega, ?_⟩
  rw [hpp]
  refine (sp_change hL hs (by omega) (rg_b (by omega) (by omega)) (rg_b (by rw [hsum]; omega) (by rw [hsum]; omega))).V fun S1 _ hc => ?_
  obtain ⟨c1, c2, c3⟩ := hc
  have hR1 : RC 0 N S1 A := hR.frame fun k k1 k2 => c2 k (by omega)
  intro S6 q6
  subst q6
  refine ⟨rfl, ⟨hR1.col (by omega) (by omega), ?_, c1.frame fun k hk => sk_u_ne (by omega)⟩, fun k hk => by rw [sk_u_ne (by omega), c2 k (by omega)], by rw [sk_u_ne (by omega), c2 8 (by omega)]⟩
  refine LVs.step hV hs (df := v - A.1 7 i) (p := p) (fun t ht q => by rw [sk_u_ne (by omega)]; exact c3 t ht q) (by omega) (fun t ht q => ?_)
  rw [lev_show hw hs hi ht]
  by_cases c : t = s ∧ q = p
  · rw [if_pos c, if_pos ⟨c.1, by omega⟩]
  · rw [if_neg c, if_neg (by omega)]
theorem sp_rest {scr : Nat × (Nat → Int32)} {d N i s : Nat} {S : sk_S} {A : ab} (hC : CI N S A) (hw : WFw N A) (hi : i < N) (hs : s < 2) (hsd : A.1 1 i = s) (hst : ¬ A.1 3 i = 1) (hp : 1 ≤ A.1 5 i ∧ A.1 5 i ≤ 999) (hlen : (A.2 s).length ≤ 39) (hsr : Srt A s) :
    EE scr (d + 1) 135 0 [some (.ref 1), some (vi i), none] S (pV fun S' => CI N S' (ab_rest A i) ∧ Fr 2 31 S S') := by
  obtain ⟨hR, hV, hL⟩ := hC
  have hw' := hw
  obtain ⟨hN, h1, h2⟩ := hw'
  obtain ⟨b1, b2, b3, b4, b5, b6, b7⟩ := h1 i hi
  have hni : ¬ i ∈ A.2 s := fun q => hst (((h2 s hs).2.1 i).mp q).2.1
  have e1 : S 12 i = s := (hR.2.1 1 (by omega) i hi).trans hsd
  have e5 : S 16 i = A.1 5 i := hR.2.1 5 (by omega) i hi
  have e6 : S 17 i = A.1 6 i := hR.2.1 6 (by omega) i hi
  have e4 : S 15 i = A.1 4 i := hR.2.1 4 (by omega) i hi
  obtain ⟨p, hpp⟩ : ∃ p : Nat, A.1 5 i = p := ⟨(A.1 5 i).toNat, by omega⟩
  have hlv := hw.lev hs (A.1 5 i)
  have hsum : S (4 + s) p = ab_lev A s (A.1 5 i) := by rw [hV s hs p (by omega), hpp]
  refine st_135_0 (rg_n (by omega)) ?_
  simp only [Int.toNat_natCast, e4, e6]
  refine ⟨by omega, by omega, fun S1 q1 S4 q4 => ?_⟩
  subst q1 q4
  have hR1 := (hR.col (c := 3) (k := 14) (i := i) (v := 1) (by omega) (by omega)).col (c := 7) (k := 18) (i := i) (v := min (A.1 6 i) (A.1 4 i)) (by omega) (by omega)
  have k5 : ∀ j, (ab_u (ab_u A 3 i 1) 7 i (min (A.1 6 i) (A.1 4 i))).1 5 j = A.1 5 j := fun j => by rw [ab_u_get, ab_u_get, if_neg (by omega), if_neg (by omega)]
  have k1 : (ab_u (ab_u A 3 i 1) 7 i (min (A.1 6 i) (A.1 4 i))).1 1 i = A.1 1 i := by rw [ab_u_get, ab_u_get, if_neg (by omega), if_neg (by omega)]
  refine (sp_join (s := s) hR1 hi hN hs (k1.trans hsd) hlen (fun j hj => ?_) (by rw [k5]; exact hp) (by unfold Srt; simp only [k5]; exact hsr)).V fun S7 _ hd => ?_
  · have hj' := ((h2 s hs).2.1 j).mp hj
    rw [k5]
    exact ⟨hj'.1, (h1 j hj'.1).2.2.2.1 hj'.2.1⟩
  obtain ⟨d1, d2⟩ := hd
  have f12 : S7 12 i = s := by rw [d2 12 (by omega), sk_u_ne (by omega), sk_u_ne (by omega)]; exact e1
  have f16 : S7 16 i = p := by rw [d2 16 (by omega), sk_u_ne (by omega), sk_u_ne (by omega), e5, hpp]
  rw [f12, f16]
  have hL7 : LVr S7 := hL.frame fun k hk => by rw [d2 k (by omega), sk_u_ne (by omega), sk_u_ne (by omega)]
  have h47 : S7 (4 + s) = S (4 + s) := by rw [d2 (4 + s) (by omega), sk_u_ne (by omega), sk_u_ne (by omega)]
  refine (sp_change hL7 hs (by omega) (rg_b (by omega) (by omega)) (rg_b (by rw [h47, hsum]; omega) (by rw [h47, hsum]; omega))).V fun S12 _ hc => ?_
  obtain ⟨c1, c2, c3⟩ := hc
  refine ⟨rfl, ⟨?_, ?_, c1⟩, fun k hk => by rw [c2 k (by omega), d2 k (by omega), sk_u_ne (by omega), sk_u_ne (by omega)]⟩
  · have e : ab_rest A i = ab_l (ab_u (ab_u A 3 i 1) 7 i (min (A.1 6 i) (A.1 4 i))) s (ab_ins (ab_u (ab_u A 3 i 1) 7 i (min (A.1 6 i) (A.1 4 i))) i (A.2 s)) := by
      unfold ab_rest
      rw [ab_sd_of hsd, ins_congr k1 k5]
    rw [e]
    exact d1.frame fun k k1 k2 => c2 k (by omega)
  · have hV7 : LVs S7 A := hV.frame (fun k hk => by rw [d2 k (by omega), sk_u_ne (by omega), sk_u_ne (by omega)]) (fun _ _ => rfl)
    refine LVs.step hV7 hs (df := min (A.1 6 i) (A.1 4 i)) (p := p) c3 (by omega) (fun t ht q => ?_)
    rw [lev_rest hw hs hsd hni hst ht]
    by_cases c : t = s ∧ q = p
    · rw [if_pos c, if_pos ⟨c.1, by omega⟩]
    · rw [if_neg c, if_neg (by omega)]
theorem drop_out {A : ab} {i s : Nat} (hsd : A.1 1 i = s) (hni : ¬ i ∈ A.2 s) (h7 : A.1 7 i = 0) : ab_out A i = ab_u A 3 i 0 := by
  unfold ab_out
  rw [ab_sd_of hsd, filter_none hni]
  have e : ab_l A s (A.2 s) = A := by
    unfold ab_l
    have : (fun t => if t = s then A.2 s else A.2 t) = A.2 := by
      funext t
      split
      · rename_i g; rw [g]
      · rfl
    rw [this]
  rw [e, ab_u_same h7]
theorem lev_tell {A : ab} {s : Nat} {t o q p : Int} (x : Nat) (y : Int) : ab_lev (ab_tell A s t o q p) x y = ab_lev A x y := lev_same (A := ab_tell A s t o q p) (B := A) (fun _ => rfl) (fun j => by rw [tell_1 A (by omega)]) (fun j => by rw [tell_1 A (by omega)]) x y
/-- an open order, or what is left of one in hand -/
theorem sp_cancel {scr : Nat × (Nat → Int32)} {d N i s : Nat} {S : sk_S} {A : ab} {b : Int} (hC : CI N S A) (hw : WFw N A) (hi : i < N) (hs : s < 2) (hsd : A.1 1 i = s) (h7 : ¬ A.1 3 i = 1 → A.1 7 i = 0) (hb : rcB A b) (hb2 : b < 2147483647) (ht : rg (ab_told A i)) :
    EE scr (d + 2) 116 0 [some (.ref 1), some (vi i)] S (pV fun S' => CI N S' (ab_drop A i) ∧ Fr 2 31 S S') := by
  obtain ⟨hR, hV, hL⟩ := hC
  have hw' := hw
  obtain ⟨hN, h1, h2⟩ := hw'
  obtain ⟨b1, b2, b3, b4, b5, b6, b7⟩ := h1 i hi
  obtain ⟨o, ho⟩ : ∃ o : Nat, A.1 0 i = o := ⟨(A.1 0 i).toNat, by omega⟩
  have e4 : S 15 i = A.1 4 i := hR.2.1 4 (by omega) i hi
  refine st_116_0 (rg_n (by omega)) ?_
  simp only [Int.toNat_natCast, e4]
  refine ⟨by omega, by omega, (sp_told hR hi hN).I fun x S1 _ _ hx _ => ?_⟩
  obtain ⟨rfl, rfl⟩ := hx
  have hbo := hb o (by omega)
  refine (sp_tellOwner (s := o) hR hi hN (by omega) ho hbo.1 (by omega) (rg_b (by omega) (by omega)) (rg_b (by omega) (by omega)) ht).V fun S6 _ hd => ?_
  obtain ⟨d1, d2⟩ := hd
  have hA : ab_drop A i = ab_u (ab_out (ab_tell A o 3 i (A.1 4 i) (ab_told A i)) i) 4 i 0 := by
    unfold ab_drop
    rw [ho]
  have t14 : S6 14 i = A.1 3 i := by rw [d2 14 (by omega)]; exact hR.2.1 3 (by omega) i hi
  have hC6 : CI N S6 (ab_tell A o 3 i (A.1 4 i) (ab_told A i)) := ⟨d1, hV.frame (fun k hk => d2 k (by omega)) (fun q p => lev_tell q p), hL.frame fun k hk => d2 k (by omega)⟩
  rw [t14]
  refine ⟨fun g S12 q12 S15 q15 => ?_, fun g => ?_⟩
  · subst q12 q15
    have hni : ¬ i ∈ A.2 s := fun q => g (((h2 s hs).2.1 i).mp q).2.1
    have e : ab_out (ab_tell A o 3 i (A.1 4 i) (ab_told A i)) i = ab_u (ab_tell A o 3 i (A.1 4 i) (ab_told A i)) 3 i 0 := drop_out (s := s) (by rw [tell_1 A (by omega)]; exact hsd) hni (by rw [tell_1 A (by omega)]; exact h7 g)
    refine ⟨rfl, ⟨?_, ?_, ?_⟩, fun k hk => by rw [sk_u_ne (by omega), sk_u_ne (by omega), d2 k (by omega)]⟩
    · rw [hA, e]
      exact (d1.col (by omega) (by omega)).col (by omega) (by omega)
    · rw [hA, e]
      refine hC6.2.1.frame (fun k hk => by rw [sk_u_ne (by omega), sk_u_ne (by omega)]) (fun q p => lev_same (fun _ => rfl) (fun j => ?_) (fun j => ?_) q p)
      · rw [ab_u_get, ab_u_get, if_neg (by omega), if_neg (by omega)]
      · rw [ab_u_get, ab_u_get, if_neg (by omega), if_neg (by omega)]
    · exact hC6.2.2.frame fun k hk => by rw [sk_u_ne (by omega), sk_u_ne (by omega)]
  · have hmem : i ∈ A.2 s := ((h2 s hs).2.1 i).mpr ⟨hi, g, hsd⟩
    refine (sp_takeOut hC6 hw.tell hs hmem).V fun S18 _ hk => ?_
    obtain ⟨⟨k1, k2, k3⟩, k4, -⟩ := hk
    intro S23 q23 S26 q26
    subst q23 q26
    have e : ab_u (ab_out (ab_tell A o 3 i (A.1 4 i) (ab_told A i)) i) 3 i 0 = ab_out (ab_tell A o 3 i (A.1 4 i) (ab_told A i)) i := ab_u_same (by rw [out_1, if_pos ⟨Or.inl rfl, rfl⟩])
    refine ⟨rfl, ⟨?_, ?_, ?_⟩, fun k hk => by rw [sk_u_ne (by omega), sk_u_ne (by omega), k4 k hk, d2 k (by omega)]⟩
    · rw [hA, ← e]
      exact (k1.col (by omega) (by omega)).col (by omega) (by omega)
    · rw [hA]
      refine k2.frame (fun k hk => by rw [sk_u_ne (by omega), sk_u_ne (by omega)]) (fun q p => lev_same (fun _ => rfl) (fun j => ?_) (fun j => ?_) q p)
      · rw [ab_u_get, if_neg (by omega)]
      · rw [ab_u_get, if_neg (by omega)]
    · exact k3.frame fun k hk => by rw [sk_u_ne (by omega), sk_u_ne (by omega)]
