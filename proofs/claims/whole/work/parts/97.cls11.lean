/-! 97.cls11: the class: replacing an order; a message heard, a message ended -/
theorem repl_eq (band : Int) (A : ab) (i : Nat) (q p : Int) : ab_repl band A i q p = if p = A.1 5 i ∧ q ≤ A.1 4 i then ab_u (ab_u (ab_tell A (A.1 0 i) 5 i q p) 4 i q) 7 i (min (A.1 7 i) q) else ab_in band (ab_u (ab_u (ab_out (ab_tell A (A.1 0 i) 5 i q p) i) 4 i q) 5 i p) i := rfl
theorem WFw.price {N : Nat} {A : ab} (h : WFw N A) {i : Nat} {v : Int} (hst : ¬ A.1 3 i = 1) : WFw N (ab_u A 5 i v) := by
  obtain ⟨g0, g1, g2⟩ := h
  refine ⟨g0, fun j hj => ?_, fun s hs => ⟨(g2 s hs).1, fun j => ?_, (g2 s hs).2.2⟩⟩
  · obtain ⟨a1, a2, a3, a4, a5, a6, a7⟩ := g1 j hj
    rw [u_ne (k' := 0) (Or.inl (by omega)), u_ne (k' := 1) (Or.inl (by omega)), u_ne (k' := 7) (Or.inl (by omega)), u_ne (k' := 3) (Or.inl (by omega)), u_ne (k' := 4) (Or.inl (by omega)), u_ne (k' := 6) (Or.inl (by omega)), u_ne (k' := 2) (Or.inl (by omega))]
    refine ⟨a1, a2, a3, fun h3 => ?_, a5, a6, a7⟩
    have hne : ¬ j = i := fun e => hst (by rw [← e]; exact h3)
    rw [u_ne (Or.inr hne)]
    exact a4 h3
  · rw [u_ne (k' := 3) (Or.inl (by omega)), u_ne (k' := 1) (Or.inl (by omega)), ab_u_2]
    exact (g2 s hs).2.1 j
theorem Srt.price {A : ab} {i s : Nat} {v : Int} (h : Srt A s) (hi : ¬ i ∈ A.2 s) : Srt (ab_u A 5 i v) s := by
  unfold Srt at *
  rw [ab_u_2]
  refine List.Pairwise.imp_of_mem (fun {a b} ha hb hr => ?_) h
  have na : ¬ a = i := fun e => hi (e ▸ ha)
  have nb : ¬ b = i := fun e => hi (e ▸ hb)
  rw [u_ne (Or.inr nb), u_ne (Or.inr na)]
  exact hr
theorem lev_price {A : ab} {i s : Nat} {v p : Int} (hi : ¬ i ∈ A.2 s) : ab_lev (ab_u A 5 i v) s p = ab_lev A s p := by
  unfold ab_lev
  rw [ab_u_2]
  refine sum_congr fun j hj => ?_
  have nj : ¬ j = i := fun e => hi (e ▸ hj)
  rw [u_ne (Or.inr nj), u_ne (Or.inl (by omega))]
theorem repl1_ws {N : Nat} {A : ab} (h : WS N 40 A) {i s : Nat} (hi : i < N) (hs : s < 2) (hsd : A.1 1 i = s) (hst : A.1 3 i = 1) {q p : Int} (hq : 1 ≤ q ∧ q ≤ 1000) (hp : 1 ≤ p ∧ p ≤ 999) : WS N 39 (ab_u (ab_u (ab_out A i) 4 i q) 5 i p) ∧ (ab_u (ab_u (ab_out A i) 4 i q) 5 i p).1 3 i = 0 ∧ (ab_u (ab_u (ab_out A i) 4 i q) 5 i p).1 4 i = q := by
  have hn := h.n
  obtain ⟨g1, g2, g3, g4, g5, g6, g7, g8⟩ := h
  have k1 : ∀ k j, (¬ k = 3 ∧ ¬ k = 7 ∧ ¬ k = 4 ∧ ¬ k = 5) ∨ ¬ j = i → (ab_u (ab_u (ab_out A i) 4 i q) 5 i p).1 k j = A.1 k j := by
    intro k j h
    rw [u_ne (by omega), u_ne (by omega), out_ne (by omega)]
  have k3 : (ab_u (ab_u (ab_out A i) 4 i q) 5 i p).1 3 i = 0 := by rw [u_ne (Or.inl (by omega)), u_ne (Or.inl (by omega)), out_1, if_pos ⟨Or.inl rfl, rfl⟩]
  have k7 : (ab_u (ab_u (ab_out A i) 4 i q) 5 i p).1 7 i = 0 := by rw [u_ne (Or.inl (by omega)), u_ne (Or.inl (by omega)), out_1, if_pos ⟨Or.inr rfl, rfl⟩]
  have k4 : (ab_u (ab_u (ab_out A i) 4 i q) 5 i p).1 4 i = q := by rw [u_ne (Or.inl (by omega)), u_at]
  have k5 : (ab_u (ab_u (ab_out A i) 4 i q) 5 i p).1 5 i = p := u_at
  have o3 : (ab_u (ab_out A i) 4 i q).1 3 i = 0 := by rw [u_ne (Or.inl (by omega)), out_1, if_pos ⟨Or.inl rfl, rfl⟩]
  have hwo : WFw N (ab_u (ab_out A i) 4 i q) := (g2.outs hs hsd).qty (by omega) (by omega)
  have hw := hwo.price (i := i) (v := p) (by rw [o3]; omega)
  refine ⟨⟨?_, hw, fun t ht => ?_, ?_, ?_, ?_, fun j hj => ?_, ?_⟩, k3, k4⟩
  · rw [k1 8 0 (by omega)]; exact g1
  · refine (((g3 t ht).out (i := i)).same rfl (fun j => u_ne (Or.inl (by omega)))).price (A := ab_u (ab_out A i) 4 i q) (fun hm => ?_)
    have := ((hwo.2.2 t ht).2.1 i).mp hm
    rw [o3] at this
    omega
  · rw [k1 8 3 (by omega)]; exact g4
  · rw [k1 8 2 (by omega)]; exact g5
  · rw [k1 8 1 (by omega)]; exact g6
  · by_cases e : j = i
    · subst e
      have hj' := g7 j hj
      unfold WFi at *
      rw [k3, k7, k5]
      exact ⟨by omega, fun _ => rfl, fun q => by omega, fun q => by omega, fun _ => hp, rg_b (by omega) (by omega)⟩
    · exact (g7 j hj).same (fun k hk => k1 k j (Or.inr e))
  · rw [open_upd (A := A) (i := i) (k1 8 0 (by omega)) (fun j hj => k1 3 j (Or.inr hj)) (by omega), k3, hst]
    simp only [not_true_eq_false, if_false]
    rw [if_pos (by omega)]
    omega
theorem repl0_ws {N : Nat} {A : ab} (h : WS N 40 A) {i s : Nat} (hi : i < N) (hs : s < 2) (hsd : A.1 1 i = s) (hst : A.1 3 i = 1) {q : Int} (hq : 1 ≤ q ∧ q ≤ 1000) : WS N 40 (ab_u (ab_u A 4 i q) 7 i (min (A.1 7 i) q)) := by
  have hn := h.n
  obtain ⟨g1, g2, g3, g4, g5, g6, g7, g8⟩ := h
  have h7 := (g2.2.1 i hi).2.2.1
  have k1 : ∀ k j, (¬ k = 7 ∧ ¬ k = 4) ∨ ¬ j = i → (ab_u (ab_u A 4 i q) 7 i (min (A.1 7 i) q)).1 k j = A.1 k j := by
    intro k j h
    rw [u_ne (by omega), u_ne (by omega)]
  refine ⟨by rw [k1 8 0 (by omega)]; exact g1, (g2.qty (by omega) (by omega)).show (by omega) (by omega), fun t ht => (g3 t ht).same rfl (fun j => k1 5 j (by omega)), by rw [k1 8 3 (by omega)]; exact g4, by rw [k1 8 2 (by omega)]; exact g5, by rw [k1 8 1 (by omega)]; exact g6, fun j hj => ?_, ?_⟩
  · by_cases e : j = i
    · subst e
      have hj' := g7 j hj
      unfold WFi at *
      rw [k1 3 j (by omega), k1 2 j (by omega), k1 5 j (by omega), u_at, u_ne (k' := 4) (Or.inl (by omega)), u_at]
      have := hj'.2.2.1 hst
      exact ⟨hj'.1, fun q => by omega, fun _ => ⟨by omega, by omega, this.2.2⟩, fun q => by omega, hj'.2.2.2.2⟩
    · exact (g7 j hj).same (fun k hk => k1 k j (Or.inr e))
  · rw [open_same (k1 8 0 (by omega)) (fun j => k1 3 j (by omega))]
    exact g8
theorem repl_ws {N : Nat} {band B : Int} {A : ab} (h : WS N 40 A) {i : Nat} (hi : i < N) (hst : A.1 3 i = 1) {q p : Int} (hq : 1 ≤ q ∧ q ≤ 1000) (hp : 1 ≤ p ∧ p ≤ 999) (hB : rcB A B) : WS N 40 (ab_repl band A i q p) ∧ rcB (ab_repl band A i q p) (B + 2082) := by
  obtain ⟨s, hs, hsd⟩ := h.2.1.side hi
  have ho := (h.2.1.2.1 i hi).1
  have hT := h.tell (s := A.1 0 i) (t := 5) (o := i) (q := q) (p := p)
  have hBT := hB.telli (s := A.1 0 i) (t := 5) (o := i) (q := q) (p := p) ho.1
  have e1 : (ab_tell A (A.1 0 i) 5 i q p).1 1 i = s := by rw [tell_1i _ (by omega)]; exact hsd
  have e3 : (ab_tell A (A.1 0 i) 5 i q p).1 3 i = 1 := by rw [tell_1i _ (by omega)]; exact hst
  rw [repl_eq]
  by_cases c : p = A.1 5 i ∧ q ≤ A.1 4 i
  · rw [if_pos c]
    have h0 := repl0_ws hT hi hs e1 e3 hq
    rw [tell_1i _ (by omega)] at h0
    exact ⟨h0, (hBT.le (by omega)).same (fun j => by rw [u_ne (Or.inl (by omega)), u_ne (Or.inl (by omega))])⟩
  · rw [if_neg c]
    obtain ⟨r1, r2, r3⟩ := repl1_ws hT hi hs e1 e3 hq hp
    obtain ⟨x1, x2⟩ := in_ws (band := band) (show (39 : Int) ≤ 39 by omega) hi r1 r2 (by omega) (hBT.same (fun j => by rw [u_ne (Or.inl (by omega)), u_ne (Or.inl (by omega)), out_ne (Or.inl (by omega))]))
    exact ⟨x1, x2.le (by omega)⟩
theorem sp_replaceOrder {scr : Nat × (Nat → Int32)} {d N i : Nat} {q p band B : Int} {S : sk_S} {A : ab} (hC : CI N S A) (hW : WS N 40 A) (hi : i < N) (hst : A.1 3 i = 1) (hq : 1 ≤ q ∧ q ≤ 1000) (hp : 1 ≤ p ∧ p ≤ 999) (hbd : S 1 0 = band) (hB : rcB A B) (hB2 : B < 2147000000) :
    EE scr (d + 5) 118 0 [some (.ref 1), some (vi i), some (vi q), some (vi p)] S (pV fun S' => CI N S' (ab_repl band A i q p) ∧ Fr 2 31 S S') := by
  obtain ⟨s, hs, hsd⟩ := hW.2.1.side hi
  obtain ⟨o, ho, eo⟩ := hW.2.1.own hi
  have hN := hW.2.1.1
  have hbo := hB o ho
  refine st_118_0 (rg_n (by omega)) (rg_b (by omega) (by omega)) (rg_b (by omega) (by omega)) ?_
  refine (sp_tellOwner (s := o) hC.1 hi hN ho eo hbo.1 (by omega) (rg_b (by omega) (by omega)) (rg_b (by omega) (by omega)) (rg_b (by omega) (by omega))).V fun S1 _ hk => ?_
  obtain ⟨k1, k2⟩ := hk
  have hC1 := hC.tell k1 k2
  have hT := hW.tell (s := o) (t := 5) (o := i) (q := q) (p := p)
  have hBT := hB.tell (s := o) (t := 5) (o := i) (q := q) (p := p)
  have e1 : (ab_tell A o 5 i q p).1 1 i = s := by rw [tell_1i _ (by omega)]; exact hsd
  have e3 : (ab_tell A o 5 i q p).1 3 i = 1 := by rw [tell_1i _ (by omega)]; exact hst
  have e16 : S1 16 i = A.1 5 i := by
    have := k1.2.1 5 (by omega) i hi
    rw [tell_1i _ (by omega)] at this
    exact this
  have e15 : S1 15 i = A.1 4 i := by
    have := k1.2.1 4 (by omega) i hi
    rw [tell_1i _ (by omega)] at this
    exact this
  have e18 : S1 18 i = A.1 7 i := by
    have := k1.2.1 7 (by omega) i hi
    rw [tell_1i _ (by omega)] at this
    exact this
  have hin : i ∈ (ab_tell A o 5 i q p).2 s := ((hT.2.1.2.2 s hs).2.1 i).mpr ⟨hi, e3, e1⟩
  rw [repl_eq, eo]
  simp only [Int.toNat_natCast, e16, e15]
  generalize hA1 : ab_tell A o 5 i q p = A1 at *
  have big : EE scr (d + 4) 136 0 [some (.ref 1), some (vi i)] S1 (pV fun S7 => ∀ S12 : sk_S, S12 = sk_u S7 15 i q → ∀ S15 : sk_S, S15 = sk_u S12 16 i p → EE scr (d + 4) 123 0 [some (.ref 1), some (vi i), none] S15 (pV fun S18 => pV (fun S' => CI N S' (ab_in band (ab_u (ab_u (ab_out A1 i) 4 i q) 5 i p) i) ∧ Fr 2 31 S S') none S18)) := by
    refine (sp_takeOut hC1 hT.2.1 hs hin).V fun S7 _ hk7 S12 q12 S15 q15 => ?_
    obtain ⟨c1, c2, -⟩ := hk7
    obtain ⟨r1, r2, r3⟩ := repl1_ws hT hi hs e1 e3 hq hp
    have hR15 : RC 0 N S15 (ab_u (ab_u (ab_out A1 i) 4 i q) 5 i p) := by
      rw [q15, q12]
      exact (c1.1.col (by omega) (by omega)).col (by omega) (by omega)
    have fr15 : Fr 15 16 S7 S15 := by
      rw [q15, q12]
      exact (Fr.u (by omega) (by omega)).trans (Fr.u (by omega) (by omega))
    have hni : ∀ t, t < 2 → ¬ i ∈ (ab_u (ab_out A1 i) 4 i q).2 t := by
      intro t ht hm
      have := ((r1.2.1.2.2 t ht).2.1 i).mp hm
      rw [r2] at this
      omega
    have hC15 : CI N S15 (ab_u (ab_u (ab_out A1 i) 4 i q) 5 i p) := by
      refine ⟨hR15, fun t ht x hx => ?_, c1.2.2.frame fun k hk => fr15 k (by omega)⟩
      rw [fr15 (4 + t) (by omega), c1.2.1 t ht x hx, lev_price (hni t ht)]
      exact (lev_same (A := ab_u (ab_out A1 i) 4 i q) (B := ab_out A1 i) (fun _ => rfl) (fun j => u_ne (Or.inl (by omega))) (fun j => u_ne (Or.inl (by omega))) t x).symm
    have hb15 : S15 1 0 = band := by rw [fr15 1 (by omega), c2 1 (by omega), k2 1 (by omega)]; exact hbd
    refine (sp_comeIn (band := band) (show (39 : Int) ≤ 39 by omega) hi hC15 r1 r2 hb15 (hBT.same (fun j => by rw [u_ne (Or.inl (by omega)), u_ne (Or.inl (by omega)), out_ne (Or.inl (by omega))])) (by omega)).V fun S18 _ hk18 => ?_
    exact ⟨rfl, hk18.1, fun k hk => by rw [hk18.2 k hk, fr15 k (by omega), c2 k hk, k2 k (by omega)]⟩
  refine ⟨by omega, by omega, fun g => ?_, fun g => ⟨fun g2 => ?_, fun g2 S40 q40 => ?_⟩⟩
  · rw [if_neg (fun c => g c.1)]
    exact big
  · rw [if_neg (by omega)]
    exact big
  · rw [if_pos (by omega)]
    have hR40 : RC 0 N S40 (ab_u A1 4 i q) := by rw [q40]; exact k1.col (by omega) (by omega)
    have hC40 : CI N S40 (ab_u A1 4 i q) := hC1.cells hR40 (fun k hk => by rw [q40, sk_u_ne (by omega)]) (fun _ => rfl) (fun j => u_ne (Or.inl (by omega))) (fun j => u_ne (Or.inl (by omega)))
    have e18' : S40 18 i = A.1 7 i := by rw [q40, sk_u_ne (by omega)]; exact e18
    rw [e18']
    have h7 := (hW.2.1.2.1 i hi).2.2.1
    refine (sp_show hC40 (hT.2.1.qty (by omega) (by omega)) hs hin (by omega) (by omega)).V fun S43 _ hk43 => ?_
    exact ⟨rfl, hk43.1, fun k hk => by rw [hk43.2.1 k hk, q40, sk_u_ne (by omega), k2 k (by omega)]⟩
/-- a message is heard -/
def ab_hear (A : ab) (s n : Int) : Int × ab := if 0 ≤ s ∧ s < 4 then (if n = A.1 9 s.toNat then (0, ab_u A 9 s.toNat (A.1 9 s.toNat + 1)) else if n ≤ A.1 9 s.toNat then (-3, A) else (-2, A)) else (-1, A)
theorem sp_isSession {scr : Nat × (Nat → Int32)} {d : Nat} {S : sk_S} {k : Int} (hk : rg k) : EE scr d 21 0 [some (vi k)] S (pI fun x S' => S' = S ∧ x = if 0 ≤ k ∧ k < 4 then 1 else 0) := by
  refine st_21_0 hk ⟨fun h => ⟨_, rfl, rfl, ?_⟩, fun h => ⟨fun h2 => ⟨_, rfl, rfl, ?_⟩, fun h2 => ⟨_, rfl, rfl, ?_⟩⟩⟩
  · rw [if_neg (by omega)]
  · rw [if_neg (by omega)]
  · rw [if_pos (by omega)]
theorem sp_hear {scr : Nat × (Nat → Int32)} {d N : Nat} {s n : Int} {S : sk_S} {A : ab} (hC : CI N S A) (hs : rg s) (hn : rg n) (hE : ∀ t, t < 4 → 0 ≤ A.1 9 t ∧ A.1 9 t ≤ 100000) :
    EE scr (d + 1) 29 0 [some (.ref 0), some (vi s), some (vi n), none] S (pI fun x S' => x = (ab_hear A s n).1 ∧ CI N S' (ab_hear A s n).2 ∧ Fr 2 31 S S') := by
  refine st_29_0 hs hn ?_
  refine (sp_isSession hs).I fun y S1 _ _ hy _ => ?_
  obtain ⟨rfl, rfl⟩ := hy
  unfold ab_hear
  by_cases c : 0 ≤ s ∧ s < 4
  · rw [if_pos c, if_pos c]
    have hE' := hE s.toNat (by omega)
    have e24 : S1 24 s.toNat = A.1 9 s.toNat := hC.1.2.2.2.1 0 (by omega) s.toNat (by omega)
    rw [e24]
    refine ⟨fun _ => ⟨c.1, c.2, fun g => ⟨fun g2 => ⟨rg_b (by omega) (by omega), fun S9 q9 => ⟨_, rfl, ?_⟩⟩, fun g2 => ⟨_, rfl, ?_⟩⟩, fun g => ⟨_, rfl, ?_⟩⟩, fun g => by omega⟩
    · rw [if_pos (by omega)]
      refine ⟨rfl, hC.cells ?_ (fun k hk => by rw [q9, sk_u_ne (by omega)]) (fun _ => rfl) (fun j => u_ne (Or.inl (by omega))) (fun j => u_ne (Or.inl (by omega))), by rw [q9]; exact Fr.u (by omega) (by omega)⟩
      rw [q9]
      exact hC.1.ses (r := 0) (by omega) (by omega)
    · rw [if_neg (by omega), if_pos (by omega)]
      exact ⟨rfl, hC, Fr.refl⟩
    · rw [if_neg (by omega), if_neg (by omega)]
      exact ⟨rfl, hC, Fr.refl⟩
  · rw [if_neg c, if_neg c]
    exact ⟨fun g => absurd rfl g, fun _ => ⟨_, rfl, rfl, hC, Fr.refl⟩⟩
def ab_lv (A : ab) : Nat → Nat → Int := fun s p => ab_lev A s p
theorem TD.frame {S S' : sk_S} {old : Nat → Nat → Int} (h : TD S old) (h60 : S' 60 = S 60) (h61 : S' 61 = S 61) : TD S' old := by
  intro s hs p hp
  rcases (show s = 0 ∨ s = 1 by omega) with e | e <;> subst e
  · rw [show (60 + 0 : Nat) = 60 from rfl, h60]
    exact h 0 (by omega) p hp
  · rw [show (60 + 1 : Nat) = 61 from rfl, h61]
    exact h 1 (by omega) p hp
/-- the stops, then the messages about levels -/
theorem sp_tail {scr : Nat × (Nat → Int32)} {d N : Nat} {band B : Int} {S F : sk_S} {A : ab} {old : Nat → Nat → Int} {Post : Option Int → sk_S → Prop} (hC : CI N S A) (hW : WS N 40 A) (hbd : S 1 0 = band) (hB : rcB A B) (hB2 : B < 2147000000) (hT : TD S old) (hF : FC S F) (h0 : 0 ≤ F 0 0) (h1 : F 0 0 < 2147000000)
    (kk : ∀ S' : sk_S, CI N S' (ab_stops band 40 A) → TD S' (ab_lv (ab_stops band 40 A)) → FC S' (fd_pub old (ab_lv (ab_stops band 40 A)) F) → (∀ k, (k < 2 ∨ (31 < k ∧ k < 55) ∨ 61 < k) → S' k = S k) → Post none S') :
    EE scr (d + 4) 121 0 [some (.ref 1), none, none] S (pV fun S2 => EE scr (d + 4) 104 0 [some (.ref 55), some (.ref 2), none, none, none, none] S2 (pV fun S7 => Post none S7)) := by
  refine (sp_release hC hW hbd hB hB2).V fun S2 _ hk => ?_
  obtain ⟨c1, c2⟩ := hk
  refine (sp_tellAll c1 (hT.frame (c2 60 (by omega)) (c2 61 (by omega))) (hF.frame fun k k1 k2 => c2 k (by omega)) h0 h1).V fun S7 _ hk7 => ?_
  obtain ⟨x1, x2, x3, x4⟩ := hk7
  exact kk S7 x1 x2 x3 (fun k hk => by rw [x4 k (by omega) (by omega) (by omega), c2 k (by omega)])
def ab_rej (A : ab) (s : Int) : ab := ab_tell A s 4 (-1) 0 0
theorem sp_endMsg {scr : Nat × (Nat → Int32)} {d N : Nat} {s : Nat} {x band B : Int} {S F : sk_S} {A : ab} {old : Nat → Nat → Int} (hs : s < 4) (hx : rg x) (hC : CI N S A) (hW : WS N 40 A) (hbd : S 1 0 = band) (hB : rcB A B) (hB2 : B < 2146000000) (hT : TD S old) (hF : FC S F) (h0 : 0 ≤ F 0 0) (h1 : F 0 0 < 2147000000) {A' : ab} (hA : A' = ab_stops band 40 (if x = -4 then ab_rej A s else A)) :
    EE scr (d + 5) 30 0 [some (.ref 0), some (vi s), some (vi x)] S (pI fun y S' => y = x ∧ CI N S' A' ∧ TD S' (ab_lv A') ∧ FC S' (fd_pub old (ab_lv A') F) ∧ (∀ k, (k < 2 ∨ (31 < k ∧ k < 55) ∨ 61 < k) → S' k = S k)) := by
  refine st_30_0 (rg_n (by omega)) hx ⟨fun g => ?_, fun g => ?_⟩
  · rw [if_neg g] at hA
    subst hA
    exact sp_tail (Post := fun _ S7 => pI (fun y S' => y = x ∧ CI N S' (ab_stops band 40 A) ∧ TD S' (ab_lv (ab_stops band 40 A)) ∧ FC S' (fd_pub old (ab_lv (ab_stops band 40 A)) F) ∧ (∀ k, (k < 2 ∨ (31 < k ∧ k < 55) ∨ 61 < k) → S' k = S k)) (some x) S7) hC hW hbd hB (by omega) hT hF h0 h1 (fun S' a1 a2 a3 a4 => ⟨_, rfl, rfl, a1, a2, a3, a4⟩)
  · rw [if_pos g] at hA
    subst hA
    have hbs := hB s hs
    refine (sp_report hC.1 hs hbs.1 (by omega) (rg_b (by omega) (by omega)) (rg_b (by omega) (by omega)) (rg_b (by omega) (by omega)) (rg_b (by omega) (by omega))).V fun S12 _ hk => ?_
    obtain ⟨k1, k2⟩ := hk
    have hC12 := hC.tell k1 k2
    exact sp_tail (A := ab_rej A s) (Post := fun _ S7 => pI (fun y S' => y = x ∧ CI N S' (ab_stops band 40 (ab_rej A s)) ∧ TD S' (ab_lv (ab_stops band 40 (ab_rej A s))) ∧ FC S' (fd_pub old (ab_lv (ab_stops band 40 (ab_rej A s))) F) ∧ (∀ k, (k < 2 ∨ (31 < k ∧ k < 55) ∨ 61 < k) → S' k = S k)) (some x) S7) hC12 hW.tell (by rw [k2 1 (by omega)]; exact hbd) hB.tell (by omega) (hT.frame (k2 60 (by omega)) (k2 61 (by omega))) (hF.frame fun k a b => k2 k (by omega)) h0 h1 (fun S' a1 a2 a3 a4 => ⟨_, rfl, rfl, a1, a2, a3, fun k hk => by rw [a4 k hk, k2 k (by omega)]⟩)
