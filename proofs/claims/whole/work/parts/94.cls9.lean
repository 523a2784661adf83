/-! 94.cls9: the class: a step of the phase; what may come in, and how it does -/
theorem step_ws {N : Nat} {m B v : Int} {A : ab} (hW : WS N m A) (hB : rcB A B) (h0 : 0 ≤ v) (h4 : v ≤ 4) : WS N m (ab_step A v) ∧ rcB (ab_step A v) (B + 300) := by
  unfold ab_step
  dsimp only
  have h1 : WS N m (if ab_call (A.1 8 1) = true then ab_auction A else A) ∧ rcB (if ab_call (A.1 8 1) = true then ab_auction A else A) (B + 80) := by
    split
    · exact auction_ws hW hB
    · exact ⟨hW, hB.le (by omega)⟩
  have h2 := h1.1.phase (v := v) h0 h4
  have h3 : rcB (ab_u (if ab_call (A.1 8 1) = true then ab_auction A else A) 8 1 v) (B + 80) := h1.2.same (fun j => u_ne (Or.inl (by omega)))
  split
  · rw [h2.n]
    obtain ⟨r1, r2⟩ := all_ws h2 h3 N (Nat.le_refl _)
    have hN := hW.2.1.1
    exact ⟨r1, r2.le (by omega)⟩
  · exact ⟨h2, h3.le (by omega)⟩
theorem sp_stepTo {scr : Nat × (Nat → Int32)} {d N : Nat} {m B v : Int} {S : sk_S} {A : ab} (hC : CI N S A) (hW : WS N m A) (hB : rcB A B) (hB2 : B < 2146000000) (h0 : 0 ≤ v) (h4 : v ≤ 4) :
    EE scr (d + 5) 120 0 [some (.ref 1), some (vi v)] S (pV fun S' => CI N S' (ab_step A v) ∧ Fr 2 31 S S') := by
  have e9 : S 9 0 = A.1 8 1 := hC.1.1.2.1
  have hph := hW.2.2.2.2.2.1
  have go : ∀ (T : sk_S) (C : ab), CI N T C → WS N m C → rcB C (B + 80) → Fr 2 31 S T → C = (if ab_call (A.1 8 1) = true then ab_auction A else A) → ∀ T1 : sk_S, T1 = sk_u T 9 0 v → ((¬ v = 0 → pV (fun S' => CI N S' (ab_step A v) ∧ Fr 2 31 S S') none T1) ∧ (v = 0 → EE scr (d + 4) 130 0 [some (.ref 1), none] T1 (pV fun S11 => pV (fun S' => CI N S' (ab_step A v) ∧ Fr 2 31 S S') none S11))) := by
    intro T C hT hWC hBC hfr hCe T1 q1
    have hC1 : CI N T1 (ab_u C 8 1 v) := by
      rw [q1]
      exact hT.cells (hT.1.sc (by omega)) (fun k hk => sk_u_ne (by omega)) (fun _ => rfl) (fun j => u_ne (Or.inl (by omega))) (fun j => u_ne (Or.inl (by omega)))
    have fr1 : Fr 2 31 S T1 := by rw [q1]; exact hfr.trans (Fr.u (by omega) (by omega))
    have hW1 := hWC.phase (v := v) h0 h4
    refine ⟨fun g => ⟨rfl, ?_, fr1⟩, fun g => ?_⟩
    · unfold ab_step
      dsimp only
      rw [if_neg g, ← hCe]
      exact hC1
    · refine (sp_all hC1 hW1 (hBC.same (fun j => u_ne (Or.inl (by omega)))) (by omega)).V fun S11 _ h11 => ⟨rfl, ?_, fr1.trans h11.2⟩
      unfold ab_step
      dsimp only
      rw [if_pos g, ← hCe, hW1.n]
      exact h11.1
  refine st_120_0 (rg_b (by omega) (by omega)) ?_
  rw [e9]
  refine (sp_isCall (rg_b (by omega) (by omega))).I fun x S1 _ _ hx _ => ?_
  obtain ⟨rfl, rfl⟩ := hx
  by_cases c : ab_call (A.1 8 1) = true
  · rw [if_pos c]
    refine ⟨fun g => by omega, fun _ => (sp_auction hC hW hB (by omega)).V fun S16 _ h16 => ?_⟩
    obtain ⟨r1, r2⟩ := auction_ws hW hB
    exact go S16 (ab_auction A) h16.1 r1 r2 h16.2 (by rw [if_pos c])
  · rw [if_neg c]
    exact ⟨fun _ => go S1 A hC hW (hB.le (by omega)) Fr.refl (by rw [if_neg c]), fun g => absurd rfl g⟩
def ab_may (f t : Int) : Bool := decide ((f = 0 ∧ t = 1) ∨ (f = 1 ∧ t = 2) ∨ (f = 2 ∧ (t = 3 ∨ t = 4)) ∨ (f = 4 ∧ t = 2) ∨ (f = 3 ∧ t = 0))
theorem sp_mayStep {scr : Nat × (Nat → Int32)} {d N : Nat} {m v : Int} {S : sk_S} {A : ab} (hR : RC 0 N S A) (hW : WS N m A) (hv : rg v) : EE scr d 119 0 [some (.ref 1), some (vi v)] S (pI fun x S' => S' = S ∧ x = if ab_may (A.1 8 1) v = true then 1 else 0) := by
  have e9 : S 9 0 = A.1 8 1 := hR.1.2.1
  have hph := hW.2.2.2.2.2.1
  have yes : ab_may (A.1 8 1) v = true → pI (fun x S' => S' = S ∧ x = if ab_may (A.1 8 1) v = true then 1 else 0) (some 1) S := fun h => ⟨_, rfl, rfl, by rw [if_pos h]⟩
  have no : ¬ ab_may (A.1 8 1) v = true → pI (fun x S' => S' = S ∧ x = if ab_may (A.1 8 1) v = true then 1 else 0) (some 0) S := fun h => ⟨_, rfl, rfl, by rw [if_neg h]⟩
  have em : ab_may (A.1 8 1) v = true ↔ ((A.1 8 1 = 0 ∧ v = 1) ∨ (A.1 8 1 = 1 ∧ v = 2) ∨ (A.1 8 1 = 2 ∧ (v = 3 ∨ v = 4)) ∨ (A.1 8 1 = 4 ∧ v = 2) ∨ (A.1 8 1 = 3 ∧ v = 0)) := by unfold ab_may; rw [decide_eq_true_eq]
  refine st_119_0 hv ?_
  rw [e9]
  refine ⟨fun g => ⟨fun g2 => no (by rw [em]; omega), fun g2 => yes (by rw [em]; omega)⟩, fun g => ⟨fun g2 => no (by rw [em]; omega), fun g2 => yes (by rw [em]; omega)⟩, fun g => ⟨fun g2 => no (by rw [em]; omega), fun g2 => yes (by rw [em]; omega)⟩, fun g => ⟨fun g2 => yes (by rw [em]; omega), fun g2 => ⟨fun g3 => no (by rw [em]; omega), fun g3 => yes (by rw [em]; omega)⟩⟩, fun g => ⟨fun g2 => no (by rw [em]; omega), fun g2 => yes (by rw [em]; omega)⟩⟩
theorem sp_count {scr : Nat × (Nat → Int32)} {d N : Nat} {S : sk_S} {A : ab} (hR : RC 0 N S A) (hn : A.1 8 0 = N) (hN : N ≤ 200) : EE scr d 95 0 [some (.ref 10), none, none] S (pI fun x S' => S' = S ∧ x = ab_open A) := by
  have en : ab_n A = N := by unfold ab_n; rw [hn, Int.toNat_natCast]
  have e10 : S 10 0 = N := hR.1.1.trans hn
  have loop : ∀ (f k : Nat), k + f = N → EE scr d 95 4 [some (.ref 10), some (vi ((List.range k).countP fun i => decide (¬ A.1 3 i = 0) : Nat)), some (vi k)] S (pI fun x S' => S' = S ∧ x = ab_open A) := by
    intro f
    induction f with
    | zero =>
      intro k hk
      have hle : (List.range k).countP (fun i => decide (¬ A.1 3 i = 0)) ≤ k := by
        have := List.countP_le_length (p := fun i => decide (¬ A.1 3 i = 0)) (l := List.range k)
        rwa [List.length_range] at this
      have hkN : k = N := by omega
      subst hkN
      refine st_95_4 (rg_n (by omega)) (rg_n (by omega)) ?_
      rw [e10]
      refine ⟨fun _ => ⟨_, rfl, rfl, ?_⟩, fun g => by omega⟩
      unfold ab_open
      rw [en]
    | succ f ih =>
      intro k hk
      have hle : (List.range k).countP (fun i => decide (¬ A.1 3 i = 0)) ≤ k := by
        have := List.countP_le_length (p := fun i => decide (¬ A.1 3 i = 0)) (l := List.range k)
        rwa [List.length_range] at this
      have e14 : S 14 k = A.1 3 k := hR.2.1 3 (by omega) k (by omega)
      have h := ih (k + 1) (by omega)
      rw [List.range_succ, List.countP_append] at h
      refine st_95_4 (rg_n (by omega)) (rg_n (by omega)) ?_
      simp only [Int.toNat_natCast, e10, e14]
      refine ⟨fun g => by omega, fun _ => ⟨by omega, by omega, fun g => ?_, fun g => ?_⟩⟩
      · rw [show [k].countP (fun i => decide (¬ A.1 3 i = 0)) = 0 by simp [g], Nat.add_zero] at h
        exact h
      · rw [show [k].countP (fun i => decide (¬ A.1 3 i = 0)) = 1 by simp [g]] at h
        exact h
  exact st_95_0 (loop N 0 (by omega))
theorem sp_isPrice {scr : Nat × (Nat → Int32)} {d : Nat} {S : sk_S} {k : Int} (hk : rg k) : EE scr d 23 0 [some (vi k)] S (pI fun x S' => S' = S ∧ x = if 1 ≤ k ∧ k ≤ 999 then 1 else 0) := by
  refine st_23_0 hk ⟨fun h => ⟨_, rfl, rfl, ?_⟩, fun h => ⟨fun h2 => ⟨_, rfl, rfl, ?_⟩, fun h2 => ⟨_, rfl, rfl, ?_⟩⟩⟩
  · rw [if_neg (by omega)]
  · rw [if_neg (by omega)]
  · rw [if_pos (by omega)]
theorem sp_isQty {scr : Nat × (Nat → Int32)} {d : Nat} {S : sk_S} {k : Int} (hk : rg k) : EE scr d 24 0 [some (vi k)] S (pI fun x S' => S' = S ∧ x = if 1 ≤ k ∧ k ≤ 1000 then 1 else 0) := by
  refine st_24_0 hk ⟨fun h => ⟨_, rfl, rfl, ?_⟩, fun h => ⟨fun h2 => ⟨_, rfl, rfl, ?_⟩, fun h2 => ⟨_, rfl, rfl, ?_⟩⟩⟩
  · rw [if_neg (by omega)]
  · rw [if_neg (by omega)]
  · rw [if_pos (by omega)]
theorem sp_isSide {scr : Nat × (Nat → Int32)} {d : Nat} {S : sk_S} {k : Int} (hk : rg k) : EE scr d 22 0 [some (vi k)] S (pI fun x S' => S' = S ∧ x = if k = 0 ∨ k = 1 then 1 else 0) := by
  refine st_22_0 hk ⟨fun h => ⟨_, rfl, rfl, ?_⟩, fun h => ⟨fun h2 => ⟨_, rfl, rfl, ?_⟩, fun h2 => ⟨_, rfl, rfl, ?_⟩⟩⟩
  · rw [if_pos (by omega)]
  · rw [if_neg (by omega)]
  · rw [if_pos (by omega)]
theorem sp_peak {scr : Nat × (Nat → Int32)} {d : Nat} {S : sk_S} {k q : Int} (hk : 0 ≤ k) (hk2 : k ≤ 1000) (hq : rg q) : EE scr d 28 0 [some (vi k), some (vi q)] S (pI fun x S' => S' = S ∧ x = if q ≤ 10 * k then 1 else 0) := by
  refine st_28_0 (rg_b (by omega) (by omega)) hq ⟨rg_b (by omega) (by omega), fun h => ⟨_, rfl, rfl, ?_⟩, fun h => ⟨_, rfl, rfl, ?_⟩⟩
  · rw [if_neg (by omega)]
  · rw [if_pos (by omega)]
def ab_fit (k x q : Int) : Bool := decide (k = 4 → 1 ≤ x ∧ x ≤ 999) && decide (k = 5 → 1 ≤ x ∧ x ≤ q ∧ q ≤ 10 * x)
theorem sp_fit {scr : Nat × (Nat → Int32)} {d : Nat} {S : sk_S} {k x q : Int} (hk : rg k) (hx : rg x) (hq : 1 ≤ q ∧ q ≤ 1000) : EE scr (d + 1) 112 0 [some (vi k), some (vi x), some (vi q)] S (pI fun y S' => S' = S ∧ y = if ab_fit k x q = true then 1 else 0) := by
  have em : ab_fit k x q = true ↔ ((k = 4 → 1 ≤ x ∧ x ≤ 999) ∧ (k = 5 → 1 ≤ x ∧ x ≤ q ∧ q ≤ 10 * x)) := by unfold ab_fit; rw [Bool.and_eq_true, decide_eq_true_eq, decide_eq_true_eq]
  have yes : ab_fit k x q = true → pI (fun y S' => S' = S ∧ y = if ab_fit k x q = true then 1 else 0) (some 1) S := fun h => ⟨_, rfl, rfl, by rw [if_pos h]⟩
  have no : ¬ ab_fit k x q = true → pI (fun y S' => S' = S ∧ y = if ab_fit k x q = true then 1 else 0) (some 0) S := fun h => ⟨_, rfl, rfl, by rw [if_neg h]⟩
  refine st_112_0 hk hx (rg_b (by omega) (by omega)) ?_
  refine ⟨fun g => ⟨fun g2 => yes (by rw [em]; omega), fun g2 => ⟨fun g3 => no (by rw [em]; omega), fun g3 => ⟨fun g4 => no (by rw [em]; omega), fun g4 => ?_⟩⟩⟩, fun g => ?_⟩
  · refine (sp_peak (by omega) (by omega) (rg_b (by omega) (by omega))).I fun y S5 _ _ hy _ => ?_
    obtain ⟨rfl, rfl⟩ := hy
    by_cases c : q ≤ 10 * x
    · rw [if_pos c]
      exact ⟨fun q => by omega, fun _ => yes (by rw [em]; omega)⟩
    · rw [if_neg c]
      exact ⟨fun _ => no (by rw [em]; omega), fun q => absurd rfl q⟩
  · refine (sp_isPrice hx).I fun y S11 _ _ hy _ => ?_
    obtain ⟨rfl, rfl⟩ := hy
    by_cases c : 1 ≤ x ∧ x ≤ 999
    · rw [if_pos c]
      exact ⟨by omega, yes (by rw [em]; omega)⟩
    · rw [if_neg c]
      exact ⟨by omega, no (by rw [em]; omega)⟩
def ab_now (ph k : Int) : Bool := decide (ph = 2 ∨ ab_call ph = true ∧ (k = 0 ∨ k = 5 ∨ k = 4))
theorem sp_now {scr : Nat × (Nat → Int32)} {d N : Nat} {S : sk_S} {A : ab} {k : Int} (hR : RC 0 N S A) (hk : rg k) (hp : rg (A.1 8 1)) : EE scr (d + 1) 113 0 [some (.ref 1), some (vi k)] S (pI fun y S' => S' = S ∧ y = if ab_now (A.1 8 1) k = true then 1 else 0) := by
  have e9 : S 9 0 = A.1 8 1 := hR.1.2.1
  have em : ab_now (A.1 8 1) k = true ↔ (A.1 8 1 = 2 ∨ ab_call (A.1 8 1) = true ∧ (k = 0 ∨ k = 5 ∨ k = 4)) := by unfold ab_now; rw [decide_eq_true_eq]
  have yes : ab_now (A.1 8 1) k = true → pI (fun y S' => S' = S ∧ y = if ab_now (A.1 8 1) k = true then 1 else 0) (some 1) S := fun h => ⟨_, rfl, rfl, by rw [if_pos h]⟩
  have no : ¬ ab_now (A.1 8 1) k = true → pI (fun y S' => S' = S ∧ y = if ab_now (A.1 8 1) k = true then 1 else 0) (some 0) S := fun h => ⟨_, rfl, rfl, by rw [if_neg h]⟩
  refine st_113_0 hk ?_
  rw [e9]
  refine ⟨fun g => yes (em.mpr (Or.inl g)), fun g => (sp_isCall hp).I fun y S2 _ _ hy _ => ?_⟩
  obtain ⟨rfl, rfl⟩ := hy
  by_cases c : ab_call (A.1 8 1) = true
  · rw [if_pos c]
    refine ⟨fun q => by omega, fun _ => (sp_mayRest hk).I fun z S8 _ _ hz _ => ?_⟩
    obtain ⟨rfl, rfl⟩ := hz
    by_cases c2 : k = 0 ∨ k = 5
    · rw [if_pos c2]
      exact ⟨fun _ => yes (em.mpr (Or.inr ⟨c, by omega⟩)), fun q => by omega⟩
    · rw [if_neg c2]
      refine ⟨fun q => absurd rfl q, fun _ => ⟨fun g3 => no (fun q => ?_), fun g3 => yes (em.mpr (Or.inr ⟨c, by omega⟩))⟩⟩
      rcases em.mp q with q | q
      · exact g q
      · omega
  · rw [if_neg c]
    refine ⟨fun _ => no (fun q => ?_), fun q => absurd rfl q⟩
    rcases em.mp q with q | q
    · exact g q
    · exact c q.1
theorem ok_iff (A : ab) (s w q p : Int) : ab_ok A s w q p = true ↔ ((0 ≤ w ∧ w ≤ 11 ∧ 1 ≤ q ∧ q ≤ 1000) ∧ ((w / 2 = 1 ∨ w / 2 = 4) ∨ (1 ≤ p ∧ p ≤ 999)) ∧ ab_fit (w / 2) (A.1 10 s.toNat) q = true ∧ ab_now (A.1 8 1) (w / 2) = true ∧ A.1 8 0 < 200 ∧ ab_open A < 40) := by
  unfold ab_ok ab_fit ab_now
  simp only [Bool.and_eq_true, decide_eq_true_eq]
  constructor
  · rintro ⟨⟨⟨⟨⟨⟨h1, h2⟩, h3⟩, h4⟩, h5⟩, h6⟩, h7⟩
    exact ⟨h1, h2, ⟨h3, h4⟩, h5, h6, h7⟩
  · rintro ⟨h1, h2, ⟨h3, h4⟩, h5, h6, h7⟩
    exact ⟨⟨⟨⟨⟨⟨h1, h2⟩, h3⟩, h4⟩, h5⟩, h6⟩, h7⟩
theorem sp_mayAccept' {Post : Option Int → sk_S → Prop} {scr : Nat × (Nat → Int32)} {d N s : Nat} {m w q p : Int} {S : sk_S} {A : ab} (hR : RC 0 N S A) (hW : WS N m A) (hs : s < 4) (hw : rg w) (hq : rg q) (hp : rg p) (yes : ab_ok A s w q p = true → Post (some 1) S) (no : ¬ ab_ok A s w q p = true → Post (some 0) S) :
    EE scr (d + 2) 111 0 [some (.ref 1), some (vi s), some (vi w), some (vi q), some (vi p), none] S Post := by
  have hN := hW.2.1.1
  have hph := hW.2.2.2.2.2.1
  have e25 : S 25 s = A.1 10 s := hR.2.2.2.1 1 (by omega) s hs
  have e10 : S 10 0 = A.1 8 0 := hR.1.1
  have ok := ok_iff A s w q p
  rw [Int.toNat_natCast] at ok
  refine Ev.good fun hS => st_111_0 (rg_n (by omega)) hw hq hp ?_
  have hx : rg (A.1 10 s) := by rw [← e25]; exact hS _ _
  -- behind the price
  have tail : (0 ≤ w ∧ w ≤ 11 ∧ 1 ≤ q ∧ q ≤ 1000) → ((w / 2 = 1 ∨ w / 2 = 4) ∨ (1 ≤ p ∧ p ≤ 999)) → EE scr (d + 1) 112 0 [some (vi (w / 2)), some (vi (S 25 s)), some (vi q)] S (pI fun y16 S15 => rg y16 → ((y16 = 0 → Post (some 0) S15) ∧ (¬ y16 = 0 → EE scr (d + 1) 113 0 [some (.ref 1), some (vi (w / 2))] S15 (pI fun y22 S21 => rg y22 → ((y22 = 0 → Post (some 0) S21) ∧ (¬ y22 = 0 → ((200 ≤ S21 10 0 → Post (some 0) S21) ∧ (¬ 200 ≤ S21 10 0 → EE scr (d + 1) 95 0 [some (.ref 10), none, none] S21 (pI fun y29 S28 => rg y29 → ((40 ≤ y29 → Post (some 0) S28) ∧ (¬ 40 ≤ y29 → Post (some 1) S28))))))))))) := by
    intro h1 h2
    rw [e25]
    refine (sp_fit (rg_b (by omega) (by omega)) hx (by omega)).I fun y S15 _ _ hy _ => ?_
    obtain ⟨rfl, rfl⟩ := hy
    by_cases c : ab_fit (w / 2) (A.1 10 s) q = true
    · rw [if_pos c]
      refine ⟨fun g => by omega, fun _ => (sp_now hR (rg_b (by omega) (by omega)) (rg_b (by omega) (by omega))).I fun z S21 _ _ hz _ => ?_⟩
      obtain ⟨rfl, rfl⟩ := hz
      by_cases c2 : ab_now (A.1 8 1) (w / 2) = true
      · rw [if_pos c2, e10]
        refine ⟨fun g => by omega, fun _ => ⟨fun g => no (fun k => by have := (ok.mp k).2.2.2.2.1; omega), fun g => (sp_count hR hW.1 hN).I fun u S28 _ _ hu _ => ?_⟩⟩
        obtain ⟨rfl, rfl⟩ := hu
        exact ⟨fun g => no (fun k => by have := (ok.mp k).2.2.2.2.2; omega), fun g3 => yes (ok.mpr ⟨h1, h2, c, c2, by omega, by omega⟩)⟩
      · rw [if_neg c2]
        exact ⟨fun _ => no (fun k => c2 (ok.mp k).2.2.2.1), fun g => absurd rfl g⟩
    · rw [if_neg c]
      exact ⟨fun _ => no (fun k => c (ok.mp k).2.2.1), fun g => absurd rfl g⟩
  simp only [Int.toNat_natCast]
  refine ⟨fun g => no (fun k => by have := (ok.mp k).1; omega), fun g => ⟨fun g2 => no (fun k => by have := (ok.mp k).1; omega), fun g2 => (sp_isQty hq).I fun y S3 _ _ hy _ => ?_⟩⟩
  obtain ⟨rfl, rfl⟩ := hy
  by_cases c : 1 ≤ q ∧ q ≤ 1000
  · rw [if_pos c]
    refine ⟨fun _ => ⟨by omega, (sp_hasLimit (rg_b (by omega) (by omega))).I fun z S9 _ _ hz _ => ?_⟩, fun g3 => by omega⟩
    obtain ⟨rfl, rfl⟩ := hz
    by_cases c2 : w / 2 = 1 ∨ w / 2 = 4
    · rw [if_pos c2]
      exact ⟨fun _ => ⟨by omega, by omega, tail (by omega) (Or.inl c2)⟩, fun g3 => absurd rfl g3⟩
    · rw [if_neg c2]
      refine ⟨fun g3 => by omega, fun _ => (sp_isPrice hp).I fun u S34 _ _ hu _ => ?_⟩
      obtain ⟨rfl, rfl⟩ := hu
      by_cases c3 : 1 ≤ p ∧ p ≤ 999
      · rw [if_pos c3]
        exact ⟨fun g3 => by omega, fun _ => ⟨by omega, by omega, tail (by omega) (Or.inr c3)⟩⟩
      · rw [if_neg c3]
        exact ⟨fun _ => no (fun k => by have := (ok.mp k).2.1; omega), fun g3 => absurd rfl g3⟩
  · rw [if_neg c]
    exact ⟨fun g3 => absurd rfl g3, fun _ => no (fun k => by have := (ok.mp k).1; omega)⟩
theorem sp_mayAccept {scr : Nat × (Nat → Int32)} {d N s : Nat} {m w q p : Int} {S : sk_S} {A : ab} (hR : RC 0 N S A) (hW : WS N m A) (hs : s < 4) (hw : rg w) (hq : rg q) (hp : rg p) :
    EE scr (d + 2) 111 0 [some (.ref 1), some (vi s), some (vi w), some (vi q), some (vi p), none] S (pI fun y S' => S' = S ∧ y = if ab_ok A s w q p = true then 1 else 0) :=
  sp_mayAccept' hR hW hs hw hq hp (fun h => ⟨_, rfl, rfl, by rw [if_pos h]⟩) (fun h => ⟨_, rfl, rfl, by rw [if_neg h]⟩)
