/-! 90.cls5: the class: what is wholly tradable, comeIn, stops -/
theorem WS.le {N : Nat} {m m' : Int} {A : ab} (h : WS N m A) (hm : m ≤ m') : WS N m' A := ⟨h.1, h.2.1, h.2.2.1, h.2.2.2.1, h.2.2.2.2.1, h.2.2.2.2.2.1, h.2.2.2.2.2.2.1, Int.le_trans h.2.2.2.2.2.2.2 hm⟩
theorem settle_ws {N : Nat} {m B : Int} {i : Nat} {A : ab} (hm : m ≤ 39) (hi : i < N) (h : WS N m A) (hst : A.1 3 i = 0) (hB : rcB A B) : WS N (m + 1) (ab_settle A i) ∧ rcB (ab_settle A i) (B + 1) ∧ (∀ k, k < 8 → ¬ k = 3 → ¬ k = 4 → ¬ k = 7 → ∀ j, (ab_settle A i).1 k j = A.1 k j) := by
  obtain ⟨s, hs, hsd⟩ := h.2.1.side hi
  have hq := (h.2.1.2.1 i hi).2.2.2.2.1
  unfold ab_settle
  by_cases c : A.1 4 i = 0
  · rw [if_pos c]
    exact ⟨h.le (by omega), hB.le (by omega), fun _ _ _ _ _ _ => rfl⟩
  · rw [if_neg c]
    by_cases c2 : A.1 2 i = 0 ∨ A.1 2 i = 5
    · rw [if_pos c2]
      exact ⟨h.rest hi hs hsd hst c2 (by omega) hm, (hB.le (by omega)).same (fun j => rst_ne (Or.inl (by omega))), fun k hk h3 h4 h7 j => rst_ne (Or.inl ⟨h3, h7⟩)⟩
    · rw [if_neg c2]
      exact ⟨(h.drop hi hs hsd).le (by omega), drop_rc hB (h.2.1.2.1 i hi).1.1, fun k hk h3 h4 h7 j => drop_row (by omega) h3 h4 h7⟩
theorem match_ws {N : Nat} {m B band : Int} {i : Nat} {A : ab} (hm : m ≤ 39) (hi : i < N) (h : WS N m A) (hst : A.1 3 i = 0) (hB : rcB A B) : WS N (m + 1) (ab_match band A i) ∧ rcB (ab_match band A i) (B + 2081) ∧ (∀ k, k < 8 → ¬ k = 3 → ¬ k = 4 → ¬ k = 7 → ∀ j, (ab_match band A i).1 k j = A.1 k j) := by
  obtain ⟨r1, r2, r3, r4⟩ := loop_ws (band := band) (show m ≤ 40 by omega) hi 1040 A B h hst hB
  obtain ⟨t1, t2, t3⟩ := settle_ws hm hi r1 r2 r3
  exact ⟨t1, t2.le (by omega), fun k hk h3 h4 h7 j => by unfold ab_match; rw [t3 k hk h3 h4 h7 j, r4 k hk h3 h4 h7 j]⟩
theorem st_ws {N : Nat} {m v : Int} {i : Nat} {A : ab} (hi : i < N) (h : WS N m A) (hst : ¬ A.1 3 i = 1) (hv : v = 0 ∨ (v = 2 ∧ A.1 2 i = 4 ∧ 1 ≤ A.1 4 i)) : WS N (m + (if v = 0 then 0 else 1) - (if A.1 3 i = 0 then 0 else 1)) (ab_u A 3 i v) := by
  have hn := h.n
  obtain ⟨g1, g2, g3, g4, g5, g6, g7, g8⟩ := h
  refine ⟨by rw [u_ne (Or.inl (by omega))]; exact g1, ?_, fun s hs => (g3 s hs).same rfl (fun j => u_ne (Or.inl (by omega))), by rw [u_ne (Or.inl (by omega))]; exact g4, by rw [u_ne (Or.inl (by omega))]; exact g5, by rw [u_ne (Or.inl (by omega))]; exact g6, fun j hj => ?_, ?_⟩
  · obtain ⟨q0, q1, q2⟩ := g2
    refine ⟨q0, fun j hj => ?_, fun s hs => ⟨(q2 s hs).1, fun j => ?_, (q2 s hs).2.2⟩⟩
    · obtain ⟨b1, b2, b3, b4, b5, b6, b7⟩ := q1 j hj
      rw [u_ne (k' := 0) (Or.inl (by omega)), u_ne (k' := 1) (Or.inl (by omega)), u_ne (k' := 7) (Or.inl (by omega)), u_ne (k' := 5) (Or.inl (by omega)), u_ne (k' := 4) (Or.inl (by omega)), u_ne (k' := 6) (Or.inl (by omega)), u_ne (k' := 2) (Or.inl (by omega))]
      refine ⟨b1, b2, b3, fun q => ?_, b5, b6, b7⟩
      rw [ab_u_get] at q
      split at q
      · omega
      · exact b4 q
    · rw [ab_u_2, (q2 s hs).2.1 j, u_ne (k' := 1) (Or.inl (by omega)), ab_u_get]
      by_cases e : j = i
      · rw [if_pos ⟨rfl, e⟩, e]
        constructor
        · intro q; exact absurd q.2.1 hst
        · intro q; omega
      · rw [if_neg (fun q => e q.2)]
  · by_cases e : j = i
    · subst e
      have hj' := g7 j hj
      unfold WFi at *
      rw [u_at, u_ne (k' := 7) (Or.inl (by omega)), u_ne (k' := 4) (Or.inl (by omega)), u_ne (k' := 2) (Or.inl (by omega)), u_ne (k' := 5) (Or.inl (by omega))]
      exact ⟨by omega, fun _ => hj'.2.1 hst, fun q => by omega, fun q => by omega, hj'.2.2.2.2⟩
    · exact (g7 j hj).same (fun k hk => u_ne (Or.inr e))
  · rw [open_upd (A := A) (i := i) (u_ne (Or.inl (by omega))) (fun j hj => u_ne (Or.inr hj)) (by omega), u_at]
    by_cases e1 : v = 0
    · rw [if_neg (by omega), if_pos e1]
      by_cases e2 : A.1 3 i = 0
      · rw [if_neg (by omega), if_pos e2]; omega
      · rw [if_pos e2, if_neg e2]; omega
    · rw [if_pos e1, if_neg e1]
      by_cases e2 : A.1 3 i = 0
      · rw [if_neg (by omega), if_pos e2]; omega
      · rw [if_pos e2, if_neg e2]; omega
theorem in_ws {N : Nat} {m B band : Int} {i : Nat} {A : ab} (hm : m ≤ 39) (hi : i < N) (h : WS N m A) (hst : A.1 3 i = 0) (hq : 1 ≤ A.1 4 i) (hB : rcB A B) : WS N (m + 1) (ab_in band A i) ∧ rcB (ab_in band A i) (B + 2081) := by
  unfold ab_in
  by_cases c : A.1 2 i = 4
  · rw [if_pos c]
    have h2 := st_ws (v := 2) hi h (by omega) (Or.inr ⟨rfl, c, hq⟩)
    rw [if_neg (by omega), if_pos hst] at h2
    exact ⟨h2.le (by omega), (hB.le (by omega)).same (fun j => u_ne (Or.inl (by omega)))⟩
  · rw [if_neg c]
    split
    · obtain ⟨r1, r2, -⟩ := match_ws (band := band) hm hi h hst hB
      exact ⟨r1, r2⟩
    · obtain ⟨r1, r2, -⟩ := settle_ws hm hi h hst hB
      exact ⟨r1, r2.le (by omega)⟩
theorem sum_le {N : Nat} {A : ab} {band : Int} {i : Nat} (h : ∀ j, j < N → 0 ≤ A.1 4 j ∧ A.1 4 j ≤ 1000) : ∀ l : List Nat, (∀ j ∈ l, j < N) → 0 ≤ ab_sum band A i l ∧ ab_sum band A i l ≤ 1000 * l.length := by
  intro l
  induction l with
  | nil => intro _; simp [ab_sum]
  | cons a l ih =>
    intro hl
    have h1 := ih (fun j hj => hl j (List.mem_cons_of_mem _ hj))
    have h2 := h a (hl a List.mem_cons_self)
    unfold ab_sum
    rw [List.length_cons]
    split
    · omega
    · split <;> omega
theorem sum_cons1 {A : ab} {band : Int} {i b : Nat} {l : List Nat} : ab_sum band A i (b :: l) = if ab_meets A b i = false ∨ ab_wild band A (A.1 5 b) = true then 0 else (if A.1 0 b = A.1 0 i then 0 else A.1 4 b) + ab_sum band A i l := rfl
theorem sp_tradable {scr : Nat × (Nat → Int32)} {d N i : Nat} {m band : Int} {S : sk_S} {A : ab} (hi : i < N) (hC : CI N S A) (hW : WS N m A) (hbd : S 1 0 = band) :
    EE scr (d + 2) 125 0 [some (.ref 1), some (vi i), none, none, none, none] S (pI fun x S' => S' = S ∧ x = if A.1 4 i ≤ ab_sum band A i (A.2 (1 - ab_sd A i)) then 1 else 0) := by
  have hN := hW.2.1.1
  obtain ⟨s, hs, hsd⟩ := hW.2.1.side hi
  have hR := hC.1
  have e12 : S 12 i = s := (hR.2.1 1 (by omega) i hi).trans hsd
  have e15 : S 15 i = A.1 4 i := hR.2.1 4 (by omega) i hi
  have e11 : S 11 i = A.1 0 i := hR.2.1 0 (by omega) i hi
  have hs1 : 1 - s < 2 := by omega
  obtain ⟨c0, c1, c2⟩ := hW.2.1.2.2 (1 - s) hs1
  obtain ⟨hl1, hl2⟩ := hR.2.2.1 (1 - s) hs1
  have hl1' : S 22 (1 - s) = ((A.2 (1 - s)).length : Int) := hl1
  have hl2' : ∀ j k : Nat, (A.2 (1 - s))[j]? = some k → S (20 + (1 - s)) j = (k : Int) := hl2
  rw [ab_sd_of hsd]
  have loop : ∀ (k place : Nat) (acc : Int) (l5 : Option Value), place + k = (A.2 (1 - s)).length → 0 ≤ acc → acc ≤ 1000 * place → acc + ab_sum band A i ((A.2 (1 - s)).drop place) = ab_sum band A i (A.2 (1 - s)) →
      EE scr (d + 2) 125 17 [some (.ref 1), some (vi i), some (vi (1 - s : Nat)), some (vi acc), some (vi place), l5] S (pI fun x S' => S' = S ∧ x = if A.1 4 i ≤ ab_sum band A i (A.2 (1 - s)) then 1 else 0) := by
    intro k
    induction k with
    | zero =>
      intro place acc l5 hk h0 h1 he
      rw [List.drop_of_length_le (by omega)] at he
      have he' : acc = ab_sum band A i (A.2 (1 - s)) := by
        have : ab_sum band A i [] = 0 := rfl
        omega
      refine st_125_17 (rg_n (by omega)) (rg_n (by omega)) (rg_b (by omega) (by omega)) (rg_n (by omega)) ?_
      simp only [Int.toNat_natCast, hl1', e15]
      refine ⟨by omega, by omega, fun _ => ⟨by omega, by omega, fun g => ⟨_, rfl, rfl, ?_⟩, fun g => ⟨_, rfl, rfl, ?_⟩⟩, fun g => by omega⟩
      · rw [if_neg (by omega)]
      · rw [if_pos (by omega)]
    | succ k ih =>
      intro place acc l5 hk h0 h1 he
      have hlt : place < (A.2 (1 - s)).length := by omega
      obtain ⟨b, hb⟩ : ∃ b, (A.2 (1 - s))[place]? = some b := ⟨_, List.getElem?_eq_getElem hlt⟩
      have hbm : b ∈ A.2 (1 - s) := List.mem_of_getElem? hb
      obtain ⟨a1, a2, a3⟩ := (c1 b).mp hbm
      have hpb := (hW.2.1.2.1 b a1).2.2.2.1 a2
      have hqb := (hW.2.1.2.1 b a1).2.2.2.2.1
      have hd : (A.2 (1 - s)).drop place = b :: (A.2 (1 - s)).drop (place + 1) := by
        rw [List.drop_eq_getElem_cons hlt]
        congr 1
        exact (List.getElem?_eq_some_iff.mp hb).2
      rw [hd] at he
      have es : S (20 + (1 - s)) place = (b : Int) := hl2' place b hb
      have e16 : S 16 b = A.1 5 b := hR.2.1 5 (by omega) b a1
      have e15b : S 15 b = A.1 4 b := hR.2.1 4 (by omega) b a1
      have e11b : S 11 b = A.1 0 b := hR.2.1 0 (by omega) b a1
      refine st_125_17 (rg_n (by omega)) (rg_n (by omega)) (rg_b (by omega) (by omega)) (rg_n (by omega)) ?_
      simp only [Int.toNat_natCast, hl1', es, e16]
      refine ⟨by omega, by omega, fun g => by omega, fun _ => ⟨by omega, by omega, by omega, by omega, ?_⟩⟩
      refine (sp_meets (b := b) hR hi hN rfl (rg_b (by omega) (by omega))).I fun y S3 _ _ hy _ => ?_
      obtain ⟨rfl, rfl⟩ := hy
      simp only [e15, e16]
      rw [sum_cons1] at he
      by_cases m1 : ab_meets A b i = true
      · rw [if_pos m1]
        refine ⟨fun g => by omega, fun _ => ?_⟩
        refine (sp_wild hR hbd hpb hW.2.2.2.1).I fun z S10 _ _ hz _ => ?_
        obtain ⟨rfl, rfl⟩ := hz
        simp only [e15, e11, e11b, e15b]
        by_cases w1 : ab_wild band A (A.1 5 b) = true
        · rw [if_pos (Or.inr w1)] at he
          rw [if_pos w1]
          refine ⟨fun g => by omega, fun _ => ⟨by omega, by omega, fun g => ⟨_, rfl, rfl, ?_⟩, fun g => ⟨_, rfl, rfl, ?_⟩⟩⟩
          · rw [if_neg (by omega)]
          · rw [if_pos (by omega)]
        · have hno : ¬ (ab_meets A b i = false ∨ ab_wild band A (A.1 5 b) = true) := by
            rw [m1]
            simp [w1]
          rw [if_neg hno] at he
          rw [if_neg w1]
          refine ⟨fun _ => ⟨by omega, by omega, fun g => ?_, fun g => ?_⟩, fun g => absurd rfl g⟩
          · rw [if_pos g] at he
            exact ih (place + 1) acc (some (vi b)) (by omega) h0 (by omega) (by omega)
          · rw [if_neg g] at he
            exact ih (place + 1) (acc + A.1 4 b) (some (vi b)) (by omega) (by omega) (by omega) (by omega)
      · have m1' : ab_meets A b i = false := Bool.eq_false_iff.mpr m1
        rw [if_pos (Or.inl m1')] at he
        rw [if_neg m1]
        refine ⟨fun _ => ⟨by omega, by omega, fun g => ⟨_, rfl, rfl, ?_⟩, fun g => ⟨_, rfl, rfl, ?_⟩⟩, fun g => absurd rfl g⟩
        · rw [if_neg (by omega)]
        · rw [if_pos (by omega)]
  refine st_125_0 (rg_n (by omega)) ?_
  simp only [Int.toNat_natCast, e12]
  have h := loop (A.2 (1 - s)).length 0 0 none (by omega) (by omega) (by omega) (by rw [List.drop_zero]; omega)
  rw [show ((1 - s : Nat) : Int) = 1 - (s : Int) by omega] at h
  exact ⟨by omega, by omega, h⟩
theorem sp_comeIn {scr : Nat × (Nat → Int32)} {d N i : Nat} {m band B : Int} {S : sk_S} {A : ab} (hm : m ≤ 39) (hi : i < N) (hC : CI N S A) (hW : WS N m A) (hst : A.1 3 i = 0) (hbd : S 1 0 = band) (hB : rcB A B) (hB2 : B + 2081 < 2147483000) :
    EE scr (d + 4) 123 0 [some (.ref 1), some (vi i), none] S (pV fun S' => CI N S' (ab_in band A i) ∧ Fr 2 31 S S') := by
  have hN := hW.2.1.1
  have hR := hC.1
  have e13 : S 13 i = A.1 2 i := hR.2.1 2 (by omega) i hi
  have e9 : S 9 0 = A.1 8 1 := hR.1.2.1
  have hloop : EE scr (d + 3) 126 0 [some (.ref 1), some (vi i), none, none, none] S (pV fun S9 => EE scr (d + 3) 124 0 [some (.ref 1), some (vi i)] S9 (pV fun S14 => pV (fun S' => CI N S' (ab_match band A i) ∧ Fr 2 31 S S') none S14)) := by
    refine (sp_match (show m ≤ 40 by omega) hi hC hW hst hbd hB (by omega)).V fun S9 _ hk => ?_
    obtain ⟨r1, r2, r3, r4⟩ := loop_ws (band := band) (show m ≤ 40 by omega) hi 1040 A B hW hst hB
    exact (sp_settle hm hi hk.1 r1 r2 r3 (by omega)).V fun S14 _ hk2 => ⟨rfl, hk2.1, hk.2.trans hk2.2⟩
  refine st_123_0 (rg_n (by omega)) ?_
  simp only [Int.toNat_natCast, e13, e9]
  unfold ab_in
  refine ⟨by omega, by omega, fun g => ?_, fun g S40 q40 => ?_⟩
  · rw [if_neg g]
    refine ⟨fun g2 => ?_, fun g2 => ⟨fun g3 => ?_, fun g3 => ?_⟩⟩
    · rw [if_neg (fun q => g2 q.1)]
      exact (sp_settle hm hi hC hW hst hB (by omega)).V fun S3 _ hk => ⟨rfl, hk⟩
    · rw [if_pos ⟨g2, Or.inl g3⟩]
      exact hloop
    · refine (sp_tradable (band := band) hi hC hW hbd).I fun x S19 _ _ hx _ => ?_
      obtain ⟨rfl, rfl⟩ := hx
      by_cases c : A.1 4 i ≤ ab_sum band A i (A.2 (1 - ab_sd A i))
      · rw [if_pos c, if_pos ⟨g2, Or.inr c⟩]
        exact ⟨fun q => by omega, fun _ => hloop⟩
      · rw [if_neg c, if_neg (fun q => q.2.elim (fun q1 => q1 g3) c)]
        exact ⟨fun _ => (sp_settle hm hi hC hW hst hB (by omega)).V fun S3 _ hk => ⟨rfl, hk⟩, fun q => absurd rfl q⟩
  · rw [if_pos g, q40]
    exact ⟨rfl, hC.cells (hR.col (by omega) (by omega)) (fun k hk => sk_u_ne (by omega)) (fun _ => rfl) (fun j => u_ne (Or.inl (by omega))) (fun j => u_ne (Or.inl (by omega))), Fr.u (by omega) (by omega)⟩
theorem sp_due {scr : Nat × (Nat → Int32)} {d N i : Nat} {S : sk_S} {A : ab} (hR : RC 0 N S A) (hi : i < N) (hN : N ≤ 200) : EE scr d 132 0 [some (.ref 1), some (vi i), none] S (pI fun x S' => S' = S ∧ x = if (if A.1 1 i = 0 then decide (A.1 5 i ≤ A.1 8 2) else decide (A.1 8 2 ≤ A.1 5 i)) = true then 1 else 0) := by
  have e12 : S 12 i = A.1 1 i := hR.2.1 1 (by omega) i hi
  have e16 : S 16 i = A.1 5 i := hR.2.1 5 (by omega) i hi
  have e9 : S 9 1 = A.1 8 2 := hR.1.2.2.1
  refine st_132_0 (rg_n (by omega)) ?_
  simp only [Int.toNat_natCast, e12, e16, e9]
  refine ⟨by omega, by omega, fun g => ?_, fun g => ?_⟩
  · rw [if_neg g]
    refine ⟨fun g2 => ⟨_, rfl, rfl, ?_⟩, fun g2 => ⟨_, rfl, rfl, ?_⟩⟩
    · rw [if_neg (by rw [decide_eq_true_eq]; omega)]
    · rw [if_pos (by rw [decide_eq_true_eq]; omega)]
  · rw [if_pos g]
    refine ⟨fun g2 => ⟨_, rfl, rfl, ?_⟩, fun g2 => ⟨_, rfl, rfl, ?_⟩⟩
    · rw [if_neg (by rw [decide_eq_true_eq]; omega)]
    · rw [if_pos (by rw [decide_eq_true_eq]; omega)]
/-- the first number from k on that fits -/
def fstI (P : Nat → Bool) (n : Nat) : Nat → Nat → Int
  | 0, _ => -1
  | f + 1, k => if k < n then (if P k = true then (k : Int) else fstI P n f (k + 1)) else -1
theorem fst_find {P : Nat → Bool} {n : Nat} : ∀ (f k : Nat), k + f = n → fstI P n f k = match ((List.range n).drop k).find? P with
    | none => -1
    | some i => (i : Int) := by
  intro f
  induction f with
  | zero =>
    intro k hk
    rw [List.drop_of_length_le (by rw [List.length_range]; omega)]
    rfl
  | succ f ih =>
    intro k hk
    have hlt : k < (List.range n).length := by rw [List.length_range]; omega
    rw [List.drop_eq_getElem_cons hlt, List.getElem_range, List.find?_cons]
    unfold fstI
    rw [if_pos (by omega)]
    by_cases c : P k = true
    · rw [if_pos c, c]
    · rw [if_neg c, ih (k + 1) (by omega), Bool.eq_false_iff.mpr c]
theorem stop_fst (A : ab) : (match ab_stop A with
    | none => -1
    | some i => (i : Int)) = fstI (ab_due A) (ab_n A) (ab_n A) 0 := by
  rw [fst_find (ab_n A) 0 (by omega), List.drop_zero]
  rfl
theorem sp_lowest {scr : Nat × (Nat → Int32)} {d N : Nat} {S : sk_S} {A : ab} (hR : RC 0 N S A) (hn : A.1 8 0 = N) (hN : N ≤ 200) : EE scr (d + 1) 131 0 [some (.ref 1), none] S (pI fun x S' => S' = S ∧ x = match ab_stop A with
    | none => -1
    | some i => (i : Int)) := by
  have en : ab_n A = N := by unfold ab_n; rw [hn, Int.toNat_natCast]
  have e10 : S 10 0 = N := hR.1.1.trans hn
  rw [stop_fst, en]
  have loop : ∀ f k : Nat, k + f = N → EE scr (d + 1) 131 2 [some (.ref 1), some (vi k)] S (pI fun x S' => S' = S ∧ x = fstI (ab_due A) N f k) := by
    intro f
    induction f with
    | zero =>
      intro k hk
      refine st_131_2 (rg_n (by omega)) ?_
      rw [e10]
      exact ⟨fun _ => ⟨_, rfl, rfl, rfl⟩, fun g => by omega⟩
    | succ f ih =>
      intro k hk
      have e14 : S 14 k = A.1 3 k := hR.2.1 3 (by omega) k (by omega)
      refine st_131_2 (rg_n (by omega)) ?_
      simp only [Int.toNat_natCast, e10, e14]
      unfold fstI
      rw [if_pos (by omega)]
      have hkk : ((k : Int) + 1) = ((k + 1 : Nat) : Int) := by omega
      rw [hkk]
      refine ⟨fun g => by omega, fun _ => ⟨by omega, by omega, fun g => ?_, fun g => ?_⟩⟩
      · rw [if_neg (by unfold ab_due; simp [g])]
        exact ih (k + 1) (by omega)
      · refine (sp_due hR (by omega) hN).I fun x S3 _ _ hx _ => ?_
        obtain ⟨rfl, rfl⟩ := hx
        have ed : ab_due A k = (if A.1 1 k = 0 then decide (A.1 5 k ≤ A.1 8 2) else decide (A.1 8 2 ≤ A.1 5 k)) := by unfold ab_due; simp [g]
        rw [← ed]
        by_cases c : ab_due A k = true
        · rw [if_pos c, if_pos c]
          exact ⟨fun q => by omega, fun _ => ⟨_, rfl, rfl, rfl⟩⟩
        · rw [if_neg c, if_neg c]
          exact ⟨fun _ => ih (k + 1) (by omega), fun q => absurd rfl q⟩
  exact st_131_0 (loop N 0 (by omega))
theorem stop_at {A : ab} {i : Nat} (h : ab_stop A = some i) : i < ab_n A ∧ A.1 3 i = 2 := by
  have h1 := List.mem_of_find?_eq_some h
  have h2 := List.find?_some h
  unfold ab_due at h2
  rw [Bool.and_eq_true, decide_eq_true_eq] at h2
  exact ⟨List.mem_range.mp h1, h2.1⟩
theorem kind_ws {N : Nat} {m : Int} {i : Nat} {A : ab} (h : WS N m A) (hst : A.1 3 i = 0) : WS N m (ab_u A 2 i 1) := by
  obtain ⟨g1, g2, g3, g4, g5, g6, g7, g8⟩ := h
  refine ⟨by rw [u_ne (Or.inl (by omega))]; exact g1, ?_, fun s hs => (g3 s hs).same rfl (fun j => u_ne (Or.inl (by omega))), by rw [u_ne (Or.inl (by omega))]; exact g4, by rw [u_ne (Or.inl (by omega))]; exact g5, by rw [u_ne (Or.inl (by omega))]; exact g6, fun j hj => ?_, ?_⟩
  · obtain ⟨q0, q1, q2⟩ := g2
    refine ⟨q0, fun j hj => ?_, fun s hs => ⟨(q2 s hs).1, fun j => ?_, (q2 s hs).2.2⟩⟩
    · obtain ⟨b1, b2, b3, b4, b5, b6, b7⟩ := q1 j hj
      rw [u_ne (k' := 0) (Or.inl (by omega)), u_ne (k' := 1) (Or.inl (by omega)), u_ne (k' := 7) (Or.inl (by omega)), u_ne (k' := 5) (Or.inl (by omega)), u_ne (k' := 4) (Or.inl (by omega)), u_ne (k' := 6) (Or.inl (by omega)), u_ne (k' := 3) (Or.inl (by omega)), ab_u_get]
      refine ⟨b1, b2, b3, b4, b5, b6, ?_⟩
      split <;> omega
    · rw [ab_u_2, (q2 s hs).2.1 j, u_ne (k' := 1) (Or.inl (by omega)), u_ne (k' := 3) (Or.inl (by omega))]
  · by_cases e : j = i
    · subst e
      have hj' := g7 j hj
      unfold WFi at *
      rw [u_at, u_ne (k' := 7) (Or.inl (by omega)), u_ne (k' := 4) (Or.inl (by omega)), u_ne (k' := 3) (Or.inl (by omega)), u_ne (k' := 5) (Or.inl (by omega)), hst]
      exact ⟨by omega, fun q => hj'.2.1 (by omega), fun q => by omega, fun q => by omega, fun q => absurd rfl q, hj'.2.2.2.2.2⟩
    · exact (g7 j hj).same (fun k hk => u_ne (Or.inr e))
  · rw [open_same (u_ne (Or.inl (by omega))) (fun j => u_ne (Or.inl (by omega)))]
    exact g8
theorem stop1_ws {N : Nat} {i : Nat} {A : ab} (h : WS N 40 A) (hs : ab_stop A = some i) : i < N ∧ WS N 39 (ab_u (ab_u A 3 i 0) 2 i 1) ∧ (ab_u (ab_u A 3 i 0) 2 i 1).1 3 i = 0 := by
  obtain ⟨h1, h2⟩ := stop_at hs
  rw [h.n] at h1
  have h3 := st_ws (v := 0) h1 h (by omega) (Or.inl rfl)
  rw [if_pos rfl, if_neg (by omega)] at h3
  refine ⟨h1, (kind_ws h3 u_at).le (by omega), ?_⟩
  rw [u_ne (Or.inl (by omega)), u_at]
theorem stops_ws {N : Nat} {band : Int} : ∀ (f : Nat) (A : ab) (B : Int), WS N 40 A → rcB A B → WS N 40 (ab_stops band f A) ∧ rcB (ab_stops band f A) (B + 2081 * f) := by
  intro f
  induction f with
  | zero => intro A B h hB; exact ⟨h, hB.le (by omega)⟩
  | succ f ih =>
    intro A B h hB
    unfold ab_stops
    by_cases c : A.1 8 1 = 2
    · rw [if_pos c]
      cases hs : ab_stop A with
      | none => exact ⟨h, hB.le (by omega)⟩
      | some i =>
        obtain ⟨h1, h2, h3⟩ := stop1_ws h hs
        obtain ⟨r1, r2, -⟩ := match_ws (band := band) (show (39 : Int) ≤ 39 by omega) h1 h2 h3 (hB.same (fun j => by rw [u_ne (Or.inl (by omega)), u_ne (Or.inl (by omega))]))
        obtain ⟨t1, t2⟩ := ih _ _ (r1.le (by omega)) r2
        exact ⟨t1, t2.le (by omega)⟩
    · rw [if_neg c]
      exact ⟨h, hB.le (by omega)⟩
theorem sp_stops {scr : Nat × (Nat → Int32)} {d N : Nat} {band : Int} : ∀ (f turn : Nat) (S : sk_S) (A : ab) (B : Int) (l2 : Option Value), turn + f = 40 → CI N S A → WS N 40 A → S 1 0 = band → rcB A B → B + 2081 * f < 2147480000 →
    EE scr (d + 4) 121 2 [some (.ref 1), some (vi turn), l2] S (pV fun S' => CI N S' (ab_stops band f A) ∧ Fr 2 31 S S') := by
  intro f
  induction f with
  | zero =>
    intro turn S A B l2 hf hC hW hbd hB hB2
    refine st_121_2 (rg_n (by omega)) ?_
    exact ⟨fun _ => ⟨rfl, hC, Fr.refl⟩, fun g => by omega⟩
  | succ f ih =>
    intro turn S A B l2 hf hC hW hbd hB hB2
    have hN := hW.2.1.1
    have e9 : S 9 0 = A.1 8 1 := hC.1.1.2.1
    refine st_121_2 (rg_n (by omega)) ?_
    rw [e9]
    unfold ab_stops
    refine ⟨fun g => by omega, fun _ => ⟨fun g => ?_, fun g => ?_⟩⟩
    · rw [if_neg g]
      exact ⟨rfl, hC, Fr.refl⟩
    · rw [if_pos g]
      refine (sp_lowest hC.1 hW.1 hN).I fun x S3 _ _ hx _ => ?_
      obtain ⟨rfl, hx⟩ := hx
      cases hs : ab_stop A with
      | none =>
        rw [hs] at hx
        dsimp only at hx ⊢
        exact ⟨fun q => absurd hx q, fun _ => ⟨rfl, hC, Fr.refl⟩⟩
      | some i =>
        rw [hs] at hx
        dsimp only at hx ⊢
        subst hx
        obtain ⟨h1, h2, h3⟩ := stop1_ws hW hs
        refine ⟨fun _ => ⟨by omega, by omega, fun S9 q9 S12 q12 => ?_⟩, fun q => by omega⟩
        simp only [Int.toNat_natCast] at q9 q12
        have hC12 : CI N S12 (ab_u (ab_u A 3 i 0) 2 i 1) := by
          rw [q12, q9]
          exact hC.cells ((hC.1.col (by omega) (by omega)).col (by omega) (by omega)) (fun k hk => by rw [sk_u_ne (by omega), sk_u_ne (by omega)]) (fun _ => rfl) (fun j => by rw [u_ne (Or.inl (by omega)), u_ne (Or.inl (by omega))]) (fun j => by rw [u_ne (Or.inl (by omega)), u_ne (Or.inl (by omega))])
        have fr12 : Fr 2 31 S3 S12 := by
          rw [q12, q9]
          exact (Fr.u (by omega) (by omega)).trans (Fr.u (by omega) (by omega))
        have hB12 : rcB (ab_u (ab_u A 3 i 0) 2 i 1) B := hB.same (fun j => by rw [u_ne (Or.inl (by omega)), u_ne (Or.inl (by omega))])
        refine (sp_match (band := band) (show (39 : Int) ≤ 40 by omega) h1 hC12 h2 h3 (by rw [fr12 1 (by omega)]; exact hbd) hB12 (by omega)).V fun S15 _ hk => ?_
        obtain ⟨r1, r2, r3, r4⟩ := loop_ws (band := band) (show (39 : Int) ≤ 40 by omega) h1 1040 _ B h2 h3 hB12
        refine (sp_settle (show (39 : Int) ≤ 39 by omega) h1 hk.1 r1 r2 r3 (by omega)).V fun S20 _ hk2 => ?_
        obtain ⟨t1, t2, -⟩ := match_ws (band := band) (show (39 : Int) ≤ 39 by omega) h1 h2 h3 hB12
        have fr20 := (fr12.trans hk.2).trans hk2.2
        have h := ih (turn + 1) S20 _ (B + 2081) (some (vi i)) (by omega) hk2.1 (t1.le (by omega)) (by rw [fr20 1 (by omega)]; exact hbd) t2 (by omega)
        exact h.V fun S' _ hq => ⟨hq.1, fr20.trans hq.2⟩
theorem sp_release {scr : Nat × (Nat → Int32)} {d N : Nat} {band B : Int} {S : sk_S} {A : ab} (hC : CI N S A) (hW : WS N 40 A) (hbd : S 1 0 = band) (hB : rcB A B) (hB2 : B < 2147000000) :
    EE scr (d + 4) 121 0 [some (.ref 1), none, none] S (pV fun S' => CI N S' (ab_stops band 40 A) ∧ Fr 2 31 S S') :=
  st_121_0 (sp_stops 40 0 S A B none rfl hC hW hbd hB (by omega))
