/-! 85.wf: what holds of a market at every step of a call, and what its operations do to the levels -/
def rcB (A : ab) (b : Int) : Prop := ∀ s, s < 4 → 0 ≤ A.1 11 s ∧ A.1 11 s ≤ b
/-- at every step: N orders -/
def WFw (N : Nat) (A : ab) : Prop :=
  N ≤ 200 ∧ (∀ i, i < N → (0 ≤ A.1 0 i ∧ A.1 0 i ≤ 3) ∧ (A.1 1 i = 0 ∨ A.1 1 i = 1) ∧ (0 ≤ A.1 7 i ∧ A.1 7 i ≤ 1000) ∧ (A.1 3 i = 1 → 1 ≤ A.1 5 i ∧ A.1 5 i ≤ 999) ∧ (0 ≤ A.1 4 i ∧ A.1 4 i ≤ 1000) ∧ (1 ≤ A.1 6 i ∧ A.1 6 i ≤ 1000) ∧ (0 ≤ A.1 2 i ∧ A.1 2 i ≤ 5)) ∧
  ∀ s, s < 2 → (A.2 s).Nodup ∧ (∀ i, i ∈ A.2 s ↔ i < N ∧ A.1 3 i = 1 ∧ A.1 1 i = (s : Int)) ∧ (A.2 s).length ≤ 40
theorem lev_le {A : ab} {l : List Nat} {p : Int} (h : ∀ i ∈ l, 0 ≤ A.1 7 i ∧ A.1 7 i ≤ 1000) : 0 ≤ (l.map fun i => if A.1 5 i = p then A.1 7 i else 0).sum ∧ (l.map fun i => if A.1 5 i = p then A.1 7 i else 0).sum ≤ 1000 * l.length := by
  induction l with
  | nil => simp
  | cons a l ih =>
    have h1 := h a List.mem_cons_self
    have h2 := ih (fun i hi => h i (List.mem_cons_of_mem _ hi))
    rw [List.map_cons, List.sum_cons, List.length_cons]
    split <;> omega
theorem WFw.lev {N : Nat} {A : ab} (h : WFw N A) {s : Nat} (hs : s < 2) (p : Int) : 0 ≤ ab_lev A s p ∧ ab_lev A s p ≤ 40000 := by
  obtain ⟨-, h1, h2⟩ := h
  obtain ⟨-, g1, g2⟩ := h2 s hs
  have h3 := lev_le (A := A) (l := A.2 s) (p := p) (fun i hi => (h1 i ((g1 i).mp hi).1).2.2.1)
  unfold ab_lev
  omega
theorem ab_sd_of {A : ab} {i s : Nat} (h : A.1 1 i = s) : ab_sd A i = s := by unfold ab_sd; rw [h, Int.toNat_natCast]
theorem sum_congr {l : List Nat} {f g : Nat → Int} (h : ∀ i ∈ l, f i = g i) : (l.map f).sum = (l.map g).sum := by rw [List.map_congr_left h]
theorem out_2 {A : ab} {i s : Nat} (hs : ab_sd A i = s) (t : Nat) : (ab_out A i).2 t = if t = s then (A.2 s).filter (fun j => decide (¬ j = i)) else A.2 t := by
  subst hs
  rfl
theorem out_1 (A : ab) (i k j : Nat) : (ab_out A i).1 k j = if (k = 3 ∨ k = 7) ∧ j = i then 0 else A.1 k j := by
  unfold ab_out
  rw [ab_u_get, ab_u_get, ab_l_1]
  by_cases h : k = 3 ∧ j = i
  · rw [if_pos h, if_pos ⟨Or.inl h.1, h.2⟩]
  · rw [if_neg h]
    by_cases g : k = 7 ∧ j = i
    · rw [if_pos g, if_pos ⟨Or.inr g.1, g.2⟩]
    · rw [if_neg g, if_neg (by omega)]
theorem out_ne {A : ab} {i k j : Nat} (h : (¬ k = 3 ∧ ¬ k = 7) ∨ ¬ j = i) : (ab_out A i).1 k j = A.1 k j := by rw [out_1, if_neg (by omega)]
theorem u_ne {A : ab} {k j k' j' : Nat} {v : Int} (h : ¬ k' = k ∨ ¬ j' = j) : (ab_u A k j v).1 k' j' = A.1 k' j' := by rw [ab_u_get, if_neg (by omega)]
theorem u_at {A : ab} {k j : Nat} {v : Int} : (ab_u A k j v).1 k j = v := by rw [ab_u_get, if_pos ⟨rfl, rfl⟩]
theorem lev_out {N : Nat} {A : ab} (h : WFw N A) {i s : Nat} (hs : s < 2) (hi : i ∈ A.2 s) {t : Nat} (ht : t < 2) (p : Int) : ab_lev (ab_out A i) t p = ab_lev A t p - (if t = s ∧ A.1 5 i = p then A.1 7 i else 0) := by
  obtain ⟨-, h1, h2⟩ := h
  obtain ⟨g0, g1, g2⟩ := h2 s hs
  obtain ⟨a1, a2, a3⟩ := (g1 i).mp hi
  have hsd := ab_sd_of a3
  unfold ab_lev
  rw [out_2 hsd]
  by_cases e : t = s
  · subst e
    rw [if_pos rfl, sum_out (fun j => if A.1 5 j = p then A.1 7 j else 0) g0 hi]
    have e2 : (((A.2 t).filter fun j => decide (¬ j = i)).map fun j => if (ab_out A i).1 5 j = p then (ab_out A i).1 7 j else 0).sum = (((A.2 t).filter fun j => decide (¬ j = i)).map fun j => if A.1 5 j = p then A.1 7 j else 0).sum := by
      refine sum_congr fun j hj => ?_
      have hne : ¬ j = i := of_decide_eq_true (List.mem_filter.mp hj).2
      rw [out_ne (Or.inr hne), out_ne (Or.inr hne)]
    rw [e2]
    simp only [true_and]
    omega
  · rw [if_neg e, if_neg (by omega), Int.sub_zero]
    refine sum_congr fun j hj => ?_
    have hne : ¬ j = i := fun g => e (by
      have := ((h2 t ht).2.1 j).mp hj
      rw [g, a3] at this
      omega)
    rw [out_ne (Or.inr hne), out_ne (Or.inr hne)]
theorem rst_1 (A : ab) (i k j : Nat) : (ab_rest A i).1 k j = if k = 7 ∧ j = i then min (A.1 6 i) (A.1 4 i) else if k = 3 ∧ j = i then 1 else A.1 k j := by
  unfold ab_rest
  rw [ab_l_1, ab_u_get, ab_u_get]
theorem rst_ne {A : ab} {i k j : Nat} (h : (¬ k = 3 ∧ ¬ k = 7) ∨ ¬ j = i) : (ab_rest A i).1 k j = A.1 k j := by rw [rst_1, if_neg (by omega), if_neg (by omega)]
theorem rst_2 {A : ab} {i s : Nat} (hs : ab_sd A i = s) (t : Nat) : (ab_rest A i).2 t = if t = s then ab_ins A i (A.2 s) else A.2 t := by
  subst hs
  rfl
theorem lev_rest {N : Nat} {A : ab} (h : WFw N A) {i s : Nat} (hs : s < 2) (hsd : A.1 1 i = s) (hi : ¬ i ∈ A.2 s) (hst : ¬ A.1 3 i = 1) {t : Nat} (ht : t < 2) (p : Int) : ab_lev (ab_rest A i) t p = ab_lev A t p + (if t = s ∧ A.1 5 i = p then min (A.1 6 i) (A.1 4 i) else 0) := by
  obtain ⟨-, h1, h2⟩ := h
  unfold ab_lev
  rw [rst_2 (ab_sd_of hsd)]
  by_cases e : t = s
  · subst e
    rw [if_pos rfl, sum_ins]
    have e2 : ((A.2 t).map fun j => if (ab_rest A i).1 5 j = p then (ab_rest A i).1 7 j else 0).sum = ((A.2 t).map fun j => if A.1 5 j = p then A.1 7 j else 0).sum := by
      refine sum_congr fun j hj => ?_
      have hne : ¬ j = i := fun g => hi (g ▸ hj)
      rw [rst_ne (Or.inr hne), rst_ne (Or.inr hne)]
    rw [e2, rst_ne (Or.inl (by omega)), show (ab_rest A i).1 7 i = min (A.1 6 i) (A.1 4 i) by rw [rst_1, if_pos ⟨rfl, rfl⟩]]
    simp only [true_and]
  · rw [if_neg e, if_neg (by omega), Int.add_zero]
    refine sum_congr fun j hj => ?_
    have hne : ¬ j = i := fun g => hst (by
      have := ((h2 t ht).2.1 j).mp hj
      rw [g] at this
      exact this.2.1)
    rw [rst_ne (Or.inr hne), rst_ne (Or.inr hne)]
theorem lev_show {N : Nat} {A : ab} (h : WFw N A) {i s : Nat} (hs : s < 2) (hi : i ∈ A.2 s) {v : Int} {t : Nat} (ht : t < 2) (p : Int) : ab_lev (ab_u A 7 i v) t p = ab_lev A t p + (if t = s ∧ A.1 5 i = p then v - A.1 7 i else 0) := by
  obtain ⟨-, h1, h2⟩ := h
  obtain ⟨g0, g1, g2⟩ := h2 s hs
  obtain ⟨a1, a2, a3⟩ := (g1 i).mp hi
  unfold ab_lev
  rw [ab_u_2]
  by_cases e : t = s
  · subst e
    rw [sum_out (fun j => if (ab_u A 7 i v).1 5 j = p then (ab_u A 7 i v).1 7 j else 0) g0 hi, sum_out (fun j => if A.1 5 j = p then A.1 7 j else 0) g0 hi]
    have e2 : (((A.2 t).filter fun j => decide (¬ j = i)).map fun j => if (ab_u A 7 i v).1 5 j = p then (ab_u A 7 i v).1 7 j else 0).sum = (((A.2 t).filter fun j => decide (¬ j = i)).map fun j => if A.1 5 j = p then A.1 7 j else 0).sum := by
      refine sum_congr fun j hj => ?_
      have hne : ¬ j = i := of_decide_eq_true (List.mem_filter.mp hj).2
      rw [u_ne (Or.inr hne), u_ne (Or.inr hne)]
    rw [e2, u_ne (Or.inl (by omega)), u_at]
    simp only [true_and]
    split <;> omega
  · rw [if_neg (by omega), Int.add_zero]
    refine sum_congr fun j hj => ?_
    have hne : ¬ j = i := fun g => e (by
      have := ((h2 t ht).2.1 j).mp hj
      rw [g, a3] at this
      omega)
    rw [u_ne (Or.inr hne), u_ne (Or.inr hne)]
/-- what reads nothing but lines, prices, shown parts -/
theorem lev_same {A B : ab} (h2 : ∀ s, A.2 s = B.2 s) (h5 : ∀ i, A.1 5 i = B.1 5 i) (h7 : ∀ i, A.1 7 i = B.1 7 i) (s : Nat) (p : Int) : ab_lev A s p = ab_lev B s p := by
  unfold ab_lev
  rw [h2 s]
  exact sum_congr fun j _ => by rw [h5, h7]
theorem tell_1 (A : ab) {s : Nat} {t o q p : Int} {k : Nat} (hk : k < 11) : (ab_tell A s t o q p).1 k = A.1 k := by
  funext j
  unfold ab_tell
  rw [ab_u_get, ab_u_get, ab_u_get, ab_u_get, ab_u_get, if_neg (by omega), if_neg (by omega), if_neg (by omega), if_neg (by omega), if_neg (by omega)]
theorem tell_2 (A : ab) {s t o q p : Int} : (ab_tell A s t o q p).2 = A.2 := rfl
theorem tell_rc (A : ab) {s : Nat} {t o q p : Int} (j : Nat) : (ab_tell A s t o q p).1 11 j = if j = s then A.1 11 s + 1 else A.1 11 j := by
  unfold ab_tell
  simp only [Int.toNat_natCast]
  rw [ab_u_get]
  by_cases e : j = s
  · rw [if_pos ⟨rfl, e⟩, if_pos e]
  · rw [if_neg (fun g => e g.2), if_neg e, ab_u_get, ab_u_get, ab_u_get, ab_u_get, if_neg (by omega), if_neg (by omega), if_neg (by omega), if_neg (by omega)]
theorem rcB.tell {A : ab} {b : Int} (h : rcB A b) {s : Nat} {t o q p : Int} : rcB (ab_tell A s t o q p) (b + 1) := by
  intro j hj
  rw [tell_rc]
  have h1 := h j hj
  split
  · rename_i e
    subst e
    omega
  · omega
theorem WFw.same {N : Nat} {A B : ab} (h : WFw N A) (h1 : ∀ k, k < 8 → ∀ i, B.1 k i = A.1 k i) (h2 : ∀ s, B.2 s = A.2 s) : WFw N B := by
  obtain ⟨g0, g1, g2⟩ := h
  refine ⟨g0, fun i hi => ?_, fun s hs => ?_⟩
  · rw [h1 0 (by omega), h1 1 (by omega), h1 7 (by omega), h1 3 (by omega), h1 5 (by omega), h1 4 (by omega), h1 6 (by omega), h1 2 (by omega)]
    exact g1 i hi
  · rw [h2 s]
    refine ⟨(g2 s hs).1, fun i => ?_, (g2 s hs).2.2⟩
    rw [h1 3 (by omega), h1 1 (by omega)]
    exact (g2 s hs).2.1 i
theorem WFw.tell {N : Nat} {A : ab} (h : WFw N A) {s : Nat} {t o q p : Int} : WFw N (ab_tell A s t o q p) := h.same (fun k hk i => by rw [tell_1 A (by omega)]) (fun _ => rfl)
theorem WFw.sc {N : Nat} {A : ab} (h : WFw N A) {q : Nat} {v : Int} : WFw N (ab_u A 8 q v) := h.same (fun k hk i => by rw [ab_u_get, if_neg (by omega)]) (fun _ => rfl)
theorem WFw.qty {N : Nat} {A : ab} (h : WFw N A) {i : Nat} {v : Int} (h0 : 0 ≤ v) (h1 : v ≤ 1000) : WFw N (ab_u A 4 i v) := by
  obtain ⟨g0, g1, g2⟩ := h
  refine ⟨g0, fun j hj => ?_, fun s hs => ⟨(g2 s hs).1, fun j => ?_, (g2 s hs).2.2⟩⟩
  · obtain ⟨a1, a2, a3, a4, a5, a6, a7⟩ := g1 j hj
    simp only [ab_u_get]
    simp only [show ¬ (0 : Nat) = 4 by omega, show ¬ (1 : Nat) = 4 by omega, show ¬ (7 : Nat) = 4 by omega, show ¬ (3 : Nat) = 4 by omega, show ¬ (5 : Nat) = 4 by omega, show ¬ (6 : Nat) = 4 by omega, show ¬ (2 : Nat) = 4 by omega, false_and, if_false]
    refine ⟨a1, a2, a3, a4, ?_, a6, a7⟩
    split <;> omega
  · rw [ab_u_get, ab_u_get, if_neg (by omega), if_neg (by omega), ab_u_2]
    exact (g2 s hs).2.1 j
theorem WFw.show {N : Nat} {A : ab} (h : WFw N A) {i : Nat} {v : Int} (h0 : 0 ≤ v) (h1 : v ≤ 1000) : WFw N (ab_u A 7 i v) := by
  obtain ⟨g0, g1, g2⟩ := h
  refine ⟨g0, fun j hj => ?_, fun s hs => ⟨(g2 s hs).1, fun j => ?_, (g2 s hs).2.2⟩⟩
  · obtain ⟨a1, a2, a3, a4, a5, a6, a7⟩ := g1 j hj
    simp only [ab_u_get]
    simp only [show ¬ (0 : Nat) = 7 by omega, show ¬ (1 : Nat) = 7 by omega, show ¬ (4 : Nat) = 7 by omega, show ¬ (3 : Nat) = 7 by omega, show ¬ (5 : Nat) = 7 by omega, show ¬ (6 : Nat) = 7 by omega, show ¬ (2 : Nat) = 7 by omega, false_and, if_false]
    refine ⟨a1, a2, ?_, a4, a5, a6, a7⟩
    split <;> omega
  · rw [ab_u_get, ab_u_get, if_neg (by omega), if_neg (by omega), ab_u_2]
    exact (g2 s hs).2.1 j
theorem WFw.out {N : Nat} {A : ab} (h : WFw N A) {i s : Nat} (hs : s < 2) (hi : i ∈ A.2 s) : WFw N (ab_out A i) := by
  obtain ⟨g0, g1, g2⟩ := h
  obtain ⟨a1, a2, a3⟩ := ((g2 s hs).2.1 i).mp hi
  have hsd := ab_sd_of a3
  refine ⟨g0, fun j hj => ?_, fun t ht => ?_⟩
  · obtain ⟨b1, b2, b3, b4, b5, b6, b7⟩ := g1 j hj
    simp only [out_1]
    simp only [show ¬ ((0 : Nat) = 3 ∨ (0 : Nat) = 7) by omega, show ¬ ((1 : Nat) = 3 ∨ (1 : Nat) = 7) by omega, show ¬ ((4 : Nat) = 3 ∨ (4 : Nat) = 7) by omega, show ¬ ((5 : Nat) = 3 ∨ (5 : Nat) = 7) by omega, show ¬ ((6 : Nat) = 3 ∨ (6 : Nat) = 7) by omega, show ¬ ((2 : Nat) = 3 ∨ (2 : Nat) = 7) by omega, show ((3 : Nat) = 3 ∨ (3 : Nat) = 7) by omega, show ((7 : Nat) = 3 ∨ (7 : Nat) = 7) by omega, false_and, true_and, if_false]
    refine ⟨b1, b2, ?_, ?_, b5, b6, b7⟩
    · split <;> omega
    · intro h3
      split at h3
      · omega
      · exact b4 h3
  · rw [out_2 hsd]
    obtain ⟨c1, c2, c3⟩ := g2 t ht
    by_cases e : t = s
    · subst e
      rw [if_pos rfl]
      refine ⟨c1.filter _, fun j => ?_, Nat.le_trans (List.length_filter_le _ _) c3⟩
      rw [List.mem_filter, c2 j, out_1, out_1]
      by_cases hj : j = i
      · subst hj
        simp
      · simp [hj]
    · rw [if_neg e]
      refine ⟨c1, fun j => ?_, c3⟩
      rw [c2 j, out_1, out_1]
      by_cases hj : j = i
      · subst hj
        constructor
        · intro q
          rw [a3] at q
          omega
        · intro q
          simp at q
      · simp [hj]
theorem WFw.rest {N : Nat} {A : ab} (h : WFw N A) {i s : Nat} (hN : i < N) (hs : s < 2) (hsd : A.1 1 i = s) (hst : ¬ A.1 3 i = 1) (hp : 1 ≤ A.1 5 i ∧ A.1 5 i ≤ 999) (hl : (A.2 s).length ≤ 39) : WFw N (ab_rest A i) := by
  obtain ⟨g0, g1, g2⟩ := h
  have hni : ∀ t, t < 2 → ¬ i ∈ A.2 t := fun t ht q => hst (((g2 t ht).2.1 i).mp q).2.1
  refine ⟨g0, fun j hj => ?_, fun t ht => ?_⟩
  · obtain ⟨b1, b2, b3, b4, b5, b6, b7⟩ := g1 j hj
    obtain ⟨d1, d2, d3, d4, d5, d6, d7⟩ := g1 i hN
    simp only [rst_1]
    simp only [show ¬ ((0 : Nat) = 3) by omega, show ¬ ((0 : Nat) = 7) by omega, show ¬ ((1 : Nat) = 3) by omega, show ¬ ((1 : Nat) = 7) by omega, show ¬ ((4 : Nat) = 3) by omega, show ¬ ((4 : Nat) = 7) by omega, show ¬ ((5 : Nat) = 3) by omega, show ¬ ((5 : Nat) = 7) by omega, show ¬ ((6 : Nat) = 3) by omega, show ¬ ((6 : Nat) = 7) by omega, show ¬ ((2 : Nat) = 3) by omega, show ¬ ((2 : Nat) = 7) by omega, show ¬ ((3 : Nat) = 7) by omega, show ¬ ((7 : Nat) = 3) by omega, false_and, true_and, if_false]
    refine ⟨b1, b2, ?_, ?_, b5, b6, b7⟩
    · split <;> omega
    · intro h3
      split at h3
      · rename_i e
        rw [e]
        exact hp
      · exact b4 h3
  · rw [rst_2 (ab_sd_of hsd)]
    obtain ⟨c1, c2, c3⟩ := g2 t ht
    by_cases e : t = s
    · subst e
      rw [if_pos rfl]
      refine ⟨nodup_ins c1 (hni t ht), fun j => ?_, by rw [len_ins]; omega⟩
      rw [mem_ins, c2 j, rst_1, rst_1]
      by_cases hj : j = i
      · subst hj
        simp [hsd, hN]
      · simp [hj]
    · rw [if_neg e]
      refine ⟨c1, fun j => ?_, c3⟩
      rw [c2 j, rst_1, rst_1]
      by_cases hj : j = i
      · subst hj
        constructor
        · intro q
          exact absurd q.2.1 hst
        · intro q
          simp [hsd] at q
          omega
      · simp [hj]
