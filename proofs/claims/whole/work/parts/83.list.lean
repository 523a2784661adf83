/-! 83.list: lines and sums -/
theorem sum_out {l : List Nat} {i : Nat} (f : Nat → Int) (hn : l.Nodup) (hi : i ∈ l) : (l.map f).sum = ((l.filter fun j => decide (¬ j = i)).map f).sum + f i := by
  induction l with
  | nil => cases hi
  | cons a l ih =>
    have hn' := List.nodup_cons.mp hn
    by_cases h : a = i
    · subst h
      have e : (a :: l).filter (fun j => decide (¬ j = a)) = l := by
        rw [List.filter_cons]
        simp only [not_true_eq_false, decide_false]
        refine List.filter_eq_self.mpr fun x hx => ?_
        exact decide_eq_true (fun g => hn'.1 (g ▸ hx))
      rw [e, List.map_cons, List.sum_cons]
      omega
    · have hi' : i ∈ l := (List.mem_cons.mp hi).resolve_left (fun g => h g.symm)
      have e : (a :: l).filter (fun j => decide (¬ j = i)) = a :: l.filter (fun j => decide (¬ j = i)) := by
        rw [List.filter_cons]
        simp [h]
      rw [e, List.map_cons, List.sum_cons, List.map_cons, List.sum_cons, ih hn'.2 hi']
      omega
theorem filter_none {l : List Nat} {i : Nat} (hi : ¬ i ∈ l) : (l.filter fun j => decide (¬ j = i)) = l :=
  List.filter_eq_self.mpr fun x hx => decide_eq_true (fun g => hi (g ▸ hx))
theorem len_out {l : List Nat} {i : Nat} (hn : l.Nodup) (hi : i ∈ l) : l.length = (l.filter fun j => decide (¬ j = i)).length + 1 := by
  have h := sum_out (fun _ => 1) hn hi
  have e : ∀ q : List Nat, (q.map (fun _ => (1 : Int))).sum = q.length := by
    intro q
    induction q with
    | nil => rfl
    | cons a q ih => rw [List.map_cons, List.sum_cons, ih, List.length_cons]; omega
  rw [e, e] at h
  omega
theorem mem_ins {A : ab} {i x : Nat} {l : List Nat} : x ∈ ab_ins A i l ↔ x = i ∨ x ∈ l := by
  induction l with
  | nil => simp [ab_ins]
  | cons a l ih =>
    unfold ab_ins
    split
    · simp
    · simp only [List.mem_cons, ih]
      constructor
      · rintro (h | h | h)
        · exact Or.inr (Or.inl h)
        · exact Or.inl h
        · exact Or.inr (Or.inr h)
      · rintro (h | h | h)
        · exact Or.inr (Or.inl h)
        · exact Or.inl h
        · exact Or.inr (Or.inr h)
theorem sum_ins {A : ab} {i : Nat} {l : List Nat} (f : Nat → Int) : ((ab_ins A i l).map f).sum = (l.map f).sum + f i := by
  induction l with
  | nil => simp [ab_ins]
  | cons a l ih =>
    unfold ab_ins
    split
    · simp only [List.map_cons, List.sum_cons]
      omega
    · simp only [List.map_cons, List.sum_cons, ih]
      omega
theorem len_ins {A : ab} {i : Nat} {l : List Nat} : (ab_ins A i l).length = l.length + 1 := by
  induction l with
  | nil => rfl
  | cons a l ih =>
    unfold ab_ins
    split
    · rfl
    · rw [List.length_cons, ih, List.length_cons]
theorem nodup_ins {A : ab} {i : Nat} {l : List Nat} (hn : l.Nodup) (hi : ¬ i ∈ l) : (ab_ins A i l).Nodup := by
  induction l with
  | nil => simp [ab_ins]
  | cons a l ih =>
    have hn' := List.nodup_cons.mp hn
    have ha : ¬ i = a := fun g => hi (g ▸ List.mem_cons_self)
    have hi' : ¬ i ∈ l := fun g => hi (List.mem_cons_of_mem _ g)
    unfold ab_ins
    split
    · exact List.nodup_cons.mpr ⟨hi, hn⟩
    · refine List.nodup_cons.mpr ⟨fun g => ?_, ih hn'.2 hi'⟩
      rcases mem_ins.mp g with g | g
      · exact ha g.symm
      · exact hn'.1 g
theorem ins_at {A : ab} {i : Nat} {l1 l2 : List Nat} (h1 : ∀ x ∈ l1, ab_bt (A.1 1 i) (A.1 5 i) (A.1 5 x) = false) (h2 : ∀ x, l2[0]? = some x → ab_bt (A.1 1 i) (A.1 5 i) (A.1 5 x) = true) : ab_ins A i (l1 ++ l2) = l1 ++ i :: l2 := by
  induction l1 with
  | nil =>
    cases l2 with
    | nil => rfl
    | cons a l2 =>
      show ab_ins A i (a :: l2) = _
      unfold ab_ins
      rw [if_pos (h2 a rfl)]
      rfl
  | cons a l1 ih =>
    show ab_ins A i (a :: (l1 ++ l2)) = _
    unfold ab_ins
    rw [if_neg (by rw [h1 a List.mem_cons_self]; decide), ih (fun x hx => h1 x (List.mem_cons_of_mem _ hx))]
    rfl
theorem len_le_count {P : Nat → Bool} : ∀ (n : Nat) (l : List Nat), l.Nodup → (∀ x ∈ l, x < n ∧ P x = true) → l.length ≤ (List.range n).countP P := by
  intro n
  induction n with
  | zero =>
    intro l _ h
    cases l with
    | nil => simp
    | cons a l => exact absurd (h a List.mem_cons_self).1 (Nat.not_lt_zero _)
  | succ n ih =>
    intro l hn h
    rw [List.range_succ, List.countP_append]
    by_cases hm : n ∈ l
    · rw [len_out hn hm]
      have h1 := ih (l.filter fun j => decide (¬ j = n)) (hn.filter _) (fun x hx => by
        have h2 := List.mem_filter.mp hx
        have h3 := h x h2.1
        have h4 : ¬ x = n := of_decide_eq_true h2.2
        exact ⟨by omega, h3.2⟩)
      have h5 : [n].countP P = 1 := by simp [(h n hm).2]
      omega
    · have h1 := ih l hn (fun x hx => by
        have h3 := h x hx
        have h4 : ¬ x = n := fun g => hm (g ▸ hx)
        exact ⟨by omega, h3.2⟩)
      omega
theorem count_upd {P Q : Nat → Bool} {i : Nat} (h : ∀ x, ¬ x = i → P x = Q x) : ∀ n : Nat, ((List.range n).countP P : Int) = (List.range n).countP Q + (if i < n then (if P i = true then 1 else 0) - (if Q i = true then 1 else 0) else 0) := by
  intro n
  induction n with
  | zero => simp
  | succ n ih =>
    rw [List.range_succ, List.countP_append, List.countP_append]
    have e : ∀ R : Nat → Bool, ([n].countP R : Int) = if R n = true then 1 else 0 := by
      intro R
      by_cases g : R n = true <;> simp [g]
    rw [Int.natCast_add, Int.natCast_add, ih, e P, e Q]
    by_cases hi : i = n
    · subst hi
      rw [if_neg (show ¬ i < i by omega), if_pos (show i < i + 1 by omega)]
      omega
    · rw [h n (fun g => hi g.symm)]
      by_cases hl : i < n
      · rw [if_pos hl, if_pos (show i < n + 1 by omega)]
        omega
      · rw [if_neg hl, if_neg (show ¬ i < n + 1 by omega)]
        omega
