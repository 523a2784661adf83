/-! 91.cls6: the class: the auction's price -/
def sq (A : ab) (l : List Nat) : Int := (l.map fun i => A.1 4 i).sum
theorem sq_app {A : ab} {l1 l2 : List Nat} : sq A (l1 ++ l2) = sq A l1 + sq A l2 := by unfold sq; rw [List.map_append, List.sum_append]
theorem sq_one {A : ab} {x : Nat} : sq A [x] = A.1 4 x := by simp [sq]
theorem sq_le {N : Nat} {A : ab} (h : ∀ j, j < N → 0 ≤ A.1 4 j ∧ A.1 4 j ≤ 1000) : ∀ l : List Nat, (∀ j ∈ l, j < N) → 0 ≤ sq A l ∧ sq A l ≤ 1000 * l.length := by
  intro l
  induction l with
  | nil => intro _; simp [sq]
  | cons a l ih =>
    intro hl
    have h1 := ih (fun j hj => hl j (List.mem_cons_of_mem _ hj))
    have h2 := h a (hl a List.mem_cons_self)
    have e : sq A (a :: l) = A.1 4 a + sq A l := rfl
    rw [e, List.length_cons]
    omega
theorem part_sum {A : ab} {P : Nat → Bool} : ∀ (l1 l2 : List Nat), (∀ j ∈ l1, P j = true) → (∀ j ∈ l2, P j = false) → ((l1 ++ l2).map fun i => if P i = true then A.1 4 i else 0).sum = sq A l1 := by
  intro l1 l2 h1 h2
  rw [List.map_append, List.sum_append]
  have e1 : (l1.map fun i => if P i = true then A.1 4 i else 0).sum = sq A l1 := sum_congr fun j hj => by rw [if_pos (h1 j hj)]
  have e2 : (l2.map fun i => if P i = true then A.1 4 i else 0).sum = (l2.map fun _ => (0 : Int)).sum := sum_congr fun j hj => by rw [if_neg (by rw [h2 j hj]; decide)]
  have e3 : ∀ l : List Nat, (l.map fun _ => (0 : Int)).sum = 0 := by
    intro l
    induction l with
    | nil => rfl
    | cons a l ih => rw [List.map_cons, List.sum_cons, ih]; rfl
  rw [e1, e2, e3, Int.add_zero]
theorem dem_eq {A : ab} {p : Int} {k : Nat} (h1 : ∀ j ∈ (A.2 0).take k, p ≤ A.1 5 j) (h2 : ∀ j ∈ (A.2 0).drop k, A.1 5 j < p) : ab_dem A p = sq A ((A.2 0).take k) := by
  have h := part_sum (A := A) (P := fun i => decide (p ≤ A.1 5 i)) ((A.2 0).take k) ((A.2 0).drop k) (fun j hj => decide_eq_true (h1 j hj)) (fun j hj => decide_eq_false (by have := h2 j hj; omega))
  rw [List.take_append_drop] at h
  rw [← h]
  exact sum_congr fun j _ => by simp only [decide_eq_true_eq]
theorem sup_eq {A : ab} {p : Int} {k : Nat} (h1 : ∀ j ∈ (A.2 1).take k, A.1 5 j ≤ p) (h2 : ∀ j ∈ (A.2 1).drop k, p < A.1 5 j) : ab_sup A p = sq A ((A.2 1).take k) := by
  have h := part_sum (A := A) (P := fun i => decide (A.1 5 i ≤ p)) ((A.2 1).take k) ((A.2 1).drop k) (fun j hj => decide_eq_true (h1 j hj)) (fun j hj => decide_eq_false (by have := h2 j hj; omega))
  rw [List.take_append_drop] at h
  rw [← h]
  exact sum_congr fun j _ => by simp only [decide_eq_true_eq]
theorem w1_skip {A : ab} {w : Int × Int × Int} {p : Int} (h : ¬ 0 < min (ab_dem A p) (ab_sup A p)) : ab_w1 A w p = w := by
  unfold ab_w1
  rw [if_neg (fun g => h g.1)]
theorem take_drop_at {l : List Nat} {k x : Nat} (h : l[k]? = some x) : l.take (k + 1) = l.take k ++ [x] ∧ l.drop k = x :: l.drop (k + 1) := by
  refine ⟨by rw [List.take_succ, h]; rfl, ?_⟩
  have hl := (List.getElem?_eq_some_iff.mp h).1
  rw [List.drop_eq_getElem_cons hl]
  congr 1
  exact (List.getElem?_eq_some_iff.mp h).2
theorem mem_take_lt {l : List Nat} {k x : Nat} (h : x ∈ l.take k) : ∃ j, j < k ∧ l[j]? = some x := by
  obtain ⟨j, hj⟩ := List.getElem?_of_mem h
  have hl := (List.getElem?_eq_some_iff.mp hj).1
  rw [List.length_take] at hl
  rw [List.getElem?_take_of_lt (by omega)] at hj
  exact ⟨j, by omega, hj⟩
theorem mem_drop_ge {l : List Nat} {k x : Nat} (h : x ∈ l.drop k) : ∃ j, k ≤ j ∧ l[j]? = some x := by
  obtain ⟨j, hj⟩ := List.getElem?_of_mem h
  rw [List.getElem?_drop] at hj
  exact ⟨k + j, by omega, hj⟩
theorem Srt.at {A : ab} {s a b x y : Nat} (hs : s < 2) (h : Srt A s) (ha : (A.2 s)[a]? = some x) (hb : (A.2 s)[b]? = some y) (hab : a ≤ b) : (if s = 0 then A.1 5 y else -A.1 5 y) ≤ (if s = 0 then A.1 5 x else -A.1 5 x) := by
  by_cases e : a = b
  · subst e
    rw [ha] at hb
    cases hb
    omega
  · have h1 := List.pairwise_iff_getElem.mp h a b (List.getElem?_eq_some_iff.mp ha).1 (List.getElem?_eq_some_iff.mp hb).1 (by omega)
    rw [(List.getElem?_eq_some_iff.mp ha).2, (List.getElem?_eq_some_iff.mp hb).2, bt_w s hs] at h1
    have h2 := of_decide_eq_false h1
    omega
theorem sp_bestPrice {scr : Nat × (Nat → Int32)} {d N s : Nat} {m : Int} {S : sk_S} {A : ab} (hR : RC 0 N S A) (hW : WS N m A) (hs : s < 2) : EE scr (d + 1) 97 0 [some (.ref 10), some (vi s), none] S (pI fun x S' => S' = S ∧ x = match A.2 s with
    | [] => 0
    | b :: _ => A.1 5 b) := by
  have hN := hW.2.1.1
  refine st_97_0 (rg_n (by omega)) ?_
  refine (sp_best hR hs).I fun x S1 _ _ hx _ => ?_
  obtain ⟨rfl, hx⟩ := hx
  cases hl : A.2 s with
  | nil =>
    rw [hl] at hx
    dsimp only at hx ⊢
    exact ⟨fun g => absurd hx g, fun _ => ⟨_, rfl, rfl, rfl⟩⟩
  | cons b l =>
    rw [hl] at hx
    dsimp only at hx ⊢
    subst hx
    have hb : b ∈ A.2 s := by rw [hl]; exact List.mem_cons_self
    obtain ⟨a1, a2, a3⟩ := ((hW.2.1.2.2 s hs).2.1 b).mp hb
    have e16 : S1 16 b = A.1 5 b := hR.2.1 5 (by omega) b a1
    simp only [Int.toNat_natCast, e16]
    exact ⟨fun _ => ⟨by omega, by omega, _, rfl, rfl, rfl⟩, fun g => by omega⟩
theorem sp_sumOf {scr : Nat × (Nat → Int32)} {d N : Nat} {m : Int} {S : sk_S} {A : ab} (hR : RC 0 N S A) (hW : WS N m A) : EE scr d 89 0 [some (.ref 10), some (.ref 20), some (vi (A.2 0).length), none, none] S (pI fun x S' => S' = S ∧ x = sq A (A.2 0)) := by
  have hN := hW.2.1.1
  obtain ⟨c0, c1, c2⟩ := hW.2.1.2.2 0 (by omega)
  have hl2 : ∀ j k : Nat, (A.2 0)[j]? = some k → S 20 j = (k : Int) := (hR.2.2.1 0 (by omega)).2
  have hqty : ∀ j, j < N → 0 ≤ A.1 4 j ∧ A.1 4 j ≤ 1000 := fun j hj => (hW.2.1.2.1 j hj).2.2.2.2.1
  have loop : ∀ k place : Nat, place + k = (A.2 0).length → EE scr d 89 5 [some (.ref 10), some (.ref 20), some (vi (A.2 0).length), some (vi (sq A ((A.2 0).take place))), some (vi place)] S (pI fun x S' => S' = S ∧ x = sq A (A.2 0)) := by
    intro k
    induction k with
    | zero =>
      intro place hk
      have hb := sq_le hqty ((A.2 0).take place) (fun j hj => ((c1 j).mp (List.mem_of_mem_take hj)).1)
      have hlt : ((A.2 0).take place).length ≤ 40 := by rw [List.length_take]; omega
      refine st_89_5 (rg_n (by omega)) (rg_b (by omega) (by omega)) (rg_n (by omega)) ?_
      rw [List.take_of_length_le (by omega)]
      exact ⟨fun _ => ⟨_, rfl, rfl, rfl⟩, fun g => by omega⟩
    | succ k ih =>
      intro place hk
      have hb := sq_le hqty ((A.2 0).take place) (fun j hj => ((c1 j).mp (List.mem_of_mem_take hj)).1)
      have hlt : ((A.2 0).take place).length ≤ 40 := by rw [List.length_take]; omega
      obtain ⟨x, hx⟩ : ∃ x, (A.2 0)[place]? = some x := ⟨_, List.getElem?_eq_getElem (by omega)⟩
      have hxN := ((c1 x).mp (List.mem_of_getElem? hx)).1
      have e20 := hl2 place x hx
      have e15 : S 15 x = A.1 4 x := hR.2.1 4 (by omega) x hxN
      refine st_89_5 (rg_n (by omega)) (rg_b (by omega) (by omega)) (rg_n (by omega)) ?_
      simp only [Int.toNat_natCast, e20, e15]
      refine ⟨fun g => by omega, fun _ => ⟨by omega, by omega, by omega, by omega, ?_⟩⟩
      have h := ih (place + 1) (by omega)
      rw [(take_drop_at hx).1, sq_app, sq_one] at h
      exact h
  exact st_89_0 (rg_n (by omega)) (loop (A.2 0).length 0 (by omega))
/-- the auction's cells -/
def AU (S : sk_S) (w : Int × Int × Int) : Prop := S 8 0 = w.1 ∧ S 8 1 = w.2.1 ∧ S 8 2 = w.2.2
theorem sp_weigh {scr : Nat × (Nat → Int32)} {d : Nat} {S : sk_S} {A : ab} {w : Int × Int × Int} {p : Int} (hA : AU S w) (hp : 1 ≤ p ∧ p ≤ 999) (hr : 1 ≤ A.1 8 3 ∧ A.1 8 3 ≤ 999) (hw : 0 ≤ w.1 ∧ w.1 ≤ 999) (hd : 0 < ab_dem A p ∧ ab_dem A p ≤ 40000) (hu : 0 < ab_sup A p ∧ ab_sup A p ≤ 40000) :
    EE scr (d + 2) 90 0 [some (.ref 8), some (vi p), some (vi (ab_dem A p)), some (vi (ab_sup A p)), some (vi (A.1 8 3)), none, none] S (pV fun S' => AU S' (ab_w1 A w p) ∧ Fr 8 8 S S') := by
  obtain ⟨a0, a1, a2⟩ := hA
  have eabs : max (ab_dem A p - ab_sup A p) (-(ab_dem A p - ab_sup A p)) = max (ab_dem A p - ab_sup A p) (ab_sup A p - ab_dem A p) := by congr 1; omega
  refine st_90_0 (rg_b (by omega) (by omega)) (rg_b (by omega) (by omega)) (rg_b (by omega) (by omega)) (rg_b (by omega) (by omega)) ?_
  rw [eabs]
  refine ⟨rg_b (by omega) (by omega), ?_⟩
  have hbet : EE scr (d + 1) 91 0 [some (.ref 8), some (vi p), some (vi (min (ab_dem A p) (ab_sup A p))), some (vi (max (ab_dem A p - ab_sup A p) (ab_sup A p - ab_dem A p))), some (vi (A.1 8 3))] S (pI fun x S' => S' = S ∧ ((x = 1 ∧ ab_w1 A w p = (p, min (ab_dem A p) (ab_sup A p), max (ab_dem A p - ab_sup A p) (ab_sup A p - ab_dem A p))) ∨ (x = 0 ∧ ab_w1 A w p = w))) := by
    refine st_91_0 (rg_b (by omega) (by omega)) (rg_b (by omega) (by omega)) (rg_b (by omega) (by omega)) (rg_b (by omega) (by omega)) ?_
    rw [a0, a1, a2]
    unfold ab_w1
    dsimp only
    refine ⟨fun g => ⟨fun g2 => ⟨rg_b (by omega) (by omega), rg_b (by omega) (by omega), rg_b (by omega) (by omega), rg_b (by omega) (by omega), fun g3 => ?_, fun g3 => ?_⟩, fun g2 => ⟨fun g3 => ?_, fun g3 => ?_⟩⟩, fun g => ⟨fun g2 => ?_, fun g2 => ?_⟩⟩
    · exact ⟨_, rfl, rfl, Or.inr ⟨rfl, if_neg (by omega)⟩⟩
    · exact ⟨_, rfl, rfl, Or.inl ⟨rfl, if_pos (by omega)⟩⟩
    · exact ⟨_, rfl, rfl, Or.inr ⟨rfl, if_neg (by omega)⟩⟩
    · exact ⟨_, rfl, rfl, Or.inl ⟨rfl, if_pos (by omega)⟩⟩
    · exact ⟨_, rfl, rfl, Or.inr ⟨rfl, if_neg (by omega)⟩⟩
    · exact ⟨_, rfl, rfl, Or.inl ⟨rfl, if_pos (by omega)⟩⟩
  refine hbet.I fun x S1 _ _ hx _ => ?_
  obtain ⟨rfl, hx⟩ := hx
  rcases hx with ⟨rfl, hx⟩ | ⟨rfl, hx⟩
  · refine ⟨fun g => by omega, fun _ S7 q7 S10 q10 => ⟨rg_b (by omega) (by omega), fun S13 q13 => ⟨rfl, ?_, ?_⟩⟩⟩
    · rw [hx, q13, q10, q7]
      refine ⟨?_, ?_, ?_⟩
      · rw [sk_u_nj (by omega), sk_u_nj (by omega), sk_u_at]
      · rw [sk_u_nj (by omega), sk_u_at]
      · rw [sk_u_at]
    · rw [q13, q10, q7]
      exact ((Fr.u (by omega) (by omega)).trans (Fr.u (by omega) (by omega))).trans (Fr.u (by omega) (by omega))
  · rw [hx]
    exact ⟨fun _ => ⟨rfl, ⟨a0, a1, a2⟩, Fr.refl⟩, fun g => absurd rfl g⟩
theorem wto_price (A : ab) : ∀ k : Nat, 0 ≤ (ab_wto A k).1 ∧ (ab_wto A k).1 ≤ k := by
  intro k
  induction k with
  | zero => exact ⟨by show (0 : Int) ≤ 0; omega, by show (0 : Int) ≤ 0; omega⟩
  | succ k ih =>
    unfold ab_wto ab_w1
    dsimp only
    split
    · exact ⟨by show (0 : Int) ≤ (k : Int) + 1; omega, by show (k : Int) + 1 ≤ ((k + 1 : Nat) : Int); omega⟩
    · omega
theorem wto_zero {A : ab} : ∀ (k : Nat), (∀ p : Nat, p ≤ k → ¬ 0 < min (ab_dem A p) (ab_sup A p)) → ab_wto A k = (0, 0, 0) := by
  intro k
  induction k with
  | zero => intro _; rfl
  | succ k ih =>
    intro h
    unfold ab_wto
    rw [w1_skip (by have := h (k + 1) (by omega); rwa [show ((k + 1 : Nat) : Int) = (k : Int) + 1 by omega] at this), ih (fun p hp => h p (by omega))]
theorem wto_const {A : ab} {k : Nat} : ∀ (n : Nat), (∀ p : Nat, k < p → p ≤ k + n → ¬ 0 < min (ab_dem A p) (ab_sup A p)) → ab_wto A (k + n) = ab_wto A k := by
  intro n
  induction n with
  | zero => intro _; rfl
  | succ n ih =>
    intro h
    show ab_w1 A (ab_wto A (k + n)) ((k + n : Nat) + 1) = _
    rw [w1_skip (by have := h (k + n + 1) (by omega) (by omega); rwa [show ((k + n + 1 : Nat) : Int) = ((k + n : Nat) : Int) + 1 by omega] at this), ih (fun p h1 h2 => h p h1 (by omega))]
