/-! 9i.ref6: the reference: sums by price, the auction -/
/-- the quantity of the first n orders on a side whose price fits -/
def qtTo (A : ab) (s : Nat) (P : Int → Bool) (n : Nat) : Int := sumTo (fun i => if A.1 3 i = 1 ∧ A.1 1 i = (s : Int) then (if P (A.1 5 i) = true then A.1 4 i else 0) else 0) n
theorem qtTo_bd {N : Nat} {A : ab} (h : WFw N A) {s n : Nat} {P : Int → Bool} (hn : n ≤ N) : 0 ≤ qtTo A s P n ∧ qtTo A s P n ≤ 1000 * n := by
  refine sumTo_bd n (fun i hi => ?_) (by omega)
  have := (h.2.1 i (by omega)).2.2.2.2.1
  split
  · split <;> omega
  · omega
theorem dem_to {N : Nat} {A : ab} (h : WFw N A) (p : Int) : ab_dem A p = qtTo A 0 (fun x => decide (p ≤ x)) N := by
  unfold ab_dem qtTo
  rw [line_sum h (by omega)]
  refine sumTo_congr N (fun i _ => ?_)
  simp only [decide_eq_true_eq]
theorem sup_to {N : Nat} {A : ab} (h : WFw N A) (p : Int) : ab_sup A p = qtTo A 1 (fun x => decide (x ≤ p)) N := by
  unfold ab_sup qtTo
  rw [line_sum h (by omega)]
  refine sumTo_congr N (fun i _ => ?_)
  simp only [decide_eq_true_eq]
theorem dem_step {N : Nat} {A : ab} (h : WFw N A) (p : Int) : ab_dem A p = qtTo A 0 (fun x => decide (x = p)) N + ab_dem A (p + 1) := by
  rw [dem_to h, dem_to h]
  refine sumTo_add N (fun i _ => ?_)
  simp only [decide_eq_true_eq]
  by_cases c : A.1 3 i = 1 ∧ A.1 1 i = ((0 : Nat) : Int)
  · rw [if_pos c, if_pos c, if_pos c]
    by_cases c1 : p ≤ A.1 5 i
    · rw [if_pos c1]
      by_cases c2 : A.1 5 i = p
      · rw [if_pos c2, if_neg (by omega)]
        omega
      · rw [if_neg c2, if_pos (by omega)]
        omega
    · rw [if_neg c1, if_neg (by omega), if_neg (by omega)]
      rfl
  · rw [if_neg c, if_neg c, if_neg c]
    rfl
theorem sup_step {N : Nat} {A : ab} (h : WFw N A) (p : Int) : ab_sup A (p + 1) = qtTo A 1 (fun x => decide (x = p + 1)) N + ab_sup A p := by
  rw [sup_to h, sup_to h]
  refine sumTo_add N (fun i _ => ?_)
  simp only [decide_eq_true_eq]
  by_cases c : A.1 3 i = 1 ∧ A.1 1 i = ((1 : Nat) : Int)
  · rw [if_pos c, if_pos c, if_pos c]
    by_cases c1 : A.1 5 i ≤ p + 1
    · rw [if_pos c1]
      by_cases c2 : A.1 5 i = p + 1
      · rw [if_pos c2, if_neg (by omega)]
        omega
      · rw [if_neg c2, if_pos (by omega)]
        omega
    · rw [if_neg c1, if_neg (by omega), if_neg (by omega)]
      rfl
  · rw [if_neg c, if_neg c, if_neg c]
    rfl
theorem dem_top {N : Nat} {A : ab} (h : WFw N A) : ab_dem A 999 = qtTo A 0 (fun x => decide (x = 999)) N := by
  rw [dem_to h]
  refine sumTo_congr N (fun i hi => ?_)
  simp only [decide_eq_true_eq]
  by_cases c : A.1 3 i = 1 ∧ A.1 1 i = ((0 : Nat) : Int)
  · have := (h.2.1 i hi).2.2.2.1 c.1
    rw [if_pos c, if_pos c]
    by_cases c2 : A.1 5 i = 999
    · rw [if_pos c2, if_pos (by omega)]
    · rw [if_neg c2, if_neg (by omega)]
  · rw [if_neg c, if_neg c]
theorem sup_bot {N : Nat} {A : ab} (h : WFw N A) : ab_sup A 0 = qtTo A 1 (fun x => decide (x = 0)) N := by
  rw [sup_to h]
  refine sumTo_congr N (fun i hi => ?_)
  simp only [decide_eq_true_eq]
  by_cases c : A.1 3 i = 1 ∧ A.1 1 i = ((1 : Nat) : Int)
  · have := (h.2.1 i hi).2.2.2.1 c.1
    rw [if_pos c, if_pos c, if_neg (by omega), if_neg (by omega)]
  · rw [if_neg c, if_neg c]
def SU (S : sk_S) (A : ab) : Prop := ∀ p : Nat, p < 1000 → S 78 p = ab_dem A p ∧ S 79 p = ab_sup A p
theorem rp_sums {scr : Nat × (Nat → Int32)} {d N : Nat} {m : Int} {S : sk_S} {A : ab} (hR : RM 0 N S A) (hW : WS N m A) :
    EE scr d 53 0 [some (.ref 66), none] S (pV fun S' => SU S' A ∧ ∀ k, ¬ k = 78 → ¬ k = 79 → S' k = S k) := by
  have hN := hW.2.1.1
  have hdm := fun p => dem_bd hW p
  have loop3 : ∀ (f x : Nat) (T : sk_S), x + f = 1000 → 1 ≤ x → (∀ q : Nat, q < 1000 → T 79 q = if q < x then ab_sup A q else qtTo A 1 (fun y => decide (y = (q : Int))) N) → (∀ q : Nat, q < 1000 → T 78 q = if 1000 - x ≤ q then ab_dem A q else qtTo A 0 (fun y => decide (y = (q : Int))) N) → (∀ k, ¬ k = 78 → ¬ k = 79 → T k = S k) → EE scr d 53 126 [some (.ref 66), some (vi x)] T (pV fun S' => SU S' A ∧ ∀ k, ¬ k = 78 → ¬ k = 79 → S' k = S k) := by
    intro f
    induction f with
    | zero =>
      intro x T hx h1 h79 h78 hf
      refine st_53_126 (rg_n (by omega)) ⟨fun _ => ⟨rfl, fun p hp => ⟨?_, ?_⟩, hf⟩, fun g => by omega⟩
      · rw [h78 p hp, if_pos (by omega)]
      · rw [h79 p hp, if_pos (by omega)]
    | succ f ih =>
      intro x T hx h1 h79 h78 hf
      have i1 : ((x : Int) - 1).toNat = x - 1 := by omega
      have i2 : ((999 : Int) - x).toNat = 999 - x := by omega
      have i3 : ((1000 : Int) - x).toNat = 1000 - x := by omega
      refine st_53_126 (rg_n (by omega)) ⟨fun g => by omega, fun _ => ?_⟩
      simp only [Int.toNat_natCast, i1, i2, i3]
      have a1 := h79 x (by omega)
      rw [if_neg (by omega)] at a1
      have a2 := h79 (x - 1) (by omega)
      rw [if_pos (by omega)] at a2
      have st1 := sup_step hW.2.1 ((x - 1 : Nat) : Int)
      rw [show ((x - 1 : Nat) : Int) + 1 = (x : Int) by omega] at st1
      have e79 : T 79 x + T 79 (x - 1) = ab_sup A x := by rw [a1, a2, st1]
      rw [e79]
      have hb := hdm x
      refine ⟨by omega, by omega, by omega, by omega, rg_b (by omega) (by omega), fun S2 q2 => ?_⟩
      have a3 := h78 (999 - x) (by omega)
      rw [if_neg (by omega)] at a3
      have a4 := h78 (1000 - x) (by omega)
      rw [if_pos (by omega)] at a4
      have st2 := dem_step hW.2.1 ((999 - x : Nat) : Int)
      rw [show ((999 - x : Nat) : Int) + 1 = ((1000 - x : Nat) : Int) by omega] at st2
      have e78 : S2 78 (999 - x) + S2 78 (1000 - x) = ab_dem A ((999 - x : Nat) : Int) := by rw [q2, sk_u_ne (by omega), a3, a4, st2]
      rw [e78]
      have hb2 := hdm ((999 - x : Nat) : Int)
      refine ⟨by omega, by omega, by omega, by omega, rg_b (by omega) (by omega), fun S5 q5 => ih (x + 1) S5 (by omega) (by omega) (fun q hq => ?_) (fun q hq => ?_) (fun k k1 k2 => by rw [q5, sk_u_ne k1, q2, sk_u_ne k2]; exact hf k k1 k2)⟩
      · rw [q5, sk_u_ne (by omega), q2, sk_u_get]
        by_cases c : q = x
        · rw [if_pos ⟨rfl, c⟩, if_pos (by omega), c]
        · rw [if_neg (fun g => c g.2), h79 q hq]
          by_cases c2 : q < x
          · rw [if_pos c2, if_pos (by omega)]
          · rw [if_neg c2, if_neg (by omega)]
      · rw [q5, sk_u_get]
        by_cases c : q = 999 - x
        · rw [if_pos ⟨rfl, c⟩, if_pos (by omega), c]
        · rw [if_neg (fun g => c g.2), q2, sk_u_ne (by omega), h78 q hq]
          by_cases c2 : 1000 - x ≤ q
          · rw [if_pos c2, if_pos (by omega)]
          · rw [if_neg c2, if_neg (by omega)]
  have loop2 : ∀ (f n : Nat) (T : sk_S), n + f = N → (∀ q : Nat, q < 1000 → T 78 q = qtTo A 0 (fun y => decide (y = (q : Int))) n ∧ T 79 q = qtTo A 1 (fun y => decide (y = (q : Int))) n) → (∀ k, ¬ k = 78 → ¬ k = 79 → T k = S k) → EE scr d 53 31 [some (.ref 66), some (vi n)] T (pV fun S' => SU S' A ∧ ∀ k, ¬ k = 78 → ¬ k = 79 → S' k = S k) := by
    intro f
    induction f with
    | zero =>
      intro n T hn hT hf
      refine st_53_31 (rg_n (by omega)) ?_
      rw [hf 67 (by omega) (by omega), hR.n hW.1]
      refine ⟨fun _ => ?_, fun g => by omega⟩
      refine loop3 999 1 T (by omega) (by omega) (fun q hq => ?_) (fun q hq => ?_) hf
      · rw [(hT q hq).2, show n = N by omega]
        by_cases c : q < 1
        · have : q = 0 := by omega
          subst this
          rw [if_pos c]
          exact (sup_bot hW.2.1).symm
        · rw [if_neg c]
      · rw [(hT q hq).1, show n = N by omega]
        by_cases c : 1000 - 1 ≤ q
        · have : q = 999 := by omega
          subst this
          rw [if_pos c]
          exact (dem_top hW.2.1).symm
        · rw [if_neg c]
    | succ f ih =>
      intro n T hn hT hf
      have hnN : n < N := by omega
      have e72 : T 72 n = A.1 3 n := by rw [hf 72 (by omega) (by omega)]; exact hR.c (c := 3) (by omega) hnN
      have e69 : T 69 n = A.1 1 n := by rw [hf 69 (by omega) (by omega)]; exact hR.c (c := 1) (by omega) hnN
      have e73 : T 73 n = A.1 5 n := by rw [hf 73 (by omega) (by omega)]; exact hR.c (c := 5) (by omega) hnN
      have e71 : T 71 n = A.1 4 n := by rw [hf 71 (by omega) (by omega)]; exact hR.c (c := 4) (by omega) hnN
      have es : ∀ s P, qtTo A s P (n + 1) = qtTo A s P n + (if A.1 3 n = 1 ∧ A.1 1 n = (s : Int) then (if P (A.1 5 n) = true then A.1 4 n else 0) else 0) := fun _ _ => rfl
      refine st_53_31 (rg_n (by omega)) ?_
      simp only [Int.toNat_natCast, e72, e69, e73, e71]
      rw [hf 67 (by omega) (by omega), hR.n hW.1]
      refine ⟨fun g => by omega, fun _ => ⟨by omega, by omega, fun g => ?_, fun g => ?_⟩⟩
      · exact ih (n + 1) T (by omega) (fun q hq => by rw [es, es, if_neg (fun x => g x.1), if_neg (fun x => g x.1), Int.add_zero, Int.add_zero]; exact hT q hq) hf
      · obtain ⟨t, p, ht, hp, e1, e5, -, -⟩ := hW.2.1.at hnN g
        have h4 := (hW.2.1.2.1 n hnN).2.2.2.2.1
        have hb0 := qtTo_bd (s := 0) (P := fun y => decide (y = (p : Int))) hW.2.1 (n := n) (by omega)
        have hb1 := qtTo_bd (s := 1) (P := fun y => decide (y = (p : Int))) hW.2.1 (n := n) (by omega)
        simp only [e5, Int.toNat_natCast]
        have key : ∀ (u v : Int) (S1 S2 : sk_S), (t = 0 → u = A.1 4 n ∧ v = 0) → (t = 1 → u = 0 ∧ v = A.1 4 n) → S1 = sk_u T 78 p (T 78 p + u) → S2 = sk_u S1 79 p (S1 79 p + v) → EE scr d 53 31 [some (.ref 66), some (vi (n + 1 : Nat))] S2 (pV fun S' => SU S' A ∧ ∀ k, ¬ k = 78 → ¬ k = 79 → S' k = S k) := by
          intro u v S1 S2 hu hv q1 q2
          refine ih (n + 1) S2 (by omega) (fun q hq => ?_) (fun k k1 k2 => by rw [q2, sk_u_ne k2, q1, sk_u_ne k1]; exact hf k k1 k2)
          have es' : ∀ (s q : Nat), qtTo A s (fun y => decide (y = (q : Int))) (n + 1) = qtTo A s (fun y => decide (y = (q : Int))) n + (if A.1 3 n = 1 ∧ A.1 1 n = (s : Int) then (if A.1 5 n = (q : Int) then A.1 4 n else 0) else 0) := by
            intro s q
            rw [es]
            by_cases c : A.1 5 n = (q : Int) <;> simp [c]
          rw [es', es', e1, e5]
          have y78 : S2 78 q = if q = p then qtTo A 0 (fun y => decide (y = (p : Int))) n + u else qtTo A 0 (fun y => decide (y = (q : Int))) n := by
            rw [q2, sk_u_ne (by omega), q1, sk_u_get, (hT q hq).1, (hT p hp).1]
            by_cases c : q = p
            · rw [if_pos ⟨rfl, c⟩, if_pos c]
            · rw [if_neg (fun x => c x.2), if_neg c]
          have y79 : S2 79 q = if q = p then qtTo A 1 (fun y => decide (y = (p : Int))) n + v else qtTo A 1 (fun y => decide (y = (q : Int))) n := by
            rw [q2, sk_u_get, q1, sk_u_ne (by omega), (hT q hq).2, (hT p hp).2]
            by_cases c : q = p
            · rw [if_pos ⟨rfl, c⟩, if_pos c]
            · rw [if_neg (fun x => c x.2), if_neg c]
          rw [y78, y79]
          by_cases c : q = p
          · subst c
            rw [if_pos rfl, if_pos rfl]
            rcases (show t = 0 ∨ t = 1 by omega) with e | e
            · obtain ⟨x1, x2⟩ := hu e
              subst e
              rw [x1, x2]
              simp [g]
            · obtain ⟨x1, x2⟩ := hv e
              subst e
              rw [x1, x2]
              simp [g]
          · have c' : ¬ (p : Int) = (q : Int) := by omega
            rw [if_neg c, if_neg c, if_neg c']
            constructor
            · by_cases k : A.1 3 n = 1 ∧ (t : Int) = ((0 : Nat) : Int)
              · rw [if_pos k, Int.add_zero]
              · rw [if_neg k, Int.add_zero]
            · by_cases k : A.1 3 n = 1 ∧ (t : Int) = ((1 : Nat) : Int)
              · rw [if_pos k, Int.add_zero]
              · rw [if_neg k, Int.add_zero]
        refine ⟨by omega, by omega, fun g2 => ⟨by rw [(hT p hp).1]; exact rg_b (by omega) (by omega), fun S4 q4 => ?_⟩, fun g2 => ⟨by rw [(hT p hp).1]; exact rg_b (by omega) (by omega), fun S14 q14 => ?_⟩⟩
        · have x73 : S4 73 n = p := by rw [q4, sk_u_ne (by omega)]; exact e73.trans e5
          have x69 : S4 69 n = A.1 1 n := by rw [q4, sk_u_ne (by omega)]; exact e69
          have x71 : S4 71 n = A.1 4 n := by rw [q4, sk_u_ne (by omega)]; exact e71
          have x79 : S4 79 p = qtTo A 1 (fun y => decide (y = (p : Int))) n := by rw [q4, sk_u_ne (by omega)]; exact (hT p hp).2
          simp only [x73, x69, x71, Int.toNat_natCast]
          refine ⟨by omega, by omega, fun g3 => by omega, fun g3 => ⟨by rw [x79]; exact rg_b (by omega) (by omega), fun S11 q11 => key 0 (A.1 4 n) S4 S11 (fun e => by omega) (fun _ => ⟨rfl, rfl⟩) q4 q11⟩⟩
        · have x73 : S14 73 n = p := by rw [q14, sk_u_ne (by omega)]; exact e73.trans e5
          have x69 : S14 69 n = A.1 1 n := by rw [q14, sk_u_ne (by omega)]; exact e69
          have x71 : S14 71 n = A.1 4 n := by rw [q14, sk_u_ne (by omega)]; exact e71
          have x79 : S14 79 p = qtTo A 1 (fun y => decide (y = (p : Int))) n := by rw [q14, sk_u_ne (by omega)]; exact (hT p hp).2
          simp only [x73, x69, x71, Int.toNat_natCast]
          refine ⟨by omega, by omega, fun g3 => ⟨by rw [x79]; exact rg_b (by omega) (by omega), fun S18 q18 => key (A.1 4 n) 0 S14 S18 (fun _ => ⟨rfl, rfl⟩) (fun e => by omega) q14 q18⟩, fun g3 => by omega⟩
  have loop1 : ∀ (f n : Nat) (T : sk_S), n + f = 1001 → (∀ j, j < n → T 78 j = 0 ∧ T 79 j = 0) → (∀ k, ¬ k = 78 → ¬ k = 79 → T k = S k) → EE scr d 53 2 [some (.ref 66), some (vi n)] T (pV fun S' => SU S' A ∧ ∀ k, ¬ k = 78 → ¬ k = 79 → S' k = S k) := by
    intro f
    induction f with
    | zero =>
      intro n T hn hT hf
      refine st_53_2 (rg_n (by omega)) ⟨fun _ => ?_, fun g => by omega⟩
      exact loop2 N 0 T (by omega) (fun q hq => hT q (by omega)) hf
    | succ f ih =>
      intro n T hn hT hf
      refine st_53_2 (rg_n (by omega)) ⟨fun g => by omega, fun _ => ⟨by omega, by omega, fun S2 q2 S5 q5 => ?_⟩⟩
      simp only [Int.toNat_natCast] at q2 q5
      refine ih (n + 1) S5 (by omega) (fun j hj => ?_) (fun k k1 k2 => by rw [q5, sk_u_ne k2, q2, sk_u_ne k1]; exact hf k k1 k2)
      rw [q5, sk_u_ne (k := 79) (k' := 78) (by omega), sk_u_get, q2, sk_u_get, sk_u_ne (k := 78) (k' := 79) (by omega)]
      by_cases c : j = n
      · rw [if_pos ⟨rfl, c⟩, if_pos ⟨rfl, c⟩]
        exact ⟨rfl, rfl⟩
      · rw [if_neg (fun g => c g.2), if_neg (fun g => c g.2)]
        exact hT j (by omega)
  exact st_53_0 (loop1 1001 0 S (by omega) (fun j hj => by omega) (fun _ _ _ => rfl))
def WQ (S : sk_S) (w : Int × Int × Int) : Prop := S 66 15 = w.1 ∧ S 66 16 = w.2.1 ∧ S 66 17 = w.2.2
theorem rp_weigh {scr : Nat × (Nat → Int32)} {d N : Nat} {m b : Int} {S : sk_S} {A : ab} (hM : MI N b S A) (hW : WS N m A) :
    EE scr (d + 1) 55 0 [some (.ref 66), none, none, none, none, none] S (pV fun S' => MI N b S' A ∧ MF S S' ∧ WQ S' (ab_weigh A)) := by
  have hN := hW.2.1.1
  have hdm := fun p => dem_bd hW p
  have hr := hW.2.2.2.1
  refine st_55_0 ?_
  refine (rp_sums hM.1 hW).V fun S1 _ h1 S6 q6 S9 q9 S12 q12 => ?_
  obtain ⟨u1, f1⟩ := h1
  have f12 : ∀ k, ¬ k = 66 → ¬ k = 78 → ¬ k = 79 → S12 k = S k := fun k a b c => by rw [q12, sk_u_ne a, q9, sk_u_ne a, q6, sk_u_ne a, f1 k b c]
  have g12 : ∀ j, ¬ (15 ≤ j ∧ j ≤ 17) → S12 66 j = S 66 j := fun j hj => by rw [q12, sk_u_nj (by omega), q9, sk_u_nj (by omega), q6, sk_u_nj (by omega), f1 66 (by omega) (by omega)]
  have u12 : SU S12 A := fun p hp => by
    rw [q12, sk_u_ne (by omega), sk_u_ne (by omega), q9, sk_u_ne (by omega), sk_u_ne (by omega), q6, sk_u_ne (by omega), sk_u_ne (by omega)]
    exact u1 p hp
  have w12 : WQ S12 (ab_wto A 0) := ⟨by rw [q12, sk_u_at]; rfl, by rw [q12, sk_u_nj (by omega), q9, sk_u_nj (by omega), q6, sk_u_at]; rfl, by rw [q12, sk_u_nj (by omega), q9, sk_u_at]; rfl⟩
  have loop : ∀ (f x : Nat) (T : sk_S) (l2 l3 l4 l5 : Option Value), x + f = 999 → WQ T (ab_wto A x) → (∀ k, ¬ k = 66 → T k = S12 k) → (∀ j, ¬ (15 ≤ j ∧ j ≤ 17) → T 66 j = S12 66 j) →
      EE scr (d + 1) 55 21 [some (.ref 66), some (vi (x + 1 : Nat)), l2, l3, l4, l5] T (pV fun S' => MI N b S' A ∧ MF S S' ∧ WQ S' (ab_weigh A)) := by
    intro f
    induction f with
    | zero =>
      intro x T l2 l3 l4 l5 hx hw hf hg
      refine st_55_21 (rg_n (by omega)) ⟨fun _ => ⟨rfl, ?_, ?_, ?_⟩, fun g => by omega⟩
      · exact hM.cells (fun q a1 a2 => by rw [hf q (by omega), f12 q (by omega) (by omega) (by omega)]) (by rw [hg 11 (by omega), g12 11 (by omega)])
      · refine ⟨fun k hk => by rw [hf k (by omega), f12 k (by omega) (by omega) (by omega)], fun j a1 a2 => by rw [hg j a2, g12 j a2], fun j _ => by rw [hf 67 (by omega), f12 67 (by omega) (by omega) (by omega)], fun k a1 a2 j _ => by rw [hf k (by omega), f12 k (by omega) (by omega) (by omega)], fun j _ => by rw [hf 77 (by omega), f12 77 (by omega) (by omega) (by omega)], by rw [hg 11 (by omega), g12 11 (by omega)]; exact Int.le_refl _⟩
      · rw [show x = 999 by omega] at hw
        exact hw
    | succ f ih =>
      intro x T l2 l3 l4 l5 hx hw hf hg
      obtain ⟨w1, w2, w3⟩ := hw
      obtain ⟨a1, a2⟩ := u12 (x + 1) (by omega)
      rw [← hf 78 (by omega)] at a1
      rw [← hf 79 (by omega)] at a2
      have hb := hdm ((x + 1 : Nat) : Int)
      have e2 : T 67 2 = A.1 8 3 := by rw [hf 67 (by omega), f12 67 (by omega) (by omega) (by omega)]; exact hM.1.1.2.2.2
      have hwp := wto_price A x
      have hwb := weigh_bd hW x
      have en : ab_wto A (x + 1) = ab_w1 A (ab_wto A x) ((x + 1 : Nat) : Int) := rfl
      have hxx : ((x + 1 : Nat) : Int) + 1 = ((x + 1 + 1 : Nat) : Int) := by omega
      generalize ab_wto A x = w at *
      generalize hpp : ((x + 1 : Nat) : Int) = p at *
      have hp1 : 1 ≤ p ∧ p ≤ 999 := by omega
      have ptn : p.toNat = x + 1 := by omega
      generalize hdv : ab_dem A p = dm at *
      generalize hsv : ab_sup A p = su at *
      have no : ∀ l2 l3 l4 l5 : Option Value, ab_w1 A w p = w → EE scr (d + 1) 55 21 [some (.ref 66), some (vi (p + 1)), l2, l3, l4, l5] T (pV fun S' => MI N b S' A ∧ MF S S' ∧ WQ S' (ab_weigh A)) := by
        intro l2 l3 l4 l5 e
        rw [hxx]
        exact ih (x + 1) T _ _ _ _ (by omega) (by rw [en, e]; exact ⟨w1, w2, w3⟩) hf hg
      have yes : ∀ (l2 l3 l4 l5 : Option Value) (S19 S22 S25 : sk_S), ab_w1 A w p = (p, min dm su, max (dm - su) (su - dm)) → S19 = sk_u T 66 15 p → S22 = sk_u S19 66 16 (min dm su) → S25 = sk_u S22 66 17 (max (dm - su) (su - dm)) → EE scr (d + 1) 55 21 [some (.ref 66), some (vi (p + 1)), l2, l3, l4, l5] S25 (pV fun S' => MI N b S' A ∧ MF S S' ∧ WQ S' (ab_weigh A)) := by
        intro l2 l3 l4 l5 S19 S22 S25 e q19 q22 q25
        rw [hxx]
        refine ih (x + 1) S25 _ _ _ _ (by omega) ?_ (fun k hk => by rw [q25, sk_u_ne hk, q22, sk_u_ne hk, q19, sk_u_ne hk]; exact hf k hk) (fun j hj => by rw [q25, sk_u_nj (by omega), q22, sk_u_nj (by omega), q19, sk_u_nj (by omega)]; exact hg j hj)
        rw [en, e]
        exact ⟨by rw [q25, sk_u_nj (by omega), q22, sk_u_nj (by omega), q19, sk_u_at], by rw [q25, sk_u_nj (by omega), q22, sk_u_at], by rw [q25, sk_u_at]⟩
      have ew : ab_w1 A w p = if 0 < min dm su ∧ (w.2.1 < min dm su ∨ (min dm su = w.2.1 ∧ (max (dm - su) (su - dm) < w.2.2 ∨ (max (dm - su) (su - dm) = w.2.2 ∧ max (p - A.1 8 3) (A.1 8 3 - p) ≤ max (w.1 - A.1 8 3) (A.1 8 3 - w.1))))) then (p, min dm su, max (dm - su) (su - dm)) else w := by
        unfold ab_w1
        rw [hdv, hsv]
      refine st_55_21 (rg_b (by omega) (by omega)) ⟨fun g => by omega, fun _ => ⟨by omega, by omega, ?_⟩⟩
      rw [ptn, a1, a2]
      refine (rp_least (rg_b (by omega) (by omega)) (rg_b (by omega) (by omega))).I fun y3 S2 _ _ hy _ => ?_
      obtain ⟨rfl, rfl⟩ := hy
      rw [a1, a2]
      refine (rp_apart (rg_b (by omega) (by omega)) (rg_b (by omega) (by omega)) (rg_b (by omega) (by omega)) (rg_b (by omega) (by omega))).I fun y8 S7 _ _ hy _ => ?_
      obtain ⟨rfl, rfl⟩ := hy
      rw [e2]
      refine (rp_apart (rg_b (by omega) (by omega)) (rg_b (by omega) (by omega)) (rg_b (by omega) (by omega)) (rg_b (by omega) (by omega))).I fun y13 S12' _ _ hy _ => ?_
      obtain ⟨rfl, rfl⟩ := hy
      rw [w1, w2, w3, e2]
      refine ⟨fun g1 => ⟨fun g2 => ?_, fun g2 S19 q19 S22 q22 S25 q25 => ?_⟩, fun g1 => ⟨fun g2 => ⟨fun g3 => ?_, fun g3 => ?_⟩, fun g2 => ⟨fun g3 => ⟨fun g4 => ?_, fun g4 S32 q32 S35 q35 S38 q38 => ?_⟩, fun g3 => ⟨fun g4 => ⟨fun g5 => ?_, fun g5 => ?_⟩, fun g4 => ?_⟩⟩⟩⟩
      · exact no _ _ _ _ (by rw [ew, if_neg (by omega)])
      · exact yes _ _ _ _ S19 S22 S25 (by rw [ew, if_pos (by omega)]) q19 q22 q25
      · exact no _ _ _ _ (by rw [ew, if_neg (by omega)])
      · exact no _ _ _ _ (by rw [ew, if_neg (by omega)])
      · exact no _ _ _ _ (by rw [ew, if_neg (by omega)])
      · exact yes _ _ _ _ S32 S35 S38 (by rw [ew, if_pos (by omega)]) q32 q35 q38
      · exact no _ _ _ _ (by rw [ew, if_neg (by omega)])
      · exact no _ _ _ _ (by rw [ew, if_neg (by omega)])
      · refine (rp_apart (rg_b (by omega) (by omega)) (rg_b (by omega) (by omega)) (rg_b (by omega) (by omega)) (rg_b (by omega) (by omega))).I fun y44 S43 _ _ hy _ => ?_
        obtain ⟨rfl, rfl⟩ := hy
        refine ⟨fun g5 => ⟨fun g6 => ?_, fun g6 => ?_⟩, fun g5 => ⟨fun g6 => ?_, fun g6 S51 q51 S54 q54 S57 q57 => ?_⟩⟩
        · exact no _ _ _ _ (by rw [ew, if_neg (by omega)])
        · exact no _ _ _ _ (by rw [ew, if_neg (by omega)])
        · exact no _ _ _ _ (by rw [ew, if_neg (by omega)])
        · exact yes _ _ _ _ S51 S54 S57 (by rw [ew, if_pos (by omega)]) q51 q54 q57
  exact loop 999 0 S12 none none none none (by omega) w12 (fun _ _ => rfl) (fun _ _ => rfl)
