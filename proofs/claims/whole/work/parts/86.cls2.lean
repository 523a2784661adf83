/-! 86.cls2: the class: into a line, out of it, what is shown, cancelling -/
theorem bt_w (s : Nat) (hs : s < 2) (p q : Int) : ab_bt s p q = decide ((if s = 0 then q else -q) < (if s = 0 then p else -p)) := by
  unfold ab_bt
  by_cases h : s = 0
  · subst h
    simp
  · rw [if_neg (by omega), if_neg h, if_neg h]
    congr 1
    apply propext
    constructor <;> intro g <;> omega
theorem ins_congr {A B : ab} {i : Nat} (h1 : A.1 1 i = B.1 1 i) (h5 : ∀ j, A.1 5 j = B.1 5 j) (l : List Nat) : ab_ins A i l = ab_ins B i l := by
  induction l with
  | nil => rfl
  | cons a l ih =>
    unfold ab_ins
    rw [h1, h5, h5, ih]
/-- best first -/
def Srt (A : ab) (s : Nat) : Prop := (A.2 s).Pairwise fun i j => ab_bt s (A.1 5 j) (A.1 5 i) = false
theorem sp_join {scr : Nat × (Nat → Int32)} {d N i s : Nat} {S : sk_S} {A : ab} (hR : RC 0 N S A) (hi : i < N) (hN : N ≤ 200) (hs : s < 2) (hsd : A.1 1 i = s) (hlen : (A.2 s).length ≤ 39) (hm : ∀ j ∈ A.2 s, j < N ∧ 1 ≤ A.1 5 j ∧ A.1 5 j ≤ 999) (hp : 1 ≤ A.1 5 i ∧ A.1 5 i ≤ 999) (hsr : Srt A s) :
    EE scr d 99 0 [some (.ref 10), some (vi i), none, none, none, none, none] S (pV fun S' => RC 0 N S' (ab_l A s (ab_ins A i (A.2 s))) ∧ Fr 20 22 S S') := by
  have e1 : S 12 i = s := (hR.2.1 1 (by omega) i hi).trans hsd
  have e5 : ∀ j, j < N → S 16 j = A.1 5 j := fun j hj => hR.2.1 5 (by omega) j hj
  have eL : S 22 s = ((A.2 s).length : Int) := (hR.2.2.1 s hs).1
  have eE : ∀ j k : Nat, (A.2 s)[j]? = some k → S (20 + s) j = (k : Int) := (hR.2.2.1 s hs).2
  have hw : ∀ q : Int, ab_bt (A.1 1 i) (A.1 5 i) q = decide ((if s = 0 then q else -q) < (if s = 0 then A.1 5 i else -A.1 5 i)) := fun q => by rw [hsd, bt_w s hs]
  have fin : ∀ (place : Nat) (S1 : sk_S), place ≤ (A.2 s).length → (∀ k, ¬ k = 20 + s → S1 k = S k) → (∀ j k : Nat, j < place → (A.2 s)[j]? = some k → S1 (20 + s) j = (k : Int)) → (∀ j k : Nat, place ≤ j → (A.2 s)[j]? = some k → S1 (20 + s) (j + 1) = (k : Int)) → (∀ j k : Nat, place ≤ j → (A.2 s)[j]? = some k → ab_bt (A.1 1 i) (A.1 5 i) (A.1 5 k) = true) → (∀ j k : Nat, j < place → (A.2 s)[j]? = some k → ab_bt (A.1 1 i) (A.1 5 i) (A.1 5 k) = false) →
      ∀ S2 : sk_S, S2 = sk_u S1 (20 + s) place i → rg (S2 22 s + 1) ∧ ∀ S5 : sk_S, S5 = sk_u S2 22 s (S2 22 s + 1) → pV (fun S' => RC 0 N S' (ab_l A s (ab_ins A i (A.2 s))) ∧ Fr 20 22 S S') none S5 := by
    intro place S1 hpl hf hb ha hbt hbf S2 q2
    have f22 : S2 22 = S 22 := by rw [q2, sk_u_ne (by omega), hf 22 (by omega)]
    rw [f22, eL]
    refine ⟨rg_b (by omega) (by omega), fun S5 q5 => ⟨rfl, ?_, ?_⟩⟩
    · have hins : ab_ins A i (A.2 s) = (A.2 s).take place ++ i :: (A.2 s).drop place := by
        conv => lhs; rw [← List.take_append_drop place (A.2 s)]
        refine ins_at (fun x hx => ?_) (fun x hx => ?_)
        · obtain ⟨j, hj⟩ := List.getElem?_of_mem hx
          have hj1 : j < place := by
            have := (List.getElem?_eq_some_iff.mp hj).1
            rw [List.length_take] at this
            omega
          rw [List.getElem?_take_of_lt hj1] at hj
          exact hbf j x hj1 hj
        · rw [List.getElem?_drop, Nat.add_zero] at hx
          exact hbt place x (Nat.le_refl _) hx
      have htl : ((A.2 s).take place).length = place := by rw [List.length_take]; omega
      subst q5
      refine hR.line hs (fun k _ _ g1 g2 => ?_) (fun t g => ?_) ?_ (fun j k hj => ?_)
      · rw [sk_u_ne g2, q2, sk_u_ne g1, hf k g1]
      · rw [sk_u_nj g, f22]
      · rw [sk_u_at, len_ins]
        omega
      · rw [sk_u_ne (by omega), q2, sk_u_get]
        rw [hins] at hj
        by_cases c1 : j < place
        · rw [if_neg (by omega)]
          rw [List.getElem?_append_left (by omega), List.getElem?_take_of_lt c1] at hj
          exact hb j k c1 hj
        · rw [List.getElem?_append_right (by omega), htl] at hj
          by_cases c2 : j = place
          · rw [if_pos ⟨rfl, c2⟩]
            rw [c2, Nat.sub_self] at hj
            cases hj
            rfl
          · rw [if_neg (by omega)]
            rw [show j - place = (j - place - 1) + 1 by omega, List.getElem?_cons_succ, List.getElem?_drop] at hj
            have h3 := ha (place + (j - place - 1)) k (by omega) hj
            rw [show place + (j - place - 1) + 1 = j by omega] at h3
            exact h3
    · intro k hk
      rw [q5, sk_u_ne (by omega), q2, sk_u_ne (by omega), hf k (by omega)]
  have loop : ∀ (place : Nat) (S1 : sk_S), place ≤ (A.2 s).length → (∀ k, ¬ k = 20 + s → S1 k = S k) → (∀ j k : Nat, j < place → (A.2 s)[j]? = some k → S1 (20 + s) j = (k : Int)) → (∀ j k : Nat, place ≤ j → (A.2 s)[j]? = some k → S1 (20 + s) (j + 1) = (k : Int)) → (∀ j k : Nat, place ≤ j → (A.2 s)[j]? = some k → ab_bt (A.1 1 i) (A.1 5 i) (A.1 5 k) = true) →
      EE scr d 99 44 [some (.ref 10), some (vi i), some (vi s), some (.ref (20 + s)), some (vi (if s = 0 then 1 else -1)), some (vi ((if s = 0 then 1 else -1) * A.1 5 i)), some (vi place)] S1 (pV fun S' => RC 0 N S' (ab_l A s (ab_ins A i (A.2 s))) ∧ Fr 20 22 S S') := by
    intro place
    induction place with
    | zero =>
      intro S1 hpl hf hb ha hbt
      refine st_99_44 (rg_n (by omega)) (rg_n (by omega)) hs (rg_b (by split <;> omega) (by split <;> omega)) (rg_b (by split <;> omega) (by split <;> omega)) (rg_n (by omega)) ?_
      simp only [Int.toNat_natCast]
      exact ⟨fun _ => ⟨by omega, by omega, fun S2 q2 => ⟨by omega, by omega, fin 0 S1 hpl hf hb ha hbt (fun j k hj => by omega) S2 q2⟩⟩, fun g => by omega⟩
    | succ place ih =>
      intro S1 hpl hf hb ha hbt
      have hlt : place < (A.2 s).length := by omega
      obtain ⟨x, hx⟩ : ∃ x, (A.2 s)[place]? = some x := ⟨_, List.getElem?_eq_getElem hlt⟩
      have hxm := hm x (List.mem_of_getElem? hx)
      have hsx : S1 (20 + s) place = (x : Int) := hb place x (by omega) hx
      have hpx : S1 16 x = A.1 5 x := by rw [hf 16 (by omega)]; exact e5 x hxm.1
      have hc : ∀ q : Int, (if s = 0 then (1 : Int) else -1) * q = if s = 0 then q else -q := by
        intro q
        split <;> omega
      refine st_99_44 (rg_n (by omega)) (rg_n (by omega)) hs (rg_b (by split <;> omega) (by split <;> omega)) (by rw [hc]; exact rg_b (by split <;> omega) (by split <;> omega)) (rg_n (by omega)) ?_
      have hn1 : (((place + 1 : Nat) : Int) - 1).toNat = place := by omega
      simp only [hn1, Int.toNat_natCast, hsx, hpx]
      refine ⟨fun g => by omega, fun _ => ⟨by omega, by omega, by omega, by omega, by rw [hc]; exact rg_b (by split <;> omega) (by split <;> omega), fun g => ?_, fun g => ⟨by omega, by omega, fun S15 q15 => ?_⟩⟩⟩
      · rw [hc, hc] at g
        have hbx : ab_bt (A.1 1 i) (A.1 5 i) (A.1 5 x) = false := by rw [hw]; exact decide_eq_false (by omega)
        refine ⟨by omega, by omega, fun S9 q9 => ⟨by omega, by omega, fin (place + 1) S1 hpl hf hb ha hbt (fun j k hj hk => ?_) S9 q9⟩⟩
        by_cases c : j = place
        · rw [c] at hk
          rw [hk] at hx
          cases hx
          exact hbx
        · have hpw := List.pairwise_iff_getElem.mp hsr j place (List.getElem?_eq_some_iff.mp hk).1 hlt (by omega)
          have ek : (A.2 s)[j]'(List.getElem?_eq_some_iff.mp hk).1 = k := (List.getElem?_eq_some_iff.mp hk).2
          have ex : (A.2 s)[place] = x := (List.getElem?_eq_some_iff.mp hx).2
          rw [ek, ex, bt_w s hs] at hpw
          rw [hw] at hbx ⊢
          have h1 := of_decide_eq_false hpw
          have h2 := of_decide_eq_false hbx
          exact decide_eq_false (by omega)
      · rw [hc, hc] at g
        have hbx : ab_bt (A.1 1 i) (A.1 5 i) (A.1 5 x) = true := by rw [hw]; exact decide_eq_true (by omega)
        have hm1 : (((place + 1 : Nat) : Int) + -1) = (place : Int) := by omega
        rw [hm1]
        subst q15
        refine ih (sk_u S1 (20 + s) (place + 1) x) (by omega) (fun k g1 => by rw [sk_u_ne g1, hf k g1]) (fun j k hj hk => ?_) (fun j k hj hk => ?_) (fun j k hj hk => ?_)
        · rw [sk_u_nj (by omega)]
          exact hb j k (by omega) hk
        · by_cases c : j = place
          · rw [c, sk_u_at]
            rw [c, hx] at hk
            cases hk
            rfl
          · rw [sk_u_nj (by omega)]
            exact ha j k (by omega) hk
        · by_cases c : j = place
          · rw [c, hx] at hk
            cases hk
            exact hbx
          · exact hbt j k (by omega) hk
  refine st_99_0 (rg_n (by omega)) ?_
  simp only [Int.toNat_natCast, e1, eL, e5 i hi]
  have hstart := loop (A.2 s).length S (Nat.le_refl _) (fun _ _ => rfl) (fun j k _ hk => eE j k hk) (fun j k hj hk => by
    have := (List.getElem?_eq_some_iff.mp hk).1
    omega) (fun j k hj hk => by
    have := (List.getElem?_eq_some_iff.mp hk).1
    omega)
  refine ⟨by omega, by omega, by omega, by omega, fun g => ?_, fun g => ?_⟩
  · rw [if_neg (by omega)] at hstart
    exact hstart
  · rw [if_pos (by omega)] at hstart
    exact hstart
/-- the class's own: the market, and the levels as they must be -/
def LVs (S : sk_S) (A : ab) : Prop := ∀ s, s < 2 → ∀ p : Nat, p < 1000 → S (4 + s) p = ab_lev A s p
def CI (N : Nat) (S : sk_S) (A : ab) : Prop := RC 0 N S A ∧ LVs S A ∧ LVr S
theorem sp_takeOut {scr : Nat × (Nat → Int32)} {d N i s : Nat} {S : sk_S} {A : ab} (hC : CI N S A) (hw : WFw N A) (hs : s < 2) (hi : i ∈ A.2 s) :
    EE scr (d + 1) 136 0 [some (.ref 1), some (vi i)] S (pV fun S' => CI N S' (ab_out A i) ∧ Fr 2 31 S S' ∧ S' 8 = S 8) := by
  obtain ⟨hR, hV, hL⟩ := hC
  have hw' := hw
  obtain ⟨hN, h1, h2⟩ := hw'
  obtain ⟨g0, g1, g2⟩ := h2 s hs
  obtain ⟨a1, a2, a3⟩ := (g1 i).mp hi
  obtain ⟨b1, b2, b3, b4, b5, b6, b7⟩ := h1 i a1
  have hp := b4 a2
  have e1 : S 12 i = s := (hR.2.1 1 (by omega) i a1).trans a3
  have e5 : S 16 i = A.1 5 i := hR.2.1 5 (by omega) i a1
  have e7 : S 18 i = A.1 7 i := hR.2.1 7 (by omega) i a1
  obtain ⟨p, hpp⟩ : ∃ p : Nat, A.1 5 i = p := ⟨(A.1 5 i).toNat, by omega⟩
  have hlv := hw.lev hs (A.1 5 i)
  have hlo := lev_out hw hs hi (t := s) hs (A.1 5 i)
  rw [if_pos ⟨rfl, rfl⟩] at hlo
  have hlv2 := (hw.out hs hi).lev hs (A.1 5 i)
  refine st_136_0 (rg_n (by omega)) ?_
  simp only [Int.toNat_natCast, e1, e5, e7]
  refine ⟨by omega, by omega, ?_⟩
  rw [hpp]
  have hsum : S (4 + s) p = ab_lev A s (A.1 5 i) := by rw [hV s hs p (by omega), hpp]
  refine (sp_change hL hs (by omega) (rg_b (by omega) (by omega)) (rg_b (by rw [hsum]; omega) (by rw [hsum]; omega))).V fun S1 _ hc => ?_
  obtain ⟨c1, c2, c3⟩ := hc
  have hR1 : RC 0 N S1 A := hR.frame fun k k1 k2 => c2 k (by omega)
  refine (sp_leave hR1 a1 hN hs a3 g2).V fun S6 _ hd => ?_
  obtain ⟨d1, d2⟩ := hd
  intro S11 q11 S14 q14
  subst q11 q14
  refine ⟨rfl, ⟨?_, ?_, ?_⟩, ?_, by rw [sk_u_ne (by omega), sk_u_ne (by omega), d2 8 (by omega), c2 8 (by omega)]⟩
  · have h := (d1.col (c := 7) (k := 18) (i := i) (v := 0) (by omega) (by omega)).col (c := 3) (k := 14) (i := i) (v := 0) (by omega) (by omega)
    have e : ab_out A i = ab_u (ab_u (ab_l A s ((A.2 s).filter fun j => decide (¬ j = i))) 7 i 0) 3 i 0 := by
      unfold ab_out
      rw [ab_sd_of a3]
    rw [e]
    exact h
  · intro t ht q hq
    rw [sk_u_ne (by omega), sk_u_ne (by omega), d2 (4 + t) (by omega), c3 t ht q, lev_out hw hs hi ht]
    by_cases c : t = s ∧ q = p
    · rw [if_pos c, if_pos ⟨c.1, by omega⟩, hsum, c.1, c.2, hpp]
      omega
    · rw [if_neg c, if_neg (by omega), hV t ht q hq, Int.sub_zero]
  · intro t ht
    obtain ⟨f1, f2, f3⟩ := c1 t ht
    rw [sk_u_ne (by omega), sk_u_ne (by omega), d2 6 (by omega), sk_u_ne (by omega), sk_u_ne (by omega), d2 7 (by omega), sk_u_ne (by omega), sk_u_ne (by omega), d2 (4 + t) (by omega), sk_u_ne (by omega), sk_u_ne (by omega), d2 (60 + t) (by omega)]
    exact ⟨f1, f2, f3⟩
  · intro k hk
    rw [sk_u_ne (by omega), sk_u_ne (by omega), d2 k (by omega), c2 k (by omega)]
