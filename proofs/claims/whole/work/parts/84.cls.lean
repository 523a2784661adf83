/-! 84.cls: leaves of the class: reports, levels, lines -/
theorem rg_n {n : Nat} (h : n ≤ 100000) : rg (n : Int) := by unfold rg; omega
theorem rg_b {x : Int} (h1 : -2147483648 ≤ x) (h2 : x < 2147483648) : rg x := ⟨h1, h2⟩
theorem sp_hasLimit {scr : Nat × (Nat → Int32)} {d : Nat} {S : sk_S} {k : Int} (hk : rg k) : EE scr d 27 0 [some (vi k)] S (pI fun x S' => S' = S ∧ x = if k = 1 ∨ k = 4 then 0 else 1) := by
  refine st_27_0 hk ⟨fun h => ⟨_, rfl, rfl, ?_⟩, fun h => ⟨fun h2 => ⟨_, rfl, rfl, ?_⟩, fun h2 => ⟨_, rfl, rfl, ?_⟩⟩⟩
  · rw [if_pos (Or.inl h)]
  · rw [if_pos (Or.inr h2)]
  · rw [if_neg (by omega)]
theorem sp_told {scr : Nat × (Nat → Int32)} {d N : Nat} {S : sk_S} {A : ab} {i : Nat} (hR : RC 0 N S A) (hi : i < N) (hN : N ≤ 200) : EE scr (d + 1) 139 0 [some (.ref 1), some (vi i)] S (pI fun x S' => S' = S ∧ x = ab_told A i) := by
  refine Ev.good fun hS => st_139_0 (rg_n (by omega)) ?_
  simp only [Int.toNat_natCast]
  refine ⟨by omega, by omega, (sp_hasLimit (hS _ _)).I fun x S' _ _ h _ => ?_⟩
  obtain ⟨rfl, rfl⟩ := h
  have e2 : S' 13 i = A.1 2 i := hR.2.1 2 (by omega) i hi
  have e5 : S' 16 i = A.1 5 i := hR.2.1 5 (by omega) i hi
  unfold ab_told
  rw [e2]
  by_cases g : A.1 2 i = 1 ∨ A.1 2 i = 4
  · rw [if_pos g, if_pos g]
    exact ⟨fun _ => ⟨_, rfl, rfl, rfl⟩, fun h => absurd rfl h⟩
  · rw [if_neg g, if_neg g]
    exact ⟨fun h => by omega, fun _ => ⟨_, rfl, rfl, e5⟩⟩
theorem sp_report {scr : Nat × (Nat → Int32)} {d N s : Nat} {S : sk_S} {A : ab} {t o q p : Int} (hR : RC 0 N S A) (hs : s < 4) (h0 : 0 ≤ A.1 11 s) (h1 : A.1 11 s < 2147483647) (rt : rg t) (ro : rg o) (rq : rg q) (rp : rg p) :
    EE scr d 142 0 [some (.ref 23), some (vi s), some (vi t), some (vi o), some (vi q), some (vi p), none, none] S (pV fun S' => RC 0 N S' (ab_tell A s t o q p) ∧ Fr 26 31 S S') := by
  have e1 : S 26 s = A.1 11 s := hR.2.2.2.1 2 (by omega) s hs
  refine st_142_0 (rg_n (by omega)) rt ro rq rp ?_
  simp only [Int.toNat_natCast, e1]
  refine ⟨by omega, by omega, by omega, by omega, fun S1 q1 => ⟨by omega, by omega, fun S4 q4 => ⟨by omega, by omega, fun S7 q7 => ⟨by omega, by omega, fun S10 q10 => ?_⟩⟩⟩⟩
  subst q1 q4 q7 q10
  have e2 : (sk_u (sk_u (sk_u (sk_u S (28 + s) (A.1 11 s % 32 * 4).toNat t) (28 + s) (A.1 11 s % 32 * 4 + 1).toNat o) (28 + s) (A.1 11 s % 32 * 4 + 2).toNat q) (28 + s) (A.1 11 s % 32 * 4 + 3).toNat p) 26 s = A.1 11 s := by
    rw [sk_u_ne (by omega), sk_u_ne (by omega), sk_u_ne (by omega), sk_u_ne (by omega)]
    exact e1
  rw [e2]
  refine ⟨rg_b (by omega) (by omega), fun S13 q13 => ⟨rfl, ?_⟩⟩
  subst q13
  refine ⟨?_, ?_⟩
  · have h := ((((hR.rep (k := 28 + s) (i := (A.1 11 s % 32 * 4).toNat) (v := t) hs (by omega)).rep (k := 28 + s) (i := (A.1 11 s % 32 * 4 + 1).toNat) (v := o) hs (by omega)).rep (k := 28 + s) (i := (A.1 11 s % 32 * 4 + 2).toNat) (v := q) hs (by omega)).rep (k := 28 + s) (i := (A.1 11 s % 32 * 4 + 3).toNat) (v := p) hs (by omega)).ses (r := 2) (k := 26) (i := s) (v := A.1 11 s + 1) (by omega) (by omega)
    simpa only [ab_tell, Int.toNat_natCast] using h
  · exact ((((Fr.u (by omega) (by omega)).trans (Fr.u (by omega) (by omega))).trans (Fr.u (by omega) (by omega))).trans (Fr.u (by omega) (by omega))).trans (Fr.u (by omega) (by omega))
theorem sp_tellOwner {scr : Nat × (Nat → Int32)} {d N i s : Nat} {S : sk_S} {A : ab} {t q p : Int} (hR : RC 0 N S A) (hi : i < N) (hN : N ≤ 200) (hs : s < 4) (ho : A.1 0 i = s) (h0 : 0 ≤ A.1 11 s) (h1 : A.1 11 s < 2147483647) (rt : rg t) (rq : rg q) (rp : rg p) :
    EE scr (d + 1) 140 0 [some (.ref 1), some (vi i), some (vi t), some (vi q), some (vi p)] S (pV fun S' => RC 0 N S' (ab_tell A s t i q p) ∧ Fr 26 31 S S') := by
  have e0 : S 11 i = s := (hR.2.1 0 (by omega) i hi).trans ho
  refine st_140_0 (rg_n (by omega)) rt rq rp ?_
  simp only [Int.toNat_natCast, e0]
  exact ⟨by omega, by omega, (sp_report hR hs h0 h1 rt (rg_n (by omega)) rq rp).V fun S' _ h => ⟨rfl, h⟩⟩
/-- between the lowest and the highest changed price lies every level that was not told -/
def LVr (S : sk_S) : Prop := ∀ s, s < 2 → 0 ≤ S 6 s ∧ S 7 s ≤ 999 ∧ (∀ p : Nat, p < 1000 → ¬ S (4 + s) p = S (60 + s) p → (S 6 s ≤ p ∧ (p : Int) ≤ S 7 s)) ∧ (S 6 s ≤ 1000 ∧ 0 ≤ S 7 s)
theorem LVr.step {S S' : sk_S} {s p : Nat} {v : Int} (h : LVr S) (hp : p < 1000) (h6 : ∀ t, t < 2 → S' 6 t = if t = s then min (S 6 s) p else S 6 t) (h7 : ∀ t, t < 2 → S' 7 t = if t = s then max (S 7 s) p else S 7 t) (h4 : ∀ t, t < 2 → ∀ q, S' (4 + t) q = if t = s ∧ q = p then v else S (4 + t) q) (hf : ∀ t, t < 2 → S' (60 + t) = S (60 + t)) : LVr S' := by
  intro t ht
  obtain ⟨g1, g2, g3, g4⟩ := h t ht
  rw [h6 t ht, h7 t ht]
  by_cases e : t = s
  · subst e
    rw [if_pos rfl, if_pos rfl]
    refine ⟨by omega, by omega, fun q hq hne => ?_, by omega⟩
    by_cases e2 : q = p
    · subst e2
      omega
    · rw [h4 t ht, if_neg (by omega), hf t ht] at hne
      have := g3 q hq hne
      omega
  · rw [if_neg e, if_neg e]
    refine ⟨g1, g2, fun q hq hne => ?_, g4⟩
    rw [h4 t ht, if_neg (by omega), hf t ht] at hne
    exact g3 q hq hne
theorem sp_change {scr : Nat × (Nat → Int32)} {d s p : Nat} {S : sk_S} {df : Int} (hL : LVr S) (hs : s < 2) (hp : p < 1000) (rd : rg df) (hv : rg (S (4 + s) p + df)) :
    EE scr d 108 0 [some (.ref 2), some (vi s), some (vi p), some (vi df)] S (pV fun S' => LVr S' ∧ Fr 4 7 S S' ∧ ∀ t, t < 2 → ∀ q, S' (4 + t) q = if t = s ∧ q = p then S (4 + s) p + df else S (4 + t) q) := by
  refine st_108_0 (rg_n (by omega)) (rg_n (by omega)) rd ?_
  simp only [Int.toNat_natCast]
  have key : ∀ S' : sk_S, (∀ k, ¬ k = 6 → ¬ k = 7 → S' k = sk_u S (4 + s) p (S (4 + s) p + df) k) → (∀ t, t < 2 → S' 6 t = if t = s then min (S 6 s) p else S 6 t) → (∀ t, t < 2 → S' 7 t = if t = s then max (S 7 s) p else S 7 t) → pV (fun S' => LVr S' ∧ Fr 4 7 S S' ∧ ∀ t, t < 2 → ∀ q, S' (4 + t) q = if t = s ∧ q = p then S (4 + s) p + df else S (4 + t) q) none S' := by
    intro S' f1 f2 f3
    have f4 : ∀ t, t < 2 → ∀ q, S' (4 + t) q = if t = s ∧ q = p then S (4 + s) p + df else S (4 + t) q := by
      intro t ht q
      rw [f1 (4 + t) (by omega) (by omega), sk_u_get]
      by_cases e : t = s ∧ q = p
      · rw [if_pos e, if_pos (by omega)]
      · rw [if_neg e, if_neg (by omega)]
    have f5 : Fr 4 7 S S' := fun k hk => by rw [f1 k (by omega) (by omega), sk_u_ne (by omega)]
    exact ⟨rfl, hL.step hp f2 f3 f4 (fun t ht => f5 _ (by omega)), f5, f4⟩
  refine ⟨by omega, by omega, by omega, by omega, hv, fun S1 q1 => ?_⟩
  have a6 : S1 6 = S 6 := by rw [q1, sk_u_ne (by omega)]
  have a7 : S1 7 = S 7 := by rw [q1, sk_u_ne (by omega)]
  refine ⟨fun g1 => ⟨fun g2 => ?_, fun g2 S6 q6 => ?_⟩, fun g1 S9 q9 => ?_⟩
  · rw [a6] at g1
    rw [a7] at g2
    refine key S1 (fun k _ _ => by rw [q1]) (fun t ht => ?_) (fun t ht => ?_)
    · rw [a6]
      split
      · rename_i e; rw [e]; omega
      · rfl
    · rw [a7]
      split
      · rename_i e; rw [e]; omega
      · rfl
  · rw [a6] at g1
    rw [a7] at g2
    refine key S6 (fun k _ h7 => by rw [q6, sk_u_ne h7, q1]) (fun t ht => ?_) (fun t ht => ?_)
    · rw [q6, sk_u_ne (by omega), a6]
      split
      · rename_i e; rw [e]; omega
      · rfl
    · rw [q6, sk_u_get, a7]
      split
      · rename_i e; rw [if_pos e.2]; omega
      · rename_i e; rw [if_neg (fun g => e ⟨rfl, g⟩)]
  · rw [a6] at g1
    have b7 : S9 7 = S 7 := by rw [q9, sk_u_ne (by omega), a7]
    refine ⟨fun g2 => ?_, fun g2 S13 q13 => ?_⟩
    · rw [b7] at g2
      refine key S9 (fun k h6 _ => by rw [q9, sk_u_ne h6, q1]) (fun t ht => ?_) (fun t ht => ?_)
      · rw [q9, sk_u_get, a6]
        split
        · rename_i e; rw [if_pos e.2]; omega
        · rename_i e; rw [if_neg (fun g => e ⟨rfl, g⟩)]
      · rw [b7]
        split
        · rename_i e; rw [e]; omega
        · rfl
    · rw [b7] at g2
      refine key S13 (fun k h6 h7 => by rw [q13, sk_u_ne h7, q9, sk_u_ne h6, q1]) (fun t ht => ?_) (fun t ht => ?_)
      · rw [q13, sk_u_ne (by omega), q9, sk_u_get, a6]
        split
        · rename_i e; rw [if_pos e.2]; omega
        · rename_i e; rw [if_neg (fun g => e ⟨rfl, g⟩)]
      · rw [q13, sk_u_get, b7]
        split
        · rename_i e; rw [if_pos e.2]; omega
        · rename_i e; rw [if_neg (fun g => e ⟨rfl, g⟩)]
theorem sp_leave {scr : Nat × (Nat → Int32)} {d N i s : Nat} {S : sk_S} {A : ab} (hR : RC 0 N S A) (hi : i < N) (hN : N ≤ 200) (hs : s < 2) (hsd : A.1 1 i = s) (hlen : (A.2 s).length ≤ 40) :
    EE scr d 100 0 [some (.ref 10), some (vi i), none, none, none, none] S (pV fun S' => RC 0 N S' (ab_l A s ((A.2 s).filter fun j => decide (¬ j = i))) ∧ Fr 20 22 S S') := by
  have e1 : S 12 i = s := (hR.2.1 1 (by omega) i hi).trans hsd
  have eL : S 22 s = ((A.2 s).length : Int) := (hR.2.2.1 s hs).1
  have eE : ∀ j k : Nat, (A.2 s)[j]? = some k → S (20 + s) j = (k : Int) := (hR.2.2.1 s hs).2
  have loop : ∀ (m place kept : Nat) (S1 : sk_S), (A.2 s).length = place + m → kept = (((A.2 s).take place).filter fun j => decide (¬ j = i)).length → (∀ k, ¬ k = 20 + s → S1 k = S k) → (∀ j k : Nat, (((A.2 s).take place).filter fun j => decide (¬ j = i))[j]? = some k → S1 (20 + s) j = (k : Int)) → (∀ j k : Nat, place ≤ j → (A.2 s)[j]? = some k → S1 (20 + s) j = (k : Int)) →
      EE scr d 100 20 [some (.ref 10), some (vi i), some (vi s), some (.ref (20 + s)), some (vi kept), some (vi place)] S1 (pV fun S' => RC 0 N S' (ab_l A s ((A.2 s).filter fun j => decide (¬ j = i))) ∧ Fr 20 22 S S') := by
    intro m
    induction m with
    | zero =>
      intro place kept S1 hm hk hf hb ha
      have hkl : kept ≤ 40 := by
        have := List.length_filter_le (fun j => decide (¬ j = i)) ((A.2 s).take place)
        have := List.length_take_le place (A.2 s)
        have : ((A.2 s).take place).length ≤ (A.2 s).length := by rw [List.length_take]; omega
        omega
      refine st_100_20 (rg_n (by omega)) (rg_n (by omega)) hs (rg_n (by omega)) (rg_n (by omega)) ?_
      simp only [Int.toNat_natCast]
      have f22 : S1 22 s = ((A.2 s).length : Int) := by rw [hf 22 (by omega)]; exact eL
      rw [f22]
      refine ⟨by omega, by omega, fun _ S2 q2 => ⟨rfl, ?_, ?_⟩, fun g => by omega⟩
      · subst q2
        have ht : (A.2 s).take place = A.2 s := List.take_of_length_le (by omega)
        rw [ht] at hk hb
        refine hR.line hs (fun k _ _ g1 g2 => ?_) (fun t g => ?_) ?_ (fun j k hj => ?_)
        · rw [sk_u_ne g2, hf k g1]
        · rw [sk_u_nj g, hf 22 (by omega)]
        · rw [sk_u_at, hk]
        · rw [sk_u_ne (by omega)]; exact hb j k hj
      · subst q2
        exact fun k hk => by rw [sk_u_ne (by omega), hf k (by omega)]
    | succ m ih =>
      intro place kept S1 hm hk hf hb ha
      have hkl : kept ≤ place := by
        have := List.length_filter_le (fun j => decide (¬ j = i)) ((A.2 s).take place)
        have : ((A.2 s).take place).length ≤ place := List.length_take_le _ _
        omega
      have hlt : place < (A.2 s).length := by omega
      obtain ⟨x, hx⟩ : ∃ x, (A.2 s)[place]? = some x := ⟨_, List.getElem?_eq_getElem hlt⟩
      have hsx : S1 (20 + s) place = (x : Int) := ha place x (Nat.le_refl _) hx
      have ht : (A.2 s).take (place + 1) = (A.2 s).take place ++ [x] := by rw [List.take_succ, hx]; rfl
      refine st_100_20 (rg_n (by omega)) (rg_n (by omega)) hs (rg_n (by omega)) (rg_n (by omega)) ?_
      simp only [Int.toNat_natCast]
      have f22 : S1 22 s = ((A.2 s).length : Int) := by rw [hf 22 (by omega)]; exact eL
      rw [f22, hsx]
      refine ⟨by omega, by omega, fun g => by omega, fun _ => ⟨by omega, by omega, fun g => ?_, fun g => ⟨by omega, by omega, fun S6 q6 => ?_⟩⟩⟩
      · have hxi : x = i := by omega
        have hfl : ((A.2 s).take (place + 1)).filter (fun j => decide (¬ j = i)) = ((A.2 s).take place).filter (fun j => decide (¬ j = i)) := by rw [ht, List.filter_append]; simp [hxi]
        exact ih (place + 1) kept S1 (by omega) (by rw [hfl]; exact hk) hf (by rw [hfl]; exact hb) (fun j k hj => ha j k (by omega))
      · have hxi : ¬ x = i := by omega
        have hfl : ((A.2 s).take (place + 1)).filter (fun j => decide (¬ j = i)) = ((A.2 s).take place).filter (fun j => decide (¬ j = i)) ++ [x] := by rw [ht, List.filter_append]; simp [hxi]
        subst q6
        refine ih (place + 1) (kept + 1) (sk_u S1 (20 + s) kept x) (by omega) (by rw [hfl, List.length_append, ← hk]; rfl) (fun k g1 => by rw [sk_u_ne g1, hf k g1]) (fun j k hj => ?_) (fun j k g1 hj => ?_)
        · rw [hfl] at hj
          rw [sk_u_get]
          by_cases e : j = kept
          · rw [if_pos ⟨rfl, e⟩]
            rw [e, hk, List.getElem?_append_right (Nat.le_refl _), Nat.sub_self] at hj
            cases hj
            rfl
          · rw [if_neg (fun h => e h.2)]
            have hjl : j < kept := by
              have := (List.getElem?_eq_some_iff.mp hj).1
              rw [List.length_append, ← hk] at this
              simp at this
              omega
            rw [List.getElem?_append_left (by omega)] at hj
            exact hb j k hj
        · rw [sk_u_nj (by omega)]
          exact ha j k (by omega) hj
  refine st_100_0 (rg_n (by omega)) ?_
  simp only [Int.toNat_natCast, e1]
  exact ⟨by omega, by omega, by omega, by omega, loop (A.2 s).length 0 0 S (by omega) (by simp) (fun _ _ => rfl) (fun j k h => by simp at h) (fun j k _ h => eE j k h)⟩
