/-! 82.rel: what the cells of the class and of the reference say of the market -/
theorem sk_u_get (S : sk_S) (k j : Nat) (v : Int) (k' j' : Nat) : sk_u S k j v k' j' = if k' = k ∧ j' = j then v else S k' j' := by
  unfold sk_u sk_r sk_i
  by_cases h : k' = k
  · subst h
    by_cases g : j' = j
    · simp [g]
    · simp [g]
  · simp [h]
theorem sk_u_at (S : sk_S) (k j : Nat) (v : Int) : sk_u S k j v k j = v := by rw [sk_u_get, if_pos ⟨rfl, rfl⟩]
theorem sk_u_ne {S : sk_S} {k j : Nat} {v : Int} {k' : Nat} (h : ¬ k' = k) : sk_u S k j v k' = S k' := by
  funext j'
  rw [sk_u_get, if_neg (fun g => h g.1)]
theorem sk_u_nj {S : sk_S} {k j : Nat} {v : Int} {k' j' : Nat} (h : ¬ j' = j) : sk_u S k j v k' j' = S k' j' := by rw [sk_u_get, if_neg (fun g => h g.2)]
theorem sk_r_get (S : sk_S) (k : Nat) (g : Nat → Int) (k' : Nat) : sk_r S k g k' = if k' = k then g else S k' := rfl
theorem sk_u_same {S : sk_S} {k j : Nat} {v : Int} (h : S k j = v) : sk_u S k j v = S := by
  funext k' j'
  rw [sk_u_get]
  split
  · rename_i g
    rw [g.1, g.2, h]
  · rfl
theorem ab_u_same {A : ab} {k j : Nat} {v : Int} (h : A.1 k j = v) : ab_u A k j v = A := by unfold ab_u; rw [sk_u_same h]
theorem ab_u_get (A : ab) (k j : Nat) (v : Int) (k' j' : Nat) : (ab_u A k j v).1 k' j' = if k' = k ∧ j' = j then v else A.1 k' j' := sk_u_get _ _ _ _ _ _
theorem ab_u_2 (A : ab) (k j : Nat) (v : Int) : (ab_u A k j v).2 = A.2 := rfl
theorem ab_l_1 (A : ab) (s : Nat) (l : List Nat) : (ab_l A s l).1 = A.1 := rfl
theorem ab_l_get (A : ab) (s : Nat) (l : List Nat) (t : Nat) : (ab_l A s l).2 t = if t = s then l else A.2 t := rfl
/-- what stays -/
def Fr (lo hi : Nat) (S S' : sk_S) : Prop := ∀ k, (k < lo ∨ hi < k) → S' k = S k
theorem Fr.refl {lo hi : Nat} {S : sk_S} : Fr lo hi S S := fun _ _ => rfl
theorem Fr.trans {lo hi : Nat} {S S1 S2 : sk_S} (h1 : Fr lo hi S S1) (h2 : Fr lo hi S1 S2) : Fr lo hi S S2 := fun k hk => (h2 k hk).trans (h1 k hk)
theorem Fr.wide {lo hi lo' hi' : Nat} {S S1 : sk_S} (h : Fr lo hi S S1) (h1 : lo' ≤ lo) (h2 : hi ≤ hi') : Fr lo' hi' S S1 := fun k hk => h k (by omega)
theorem Fr.u {lo hi : Nat} {S : sk_S} {k j : Nat} {v : Int} (h1 : lo ≤ k) (h2 : k ≤ hi) : Fr lo hi S (sk_u S k j v) := fun q hq => sk_u_ne (by omega)
theorem Fr.r {lo hi : Nat} {S : sk_S} {k : Nat} {g : Nat → Int} (h1 : lo ≤ k) (h2 : k ≤ hi) : Fr lo hi S (sk_r S k g) := fun q hq => by rw [sk_r_get, if_neg (by omega)]
/-- the class's cells from 9 + o on: a market; the columns of N orders -/
def RC (o N : Nat) (S : sk_S) (A : ab) : Prop :=
  (S (10 + o) 0 = A.1 8 0 ∧ S (9 + o) 0 = A.1 8 1 ∧ S (9 + o) 1 = A.1 8 2 ∧ S (9 + o) 2 = A.1 8 3) ∧
  (∀ c, c < 8 → ∀ i, i < N → S (11 + o + c) i = A.1 c i) ∧
  (∀ s, s < 2 → S (22 + o) s = ((A.2 s).length : Int) ∧ ∀ j i : Nat, (A.2 s)[j]? = some i → S (20 + o + s) j = (i : Int)) ∧
  (∀ r, r < 3 → ∀ s, s < 4 → S (24 + o + r) s = A.1 (9 + r) s) ∧
  (∀ s, s < 4 → ∀ j, j < 128 → S (28 + o + s) j = A.1 (12 + s) j)
theorem RC.frame {o N : Nat} {S S' : sk_S} {A : ab} (h : RC o N S A) (hf : ∀ k, 9 + o ≤ k → k ≤ 31 + o → S' k = S k) : RC o N S' A := by
  obtain ⟨⟨h1, h2, h3, h4⟩, h5, h6, h7, h8⟩ := h
  refine ⟨⟨?_, ?_, ?_, ?_⟩, fun c hc i hi => ?_, fun s hs => ⟨?_, fun j i hj => ?_⟩, fun r hr s hs => ?_, fun s hs j hj => ?_⟩
  · rw [hf _ (by omega) (by omega)]; exact h1
  · rw [hf _ (by omega) (by omega)]; exact h2
  · rw [hf _ (by omega) (by omega)]; exact h3
  · rw [hf _ (by omega) (by omega)]; exact h4
  · rw [hf _ (by omega) (by omega)]; exact h5 c hc i hi
  · rw [hf _ (by omega) (by omega)]; exact (h6 s hs).1
  · rw [hf _ (by omega) (by omega)]; exact (h6 s hs).2 j i hj
  · rw [hf _ (by omega) (by omega)]; exact h7 r hr s hs
  · rw [hf _ (by omega) (by omega)]; exact h8 s hs j hj
theorem RC.col {o N : Nat} {S : sk_S} {A : ab} (h : RC o N S A) {c k i : Nat} {v : Int} (hc : c < 8) (hk : k = 11 + o + c) : RC o N (sk_u S k i v) (ab_u A c i v) := by
  subst hk
  obtain ⟨⟨h1, h2, h3, h4⟩, h5, h6, h7, h8⟩ := h
  refine ⟨⟨?_, ?_, ?_, ?_⟩, fun c' hc' i' hi' => ?_, fun s hs => ⟨?_, fun j i hj => ?_⟩, fun r hr s hs => ?_, fun s hs j hj => ?_⟩
  · rw [sk_u_ne (by omega), ab_u_get, if_neg (by omega)]; exact h1
  · rw [sk_u_ne (by omega), ab_u_get, if_neg (by omega)]; exact h2
  · rw [sk_u_ne (by omega), ab_u_get, if_neg (by omega)]; exact h3
  · rw [sk_u_ne (by omega), ab_u_get, if_neg (by omega)]; exact h4
  · rw [sk_u_get, ab_u_get]
    by_cases g : c' = c ∧ i' = i
    · rw [if_pos g, if_pos ⟨by omega, g.2⟩]
    · rw [if_neg g, if_neg (fun q => g ⟨by omega, q.2⟩)]; exact h5 c' hc' i' hi'
  · rw [sk_u_ne (by omega)]; exact (h6 s hs).1
  · rw [sk_u_ne (by omega)]; exact (h6 s hs).2 j i hj
  · rw [sk_u_ne (by omega), ab_u_get, if_neg (by omega)]; exact h7 r hr s hs
  · rw [sk_u_ne (by omega), ab_u_get, if_neg (by omega)]; exact h8 s hs j hj
theorem RC.sc {o N : Nat} {S : sk_S} {A : ab} (h : RC o N S A) {q k j : Nat} {v : Int} (hq : (q = 0 ∧ k = 10 + o ∧ j = 0) ∨ (q = 1 ∧ k = 9 + o ∧ j = 0) ∨ (q = 2 ∧ k = 9 + o ∧ j = 1) ∨ (q = 3 ∧ k = 9 + o ∧ j = 2)) : RC o N (sk_u S k j v) (ab_u A 8 q v) := by
  obtain ⟨⟨h1, h2, h3, h4⟩, h5, h6, h7, h8⟩ := h
  have hk : k = 10 + o ∨ k = 9 + o := by omega
  refine ⟨⟨?_, ?_, ?_, ?_⟩, fun c' hc' i' hi' => ?_, fun s hs => ⟨?_, fun j i hj => ?_⟩, fun r hr s hs => ?_, fun s hs j hj => ?_⟩
  · rw [sk_u_get, ab_u_get, h1]
    by_cases g : q = 0
    · rw [if_pos (by omega), if_pos (by omega)]
    · rw [if_neg (by omega), if_neg (by omega)]
  · rw [sk_u_get, ab_u_get, h2]
    by_cases g : q = 1
    · rw [if_pos (by omega), if_pos (by omega)]
    · rw [if_neg (by omega), if_neg (by omega)]
  · rw [sk_u_get, ab_u_get, h3]
    by_cases g : q = 2
    · rw [if_pos (by omega), if_pos (by omega)]
    · rw [if_neg (by omega), if_neg (by omega)]
  · rw [sk_u_get, ab_u_get, h4]
    by_cases g : q = 3
    · rw [if_pos (by omega), if_pos (by omega)]
    · rw [if_neg (by omega), if_neg (by omega)]
  · rw [sk_u_ne (by omega), ab_u_get, if_neg (by omega)]; exact h5 c' hc' i' hi'
  · rw [sk_u_ne (by omega)]; exact (h6 s hs).1
  · rw [sk_u_ne (by omega)]; exact (h6 s hs).2 j i hj
  · rw [sk_u_ne (by omega), ab_u_get, if_neg (by omega)]; exact h7 r hr s hs
  · rw [sk_u_ne (by omega), ab_u_get, if_neg (by omega)]; exact h8 s hs j hj
theorem RC.ses {o N : Nat} {S : sk_S} {A : ab} (h : RC o N S A) {r k i : Nat} {v : Int} (hr : r < 3) (hk : k = 24 + o + r) : RC o N (sk_u S k i v) (ab_u A (9 + r) i v) := by
  subst hk
  obtain ⟨⟨h1, h2, h3, h4⟩, h5, h6, h7, h8⟩ := h
  refine ⟨⟨?_, ?_, ?_, ?_⟩, fun c' hc' i' hi' => ?_, fun s hs => ⟨?_, fun j i hj => ?_⟩, fun r' hr' s hs => ?_, fun s hs j hj => ?_⟩
  · rw [sk_u_ne (by omega), ab_u_get, if_neg (by omega)]; exact h1
  · rw [sk_u_ne (by omega), ab_u_get, if_neg (by omega)]; exact h2
  · rw [sk_u_ne (by omega), ab_u_get, if_neg (by omega)]; exact h3
  · rw [sk_u_ne (by omega), ab_u_get, if_neg (by omega)]; exact h4
  · rw [sk_u_ne (by omega), ab_u_get, if_neg (by omega)]; exact h5 c' hc' i' hi'
  · rw [sk_u_ne (by omega)]; exact (h6 s hs).1
  · rw [sk_u_ne (by omega)]; exact (h6 s hs).2 j i hj
  · rw [sk_u_get, ab_u_get]
    by_cases g : r' = r ∧ s = i
    · rw [if_pos (by omega), if_pos (by omega)]
    · rw [if_neg (by omega), if_neg (by omega)]; exact h7 r' hr' s hs
  · rw [sk_u_ne (by omega), ab_u_get, if_neg (by omega)]; exact h8 s hs j hj
theorem RC.rep {o N : Nat} {S : sk_S} {A : ab} (h : RC o N S A) {t k i : Nat} {v : Int} (ht : t < 4) (hk : k = 28 + o + t) : RC o N (sk_u S k i v) (ab_u A (12 + t) i v) := by
  subst hk
  obtain ⟨⟨h1, h2, h3, h4⟩, h5, h6, h7, h8⟩ := h
  refine ⟨⟨?_, ?_, ?_, ?_⟩, fun c' hc' i' hi' => ?_, fun s hs => ⟨?_, fun j i hj => ?_⟩, fun r' hr' s hs => ?_, fun s hs j hj => ?_⟩
  · rw [sk_u_ne (by omega), ab_u_get, if_neg (by omega)]; exact h1
  · rw [sk_u_ne (by omega), ab_u_get, if_neg (by omega)]; exact h2
  · rw [sk_u_ne (by omega), ab_u_get, if_neg (by omega)]; exact h3
  · rw [sk_u_ne (by omega), ab_u_get, if_neg (by omega)]; exact h4
  · rw [sk_u_ne (by omega), ab_u_get, if_neg (by omega)]; exact h5 c' hc' i' hi'
  · rw [sk_u_ne (by omega)]; exact (h6 s hs).1
  · rw [sk_u_ne (by omega)]; exact (h6 s hs).2 j i hj
  · rw [sk_u_ne (by omega), ab_u_get, if_neg (by omega)]; exact h7 r' hr' s hs
  · rw [sk_u_get, ab_u_get]
    by_cases g : s = t ∧ j = i
    · rw [if_pos (by omega), if_pos (by omega)]
    · rw [if_neg (by omega), if_neg (by omega)]; exact h8 s hs j hj
/-- another line -/
theorem RC.line {o N : Nat} {S S' : sk_S} {A : ab} (h : RC o N S A) {t : Nat} {l : List Nat} (ht : t < 2) (hf : ∀ k, 9 + o ≤ k → k ≤ 31 + o → ¬ k = 20 + o + t → ¬ k = 22 + o → S' k = S k) (hz : ∀ s, ¬ s = t → S' (22 + o) s = S (22 + o) s) (hl : S' (22 + o) t = (l.length : Int)) (hj : ∀ j i : Nat, l[j]? = some i → S' (20 + o + t) j = (i : Int)) : RC o N S' (ab_l A t l) := by
  obtain ⟨⟨h1, h2, h3, h4⟩, h5, h6, h7, h8⟩ := h
  refine ⟨⟨?_, ?_, ?_, ?_⟩, fun c hc i hi => ?_, fun s hs => ?_, fun r hr s hs => ?_, fun s hs j hj => ?_⟩
  · rw [hf _ (by omega) (by omega) (by omega) (by omega)]; exact h1
  · rw [hf _ (by omega) (by omega) (by omega) (by omega)]; exact h2
  · rw [hf _ (by omega) (by omega) (by omega) (by omega)]; exact h3
  · rw [hf _ (by omega) (by omega) (by omega) (by omega)]; exact h4
  · rw [hf _ (by omega) (by omega) (by omega) (by omega)]; exact h5 c hc i hi
  · rw [ab_l_get]
    by_cases g : s = t
    · rw [if_pos g, g]
      exact ⟨hl, hj⟩
    · rw [if_neg g, hz s g, hf _ (by omega) (by omega) (by omega) (by omega)]
      exact h6 s hs
  · rw [hf _ (by omega) (by omega) (by omega) (by omega)]; exact h7 r hr s hs
  · rw [hf _ (by omega) (by omega) (by omega) (by omega)]; exact h8 s hs j hj
/-- the reference's cells: copy k of a market -/
def mcol (c : Nat) : Nat := if c = 3 then 72 else if c = 4 then 71 else 68 + c
theorem mcol_lt {c : Nat} : (68 ≤ mcol c) ∧ (mcol c ≤ 72 + c) := by
  unfold mcol
  split
  · omega
  · split <;> omega
theorem mcol_inj {c c' : Nat} (h1 : c < 8) (h2 : c' < 8) (h : mcol c = mcol c') : c = c' := by
  unfold mcol at h
  split at h <;> split at h <;> (try split at h) <;> (try split at h) <;> omega
theorem mcol_7 {c : Nat} (h : c < 8) : mcol c ≤ 75 := by
  unfold mcol
  split
  · omega
  · split <;> omega
def RM (k N : Nat) (S : sk_S) (A : ab) : Prop :=
  (S 67 (16 * k + 3) = A.1 8 0 ∧ S 67 (16 * k) = A.1 8 1 ∧ S 67 (16 * k + 1) = A.1 8 2 ∧ S 67 (16 * k + 2) = A.1 8 3) ∧
  (∀ c, c < 8 → ∀ i, i < N → S (mcol c) (200 * k + i) = A.1 c i) ∧
  (∀ r, r < 3 → ∀ s, s < 4 → S 67 (16 * k + 4 + 4 * r + s) = A.1 (9 + r) s) ∧
  (∀ s, s < 4 → ∀ j, j < 128 → S 77 (512 * k + 128 * s + j) = A.1 (12 + s) j)
theorem RM.frame {k N : Nat} {S S' : sk_S} {A : ab} (h : RM k N S A) (hf : ∀ q, 67 ≤ q → q ≤ 77 → ¬ q = 76 → S' q = S q) : RM k N S' A := by
  obtain ⟨⟨h1, h2, h3, h4⟩, h5, h7, h8⟩ := h
  refine ⟨⟨?_, ?_, ?_, ?_⟩, fun c hc i hi => ?_, fun r hr s hs => ?_, fun s hs j hj => ?_⟩
  · rw [hf _ (by omega) (by omega) (by omega)]; exact h1
  · rw [hf _ (by omega) (by omega) (by omega)]; exact h2
  · rw [hf _ (by omega) (by omega) (by omega)]; exact h3
  · rw [hf _ (by omega) (by omega) (by omega)]; exact h4
  · have g1 := mcol_lt (c := c)
    have g2 := mcol_7 hc
    rw [hf _ (by omega) (by omega) (by omega)]; exact h5 c hc i hi
  · rw [hf _ (by omega) (by omega) (by omega)]; exact h7 r hr s hs
  · rw [hf _ (by omega) (by omega) (by omega)]; exact h8 s hs j hj
theorem RM.col {k N : Nat} {S : sk_S} {A : ab} (h : RM k N S A) {c q i j : Nat} {v : Int} (hc : c < 8) (hq : q = mcol c) (hj : j = 200 * k + i) : RM k N (sk_u S q j v) (ab_u A c i v) := by
  subst hq
  subst hj
  have g1 := mcol_lt (c := c)
  have g2 := mcol_7 hc
  obtain ⟨⟨h1, h2, h3, h4⟩, h5, h7, h8⟩ := h
  refine ⟨⟨?_, ?_, ?_, ?_⟩, fun c' hc' i' hi' => ?_, fun r hr s hs => ?_, fun s hs j hj => ?_⟩
  · rw [sk_u_ne (by omega), ab_u_get, if_neg (by omega)]; exact h1
  · rw [sk_u_ne (by omega), ab_u_get, if_neg (by omega)]; exact h2
  · rw [sk_u_ne (by omega), ab_u_get, if_neg (by omega)]; exact h3
  · rw [sk_u_ne (by omega), ab_u_get, if_neg (by omega)]; exact h4
  · rw [sk_u_get, ab_u_get]
    by_cases g : c' = c ∧ i' = i
    · rw [if_pos g, if_pos ⟨by rw [g.1], by omega⟩]
    · rw [if_neg g, if_neg (fun q => g ⟨mcol_inj hc' hc q.1, by omega⟩)]; exact h5 c' hc' i' hi'
  · rw [sk_u_ne (by omega), ab_u_get, if_neg (by omega)]; exact h7 r hr s hs
  · rw [sk_u_ne (by omega), ab_u_get, if_neg (by omega)]; exact h8 s hs j hj
theorem RM.sc {k N : Nat} {S : sk_S} {A : ab} (h : RM k N S A) {q j : Nat} {v : Int} (hq : (q = 0 ∧ j = 16 * k + 3) ∨ (q = 1 ∧ j = 16 * k) ∨ (q = 2 ∧ j = 16 * k + 1) ∨ (q = 3 ∧ j = 16 * k + 2)) : RM k N (sk_u S 67 j v) (ab_u A 8 q v) := by
  obtain ⟨⟨h1, h2, h3, h4⟩, h5, h7, h8⟩ := h
  refine ⟨⟨?_, ?_, ?_, ?_⟩, fun c' hc' i' hi' => ?_, fun r hr s hs => ?_, fun s hs j hj => ?_⟩
  · rw [sk_u_get, ab_u_get, h1]
    by_cases g : q = 0
    · rw [if_pos (by omega), if_pos (by omega)]
    · rw [if_neg (by omega), if_neg (by omega)]
  · rw [sk_u_get, ab_u_get, h2]
    by_cases g : q = 1
    · rw [if_pos (by omega), if_pos (by omega)]
    · rw [if_neg (by omega), if_neg (by omega)]
  · rw [sk_u_get, ab_u_get, h3]
    by_cases g : q = 2
    · rw [if_pos (by omega), if_pos (by omega)]
    · rw [if_neg (by omega), if_neg (by omega)]
  · rw [sk_u_get, ab_u_get, h4]
    by_cases g : q = 3
    · rw [if_pos (by omega), if_pos (by omega)]
    · rw [if_neg (by omega), if_neg (by omega)]
  · have g1 := mcol_lt (c := c')
    rw [sk_u_ne (by omega), ab_u_get, if_neg (by omega)]; exact h5 c' hc' i' hi'
  · rw [sk_u_nj (by omega), ab_u_get, if_neg (by omega)]; exact h7 r hr s hs
  · rw [sk_u_ne (by omega), ab_u_get, if_neg (by omega)]; exact h8 s hs j hj
theorem RM.ses {k N : Nat} {S : sk_S} {A : ab} (h : RM k N S A) {r i j : Nat} {v : Int} (hr : r < 3) (hi : i < 4) (hj : j = 16 * k + 4 + 4 * r + i) : RM k N (sk_u S 67 j v) (ab_u A (9 + r) i v) := by
  obtain ⟨⟨h1, h2, h3, h4⟩, h5, h7, h8⟩ := h
  refine ⟨⟨?_, ?_, ?_, ?_⟩, fun c' hc' i' hi' => ?_, fun r' hr' s hs => ?_, fun s hs j hj => ?_⟩
  · rw [sk_u_nj (by omega), ab_u_get, if_neg (by omega)]; exact h1
  · rw [sk_u_nj (by omega), ab_u_get, if_neg (by omega)]; exact h2
  · rw [sk_u_nj (by omega), ab_u_get, if_neg (by omega)]; exact h3
  · rw [sk_u_nj (by omega), ab_u_get, if_neg (by omega)]; exact h4
  · have g1 := mcol_lt (c := c')
    rw [sk_u_ne (by omega), ab_u_get, if_neg (by omega)]; exact h5 c' hc' i' hi'
  · rw [sk_u_get, ab_u_get]
    by_cases g : r' = r ∧ s = i
    · rw [if_pos (by omega), if_pos (by omega)]
    · rw [if_neg (by omega), if_neg (by omega)]; exact h7 r' hr' s hs
  · rw [sk_u_ne (by omega), ab_u_get, if_neg (by omega)]; exact h8 s hs j hj
theorem RM.rep {k N : Nat} {S : sk_S} {A : ab} (h : RM k N S A) {t i j : Nat} {v : Int} (ht : t < 4) (hi : i < 128) (hj : j = 512 * k + 128 * t + i) : RM k N (sk_u S 77 j v) (ab_u A (12 + t) i v) := by
  obtain ⟨⟨h1, h2, h3, h4⟩, h5, h7, h8⟩ := h
  refine ⟨⟨?_, ?_, ?_, ?_⟩, fun c' hc' i' hi' => ?_, fun r' hr' s hs => ?_, fun s hs j hj => ?_⟩
  · rw [sk_u_ne (by omega), ab_u_get, if_neg (by omega)]; exact h1
  · rw [sk_u_ne (by omega), ab_u_get, if_neg (by omega)]; exact h2
  · rw [sk_u_ne (by omega), ab_u_get, if_neg (by omega)]; exact h3
  · rw [sk_u_ne (by omega), ab_u_get, if_neg (by omega)]; exact h4
  · have g1 := mcol_lt (c := c')
    have g2 := mcol_7 hc'
    rw [sk_u_ne (by omega), ab_u_get, if_neg (by omega)]; exact h5 c' hc' i' hi'
  · rw [sk_u_ne (by omega), ab_u_get, if_neg (by omega)]; exact h7 r' hr' s hs
  · rw [sk_u_get, ab_u_get]
    by_cases g : s = t ∧ j = i
    · rw [if_pos (by omega), if_pos (by omega)]
    · rw [if_neg (by omega), if_neg (by omega)]; exact h8 s hs j hj
