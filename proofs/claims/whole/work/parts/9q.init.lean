/-! 9q.init: the first state -/
def A0 (f : Int) : ab := (fun r j => if r = 8 then (if j = 2 ∨ j = 3 then f else 0) else if r = 9 then 1 else 0, fun _ => [])
def W0 (f : Int) : wd := (A0 f, A0 f, (fun _ _ => 0), (fun _ _ => 0))
def S0 (f b : Int) : sk_S := fun k => if k = 1 then (fun j => if j = 0 then b else 0) else if k = 6 then sk_i (sk_i z0 0 1000) 1 1000 else if k = 9 ∨ k = 32 then (fun j => if j = 1 ∨ j = 2 then f else 0) else if k = 24 ∨ k = 47 then sk_i (sk_i (sk_i (sk_i z0 0 1) 1 1) 2 1) 3 1 else z0
theorem S0_z {f b : Int} {k : Nat} (h : ¬ (k = 1 ∨ k = 6 ∨ k = 9 ∨ k = 32 ∨ k = 24 ∨ k = 47)) (j : Nat) : S0 f b k j = 0 := by
  unfold S0
  rw [if_neg (by omega), if_neg (by omega), if_neg (by omega), if_neg (by omega)]
  rfl
theorem S0_9 {f b : Int} {k : Nat} (h : k = 9 ∨ k = 32) (j : Nat) : S0 f b k j = if j = 1 ∨ j = 2 then f else 0 := by
  unfold S0
  rw [if_neg (by omega), if_neg (by omega), if_pos h]
theorem S0_24 {f b : Int} {k : Nat} (h : k = 24 ∨ k = 47) {j : Nat} (hj : j < 4) : S0 f b k j = 1 := by
  unfold S0
  rw [if_neg (by omega), if_neg (by omega), if_neg (by omega), if_pos h]
  obtain rfl | rfl | rfl | rfl : j = 0 ∨ j = 1 ∨ j = 2 ∨ j = 3 := by omega
  · rfl
  · rfl
  · rfl
  · rfl
theorem S0_6 {f b : Int} {s : Nat} (h : s < 2) : S0 f b 6 s = 1000 := by
  obtain rfl | rfl : s = 0 ∨ s = 1 := by omega
  · rfl
  · rfl
theorem A0_rep {f : Int} {s j : Nat} : (A0 f).1 (12 + s) j = 0 := by
  show (if 12 + s = 8 then (if j = 2 ∨ j = 3 then f else 0) else if 12 + s = 9 then 1 else 0) = (0 : Int)
  rw [if_neg (by omega), if_neg (by omega)]
theorem rc_0 {f b : Int} {o : Nat} (ho : o = 0 ∨ o = 23) : RC o 0 (S0 f b) (A0 f) := by
  refine ⟨⟨?_, ?_, ?_, ?_⟩, fun c _ i hi => by omega, fun s hs => ⟨?_, fun j i hj => ?_⟩, fun r hr s hs => ?_, fun s hs j hj => ?_⟩
  · rw [S0_z (by omega)]; rfl
  · rw [S0_9 (by omega)]; rfl
  · rw [S0_9 (by omega)]; rfl
  · rw [S0_9 (by omega)]; rfl
  · rw [S0_z (by omega)]; rfl
  · have h : ([] : List Nat)[j]? = some i := hj
    simp at h
  · obtain rfl | rfl | rfl : r = 0 ∨ r = 1 ∨ r = 2 := by omega
    · rw [S0_24 (by omega) hs]; rfl
    · rw [S0_z (by omega)]; rfl
    · rw [S0_z (by omega)]; rfl
  · rw [S0_z (by omega), A0_rep]
theorem lev_0 {f p : Int} {s : Nat} : ab_lev (A0 f) s p = 0 := rfl
theorem cx_0 {f b : Int} : CX b (W0 f) (S0 f b) := by
  refine ⟨⟨rc_0 (Or.inl rfl), fun s hs p hp => ?_, fun s hs => ⟨?_, ?_, fun p hp h => ?_, ?_, ?_⟩⟩, fun s hs p hp => ?_, rc_0 (Or.inr rfl), ⟨?_, fun j hj => ⟨?_, ?_, ?_⟩⟩, ⟨?_, fun s hs p hp => ?_⟩, rfl⟩
  · rw [S0_z (by omega)]; rfl
  · rw [S0_6 hs]; omega
  · rw [S0_z (by omega)]; omega
  · rw [S0_z (by omega), S0_z (by omega)] at h
    exact absurd rfl h
  · rw [S0_6 hs]; omega
  · rw [S0_z (by omega)]; omega
  · rw [S0_z (by omega)]; rfl
  · rw [S0_z (by omega)]; rfl
  · rw [S0_z (by omega)]; rfl
  · rw [S0_z (by omega)]; rfl
  · rw [S0_z (by omega)]; rfl
  · rw [S0_z (by omega)]; rfl
  · rw [S0_z (by omega)]; rfl
theorem wa_0 {f : Int} (hf : 1 ≤ f ∧ f ≤ 999) : WA 0 (A0 f) := by
  have hn : ab_n (A0 f) = 0 := rfl
  refine ⟨⟨rfl, ⟨?_, fun i hi => ?_, fun s hs => ⟨List.nodup_nil, fun i => ⟨fun h => absurd h List.not_mem_nil, fun h => ?_⟩, Nat.zero_le _⟩⟩, fun s hs => List.Pairwise.nil, hf, hf, ⟨Int.le_refl _, ?_⟩, fun i hi => ?_, ?_⟩, fun s hs => ⟨Int.le_refl _, ?_⟩, fun s hs => ⟨?_, ?_⟩, fun s hs => rg_0, fun i hi => ?_, fun _ => rfl⟩
  · omega
  · omega
  · omega
  · show (0 : Int) ≤ 4
    omega
  · omega
  · show (0 : Int) ≤ 40
    omega
  · show (0 : Int) ≤ 100000 * 0
    omega
  · show (0 : Int) ≤ 1
    omega
  · show (1 : Int) ≤ 0 + 1
    omega
  · omega
theorem ww_0 {f : Int} (hf : 1 ≤ f ∧ f ≤ 999) : WW 0 (W0 f) := by
  refine ⟨wa_0 hf, wa_0 hf, ⟨Int.le_refl _, ?_⟩, fun j hj => ⟨Or.inl rfl, Int.le_refl _, ?_⟩, Int.le_refl _, Int.le_refl _⟩
  · show (0 : Int) ≤ 2000 * 0
    omega
  · show (0 : Int) < 1000
    omega
def M0 (f b : Int) : sk_S := sk_u (sk_u (sk_u (sk_u (sk_u (sk_u (sk_u (S0 f b) 66 0 b) 67 1 f) 67 2 f) 67 4 1) 67 5 1) 67 6 1) 67 7 1
theorem M0_k {f b : Int} {k : Nat} (h : ¬ (k = 66 ∨ k = 67)) : M0 f b k = S0 f b k := by
  unfold M0
  rw [sk_u_ne (by omega), sk_u_ne (by omega), sk_u_ne (by omega), sk_u_ne (by omega), sk_u_ne (by omega), sk_u_ne (by omega), sk_u_ne (by omega)]
theorem rm_0 {f b : Int} : RM 0 0 (M0 f b) (A0 f) := by
  refine ⟨⟨rfl, rfl, rfl, rfl⟩, fun c _ i hi => by omega, fun r hr s hs => ?_, fun s hs j hj => ?_⟩
  · obtain rfl | rfl | rfl : r = 0 ∨ r = 1 ∨ r = 2 := by omega
    · obtain rfl | rfl | rfl | rfl : s = 0 ∨ s = 1 ∨ s = 2 ∨ s = 3 := by omega
      · rfl
      · rfl
      · rfl
      · rfl
    · obtain rfl | rfl | rfl | rfl : s = 0 ∨ s = 1 ∨ s = 2 ∨ s = 3 := by omega
      · rfl
      · rfl
      · rfl
      · rfl
    · obtain rfl | rfl | rfl | rfl : s = 0 ∨ s = 1 ∨ s = 2 ∨ s = 3 := by omega
      · rfl
      · rfl
      · rfl
      · rfl
  · rw [M0_k (by omega), S0_z (by omega), A0_rep]
theorem rk_0 {f : Int} {k : Nat} {S : sk_S} : RK k S (A0 f) := fun _ _ => ⟨List.Pairwise.nil, fun _ hi => absurd hi List.not_mem_nil⟩
theorem mx_0 {f b : Int} {S : sk_S} (hc : CPd 0 1 (M0 f b) S) : MX b 0 (W0 f) S ∧ FB (S0 f b) S := by
  have e : ∀ k, (k < 67 ∨ 77 < k) → S k = M0 f b k := hc.2.2.2
  refine ⟨⟨⟨rm_0.keep hc (by omega) (by omega) (by omega) (by omega), rk_0, ?_, ?_⟩, rm_0.copy hc (by omega), rk_0, ⟨?_, fun j hj => ⟨?_, ?_⟩⟩, ⟨?_, fun s hs p hp => ?_⟩, ?_⟩, fun k hk => ?_⟩
  · rw [e 66 (by omega)]; exact Int.le_refl 0
  · rw [e 66 (by omega)]; exact Int.le_refl 0
  · rw [e 66 (by omega)]; rfl
  · rw [e 82 (by omega), M0_k (by omega), S0_z (by omega)]; rfl
  · rw [e 83 (by omega), M0_k (by omega), S0_z (by omega)]; rfl
  · rw [e 66 (by omega)]; rfl
  · rw [e 81 (by omega), M0_k (by omega), S0_z (by omega)]; rfl
  · rw [e 66 (by omega)]; rfl
  · rw [e k (by omega), M0_k (by omega)]
theorem rp_clamp {scr : Nat × (Nat → Int32)} {d : Nat} {S : sk_S} {x : Int} (hx : rg x) : EE scr d 32 0 [some (vi x)] S (pI fun y S' => y = max 1 (min 999 x) ∧ S' = S) :=
  st_32_0 hx ⟨fun h1 => ⟨fun h2 => ⟨_, rfl, by omega, rfl⟩, fun h2 => ⟨_, rfl, by omega, rfl⟩⟩, fun h => ⟨_, rfl, by omega, rfl⟩⟩
theorem rp_init {scr : Nat × (Nat → Int32)} {d : Nat} {x y f b : Int} (hx : rg x) (hy : rg y) (hf : f = max 1 (min 999 x)) (hb : b = max 1 (min 999 y)) :
    EE scr (d + 1) 31 154 [some (.ref 66), some (vi x), some (vi y), none] (S0 f b) (pV fun S' => CPd 0 1 (M0 f b) S') := by
  refine st_31_154 hx hy ?_
  refine (rp_clamp hy).I fun u S1 _ _ hu _ => ?_
  obtain ⟨hu, rfl⟩ := hu
  rw [← hb] at hu
  subst hu
  intro S6 q6
  refine (rp_clamp hx).I fun w S9 _ _ hw _ => ?_
  obtain ⟨hw, rfl⟩ := hw
  rw [← hf] at hw
  subst hw
  intro S14 q14 S17 q17
  have e14 : S14 67 1 = w := by rw [q14]; exact sk_u_at _ _ _ _
  rw [e14] at q17
  refine st_31_186 (rg_c 4 rfl) ⟨fun g => by omega, fun _ => ⟨by omega, by omega, fun S20 q20 => ?_⟩⟩
  refine st_31_186 (rg_c (4 + 1) rfl) ⟨fun g => by omega, fun _ => ⟨by omega, by omega, fun S21 q21 => ?_⟩⟩
  refine st_31_186 (rg_c (4 + 1 + 1) rfl) ⟨fun g => by omega, fun _ => ⟨by omega, by omega, fun S22 q22 => ?_⟩⟩
  refine st_31_186 (rg_c (4 + 1 + 1 + 1) rfl) ⟨fun g => by omega, fun _ => ⟨by omega, by omega, fun S23 q23 => ?_⟩⟩
  refine st_31_186 (rg_c (4 + 1 + 1 + 1 + 1) rfl) ⟨fun _ => ?_, fun g => absurd g (by omega)⟩
  have e : S23 = M0 w u := by rw [q23, q22, q21, q20, q17, q14, q6]; rfl
  rw [e]
  exact (rp_copy (k1 := 0) (k2 := 1) (by omega) (by omega) (by omega)).V fun S' _ h => ⟨rfl, h⟩
