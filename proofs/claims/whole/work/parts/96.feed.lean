/-! 96.feed: the messages about levels; the class tells them -/
/-- rows of F: 0: the number of messages; 1 side, 2 price, 3 sum, by slot -/
def fd_msg (F : sk_S) (s p v : Int) : sk_S := sk_u (sk_u (sk_u (sk_u F 1 (F 0 0 % 64).toNat s) 2 (F 0 0 % 64).toNat p) 3 (F 0 0 % 64).toNat v) 0 0 (F 0 0 + 1)
def fd_to (old new : Nat → Int) (s : Int) (F : sk_S) : Nat → sk_S
  | 0 => F
  | k + 1 => if new k = old k then fd_to old new s F k else fd_msg (fd_to old new s F k) s k (new k)
def fd_pub (old new : Nat → Nat → Int) (F : sk_S) : sk_S := fd_to (old 1) (new 1) 1 (fd_to (old 0) (new 0) 0 F 1000) 1000
theorem fd_msg_cnt (F : sk_S) (s p v : Int) : fd_msg F s p v 0 0 = F 0 0 + 1 := by unfold fd_msg; rw [sk_u_at]
theorem fd_to_cnt {old new : Nat → Int} {s : Int} {F : sk_S} : ∀ k : Nat, F 0 0 ≤ fd_to old new s F k 0 0 ∧ fd_to old new s F k 0 0 ≤ F 0 0 + k := by
  intro k
  induction k with
  | zero => exact ⟨Int.le_refl _, by show F 0 0 ≤ F 0 0 + 0; omega⟩
  | succ k ih =>
    unfold fd_to
    split
    · omega
    · rw [fd_msg_cnt]
      omega
theorem fd_to_same {old new : Nat → Int} {s : Int} {F : sk_S} {k : Nat} : ∀ n : Nat, (∀ p, k ≤ p → p < k + n → new p = old p) → fd_to old new s F (k + n) = fd_to old new s F k := by
  intro n
  induction n with
  | zero => intro _; rfl
  | succ n ih =>
    intro h
    show (if new (k + n) = old (k + n) then fd_to old new s F (k + n) else _) = _
    rw [if_pos (h (k + n) (by omega) (by omega)), ih (fun p h1 h2 => h p h1 (by omega))]
theorem fd_pub_cnt {old new : Nat → Nat → Int} {F : sk_S} : F 0 0 ≤ fd_pub old new F 0 0 ∧ fd_pub old new F 0 0 ≤ F 0 0 + 2000 := by
  unfold fd_pub
  have h1 := fd_to_cnt (old := old 0) (new := new 0) (s := 0) (F := F) 1000
  have h2 := fd_to_cnt (old := old 1) (new := new 1) (s := 1) (F := fd_to (old 0) (new 0) 0 F 1000) 1000
  omega
def FC (S F : sk_S) : Prop := S 55 0 = F 0 0 ∧ ∀ j, j < 64 → S 56 j = F 1 j ∧ S 57 j = F 2 j ∧ S 58 j = F 3 j
theorem FC.frame {S S' F : sk_S} (h : FC S F) (hf : ∀ k, 55 ≤ k → k ≤ 58 → S' k = S k) : FC S' F := by
  refine ⟨by rw [hf 55 (by omega) (by omega)]; exact h.1, fun j hj => ?_⟩
  rw [hf 56 (by omega) (by omega), hf 57 (by omega) (by omega), hf 58 (by omega) (by omega)]
  exact h.2 j hj
theorem sp_fmod {scr : Nat × (Nat → Int32)} {d : Nat} {S : sk_S} {x : Int} (hx : rg x) (h0 : 0 ≤ x) : EE scr d 151 0 [some (vi x), some (vi 64), none] S (pI fun y S' => S' = S ∧ y = x % 64) :=
  st_151_0 hx ⟨h0, fun z hz _ => ⟨fun _ => ⟨_, rfl, rfl, rfl⟩, fun g => absurd hz g⟩⟩
theorem sp_slot {scr : Nat × (Nat → Int32)} {d : Nat} {S : sk_S} {x : Int} (hx : rg x) (h0 : 0 ≤ x) : EE scr (d + 1) 106 0 [some (vi x)] S (pI fun y S' => S' = S ∧ y = x % 64) :=
  st_106_0 hx ((sp_fmod hx h0).I fun y S1 _ _ h _ => ⟨_, rfl, h⟩)
theorem sp_ftell {scr : Nat × (Nat → Int32)} {d s p : Nat} {S F : sk_S} {v : Int} (hF : FC S F) (h0 : 0 ≤ F 0 0) (h1 : F 0 0 < 2147483000) (hs : s < 2) (hp : p < 1000) (hv : rg v) :
    EE scr (d + 2) 105 0 [some (.ref 55), some (vi s), some (vi p), some (vi v), none] S (pV fun S' => FC S' (fd_msg F s p v) ∧ (∀ t, t < 2 → ∀ q, S' (60 + t) q = if t = s ∧ q = p then v else S (60 + t) q) ∧ Fr 55 61 S S') := by
  obtain ⟨f0, f1⟩ := hF
  refine st_105_0 (rg_n (by omega)) (rg_n (by omega)) hv ?_
  rw [f0]
  refine (sp_slot (rg_b (by omega) (by omega)) h0).I fun y S1 _ _ hy _ => ?_
  obtain ⟨rfl, rfl⟩ := hy
  simp only [Int.toNat_natCast]
  refine ⟨by omega, by omega, fun S6 q6 S9 q9 S12 q12 => ⟨by omega, by omega, by omega, by omega, fun S15 q15 => ?_⟩⟩
  have e55 : S15 55 0 = F 0 0 := by rw [q15, sk_u_ne (by omega), q12, sk_u_ne (by omega), q9, sk_u_ne (by omega), q6, sk_u_ne (by omega)]; exact f0
  rw [e55]
  refine ⟨rg_b (by omega) (by omega), fun S18 q18 => ⟨rfl, ⟨?_, fun j hj => ?_⟩, fun t ht q => ?_, ?_⟩⟩
  · rw [q18, sk_u_at, fd_msg_cnt]
  · obtain ⟨a1, a2, a3⟩ := f1 j hj
    unfold fd_msg
    refine ⟨?_, ?_, ?_⟩
    · rw [q18, sk_u_ne (by omega), q15, sk_u_ne (by omega), q12, sk_u_ne (by omega), q9, sk_u_ne (by omega), q6, sk_u_get, sk_u_ne (k := 0) (by omega), sk_u_ne (k := 3) (by omega), sk_u_ne (k := 2) (by omega), sk_u_get, a1]
      simp only [true_and]
    · rw [q18, sk_u_ne (by omega), q15, sk_u_ne (by omega), q12, sk_u_ne (by omega), q9, sk_u_get, q6, sk_u_ne (k := 56) (by omega), sk_u_ne (k := 0) (by omega), sk_u_ne (k := 3) (by omega), sk_u_get, sk_u_ne (k := 1) (by omega), a2]
      simp only [true_and]
    · rw [q18, sk_u_ne (by omega), q15, sk_u_ne (by omega), q12, sk_u_get, q9, sk_u_ne (k := 57) (by omega), q6, sk_u_ne (k := 56) (by omega), sk_u_ne (k := 0) (by omega), sk_u_get, sk_u_ne (k := 2) (by omega), sk_u_ne (k := 1) (by omega), a3]
      simp only [true_and]
  · rw [q18, sk_u_ne (by omega), q15, sk_u_get, q12, sk_u_ne (k := 58) (by omega), q9, sk_u_ne (k := 57) (by omega), q6, sk_u_ne (k := 56) (by omega)]
    by_cases c : t = s ∧ q = p
    · rw [if_pos c, if_pos (by omega)]
    · rw [if_neg c, if_neg (by omega)]
  · rw [q18, q15, q12, q9, q6]
    exact ((((Fr.u (by omega) (by omega)).trans (Fr.u (by omega) (by omega))).trans (Fr.u (by omega) (by omega))).trans (Fr.u (by omega) (by omega))).trans (Fr.u (by omega) (by omega))
/-- what was told -/
def TD (S : sk_S) (old : Nat → Nat → Int) : Prop := ∀ s, s < 2 → ∀ p : Nat, p < 1000 → S (60 + s) p = old s p
theorem sp_tellSide {scr : Nat × (Nat → Int32)} {d s : Nat} {S F : sk_S} {old new : Nat → Int} (hs : s < 2) (hF : FC S F) (h0 : 0 ≤ F 0 0) (h1 : F 0 0 < 2147400000) (hnew : ∀ p : Nat, p < 1000 → S (4 + s) p = new p) (hold : ∀ p : Nat, p < 1000 → S (60 + s) p = old p) (hlo : 0 ≤ S 6 s) (hhi : S 7 s ≤ 999) (hin : ∀ p : Nat, p < 1000 → ¬ new p = old p → S 6 s ≤ p ∧ (p : Int) ≤ S 7 s) (hlo2 : S 6 s ≤ 1000) (hhi0 : 0 ≤ S 7 s) {Post : Option Int → sk_S → Prop}
    (kk : ∀ S' : sk_S, FC S' (fd_to old new s F 1000) → (∀ p : Nat, p < 1000 → S' (60 + s) p = new p) → S' (60 + (1 - s)) = S (60 + (1 - s)) → (∀ k, k < 55 ∨ 61 < k → ¬ k = 6 → ¬ k = 7 → S' k = S k) → S' 6 s = 1000 → S' 7 s = 0 → S' 6 (1 - s) = S 6 (1 - s) → S' 7 (1 - s) = S 7 (1 - s) → ∀ l3 l4 l5, EE scr (d + 3) 104 2 [some (.ref 55), some (.ref 2), some (vi (s + 1)), l3, l4, l5] S' Post) :
    EE scr (d + 3) 104 30 [some (.ref 55), some (.ref 2), some (vi s), some (.ref (4 + s)), some (vi (S 7 s)), some (vi (S 6 s))] S Post := by
  refine Ev.good fun hS => ?_
  have hrn : ∀ p : Nat, p < 1000 → rg (new p) := fun p hp => by rw [← hnew p hp]; exact hS _ _
  obtain ⟨hi, hhi'⟩ : ∃ hi : Nat, S 7 s = hi := ⟨(S 7 s).toNat, by omega⟩
  obtain ⟨lo, hlo'⟩ : ∃ lo : Nat, S 6 s = lo := ⟨(S 6 s).toNat, by omega⟩
  rw [hhi', hlo']
  have loop : ∀ (f at_ : Nat) (T : sk_S), at_ + f = max lo (hi + 1) → lo ≤ at_ → FC T (fd_to old new s F at_) → (∀ p : Nat, p < 1000 → T (60 + s) p = if p < at_ then new p else old p) → T (60 + (1 - s)) = S (60 + (1 - s)) → (∀ k, k < 55 ∨ 61 < k → T k = S k) →
      EE scr (d + 3) 104 30 [some (.ref 55), some (.ref 2), some (vi s), some (.ref (4 + s)), some (vi hi), some (vi at_)] T Post := by
    intro f
    induction f with
    | zero =>
      intro at_ T hf hla hFT hold' hoth hfr
      refine st_104_30 (rg_n (by omega)) hs (rg_n (by omega)) (rg_n (by omega)) ?_
      refine ⟨fun _ => ?_, fun g => by omega⟩
      refine st_109_0 (rg_n (by omega)) ?_
      simp only [Int.toNat_natCast]
      refine ⟨by omega, by omega, fun S1 q1 S4 q4 => ⟨rfl, ?_⟩⟩
      have hk : ∀ k, ¬ k = 6 → ¬ k = 7 → S4 k = T k := fun k g6 g7 => by rw [q4, sk_u_ne g7, q1, sk_u_ne g6]
      have e1000 : fd_to old new s F 1000 = fd_to old new s F at_ := by
        have h := fd_to_same (old := old) (new := new) (s := s) (F := F) (k := at_) (1000 - at_) (fun p g1 g2 => Classical.byContradiction fun g3 => by
          have := hin p (by omega) g3
          omega)
        rw [show at_ + (1000 - at_) = 1000 by omega] at h
        exact h
      have hlt := kk S4 (by rw [e1000]; exact hFT.frame fun k _ _ => hk k (by omega) (by omega)) (fun p hp => by
        rw [hk (60 + s) (by omega) (by omega), hold' p hp]
        split
        · rfl
        · exact (Classical.byContradiction fun g3 => by
            have := hin p hp (fun e => g3 e.symm)
            omega)) (by rw [hk _ (by omega) (by omega)]; exact hoth) (fun k g1 g6 g7 => by rw [hk k g6 g7]; exact hfr k g1) (by rw [q4, sk_u_ne (by omega), q1, sk_u_at]) (by rw [q4, sk_u_at]) (by rw [q4, sk_u_ne (by omega), q1, sk_u_nj (by omega), hfr 6 (by omega)]) (by rw [q4, sk_u_nj (by omega), q1, sk_u_ne (by omega), hfr 7 (by omega)])
      exact hlt _ _ _
    | succ f ih =>
      intro at_ T hf hla hFT hold' hoth hfr
      have hat : at_ ≤ hi := by omega
      have e4 : T (4 + s) at_ = new at_ := by rw [hfr (4 + s) (by omega)]; exact hnew at_ (by omega)
      have e60 : T (60 + s) at_ = old at_ := by rw [hold' at_ (by omega), if_neg (by omega)]
      have hc := fd_to_cnt (old := old) (new := new) (s := s) (F := F) at_
      refine st_104_30 (rg_n (by omega)) hs (rg_n (by omega)) (rg_n (by omega)) ?_
      simp only [Int.toNat_natCast, e4, e60]
      refine ⟨fun g => by omega, fun _ => ⟨by omega, by omega, by omega, by omega, fun g => ?_, fun g => ?_⟩⟩
      · refine ih (at_ + 1) T (by omega) (by omega) ?_ (fun p hp => ?_) hoth hfr
        · unfold fd_to
          rw [if_pos g]
          exact hFT
        · rw [hold' p hp]
          by_cases e : p = at_
          · rw [e, if_neg (by omega), if_pos (by omega), g]
          · by_cases e2 : p < at_
            · rw [if_pos e2, if_pos (by omega)]
            · rw [if_neg e2, if_neg (by omega)]
      · refine (sp_ftell hFT (by omega) (by omega) hs (by omega) (hrn at_ (by omega))).V fun S8 _ h8 => ?_
        obtain ⟨k1, k2, k3⟩ := h8
        refine ih (at_ + 1) S8 (by omega) (by omega) ?_ (fun p hp => ?_) ?_ (fun k hk => by rw [k3 k hk]; exact hfr k hk)
        · unfold fd_to
          rw [if_neg g]
          exact k1
        · rw [k2 s hs p, hold' p hp]
          by_cases e : p = at_
          · rw [if_pos ⟨rfl, e⟩, e, if_pos (by omega)]
          · rw [if_neg (fun q => e q.2)]
            by_cases e2 : p < at_
            · rw [if_pos e2, if_pos (by omega)]
            · rw [if_neg e2, if_neg (by omega)]
        · funext q
          rw [k2 (1 - s) (by omega) q, if_neg (by omega), hoth]
  have e0 : fd_to old new s F lo = F := by
    have h := fd_to_same (old := old) (new := new) (s := s) (F := F) (k := 0) lo (fun p g1 g2 => Classical.byContradiction fun g3 => by
      have := hin p (by omega) g3
      omega)
    rw [Nat.zero_add] at h
    exact h
  exact loop (max lo (hi + 1) - lo) lo S (by omega) (Nat.le_refl _) (by rw [e0]; exact hF) (fun p hp => by
    rw [hold p hp]
    split
    · exact (Classical.byContradiction fun g3 => by
        have := hin p hp (fun e => g3 e.symm)
        omega)
    · rfl) rfl (fun _ _ => rfl)
theorem sp_tellAll {scr : Nat × (Nat → Int32)} {d N : Nat} {S F : sk_S} {A : ab} {old : Nat → Nat → Int} (hC : CI N S A) (hT : TD S old) (hF : FC S F) (h0 : 0 ≤ F 0 0) (h1 : F 0 0 < 2147000000) :
    EE scr (d + 3) 104 0 [some (.ref 55), some (.ref 2), none, none, none, none] S (pV fun S' => CI N S' A ∧ TD S' (fun s p => ab_lev A s p) ∧ FC S' (fd_pub old (fun s p => ab_lev A s p) F) ∧ ∀ k, k < 55 ∨ 61 < k → ¬ k = 6 → ¬ k = 7 → S' k = S k) := by
  obtain ⟨hR, hV, hL⟩ := hC
  refine st_104_0 (st_104_2 (rg_n (n := 0) (by omega)) ?_)
  refine ⟨fun g => absurd g (by decide), fun _ => ⟨by decide, by decide, ?_⟩⟩
  obtain ⟨a1, a2, a3, a4⟩ := hL 0 (by omega)
  obtain ⟨b1, b2, b3, b4⟩ := hL 1 (by omega)
  refine sp_tellSide (s := 0) (F := F) (old := old 0) (new := fun p => ab_lev A 0 p) (by omega) hF h0 (by omega) (fun p hp => hV 0 (by omega) p hp) (fun p hp => hT 0 (by omega) p hp) a1 a2 (fun p hp hne => a3 p hp (by rw [hV 0 (by omega) p hp, hT 0 (by omega) p hp]; exact hne)) a4.1 a4.2 ?_
  intro S1 f1 t1 o1 fr1 z6 z7 y6 y7 l3 l4 l5
  refine st_104_2 (rg_n (n := 1) (by omega)) ?_
  refine ⟨fun g => absurd g (by decide), fun _ => ⟨by decide, by decide, ?_⟩⟩
  have hc1 := fd_to_cnt (old := old 0) (new := fun p => ab_lev A 0 p) (s := 0) (F := F) 1000
  have y6' : S1 6 1 = S 6 1 := y6
  have y7' : S1 7 1 = S 7 1 := y7
  have e61 : S1 61 = S 61 := o1
  refine sp_tellSide (s := 1) (F := fd_to (old 0) (fun p => ab_lev A 0 p) 0 F 1000) (old := old 1) (new := fun p => ab_lev A 1 p) (by omega) f1 (by omega) (by omega) (fun p hp => by rw [fr1 (4 + 1) (by omega) (by omega) (by omega)]; exact hV 1 (by omega) p hp) (fun p hp => by rw [show (60 + 1 : Nat) = 61 from rfl, e61]; exact hT 1 (by omega) p hp) (by rw [y6']; exact b1) (by rw [y7']; exact b2) (fun p hp hne => by rw [y6', y7']; exact b3 p hp (by rw [hV 1 (by omega) p hp, hT 1 (by omega) p hp]; exact hne)) (by rw [y6']; exact b4.1) (by rw [y7']; exact b4.2) ?_
  intro S2 f2 t2 o2 fr2 x6 x7 w6 w7 l3' l4' l5'
  have w6' : S2 6 0 = S1 6 0 := w6
  have w7' : S2 7 0 = S1 7 0 := w7
  have e60 : S2 60 = S1 60 := o2
  refine st_104_2 (rg_n (n := 2) (by omega)) ?_
  refine ⟨fun _ => ⟨rfl, ?_⟩, fun g => absurd (by decide) g⟩
  have fr : ∀ k, k < 55 ∨ 61 < k → ¬ k = 6 → ¬ k = 7 → S2 k = S k := fun k k1 k2 k3 => by rw [fr2 k k1 k2 k3, fr1 k k1 k2 k3]
  have hT2 : TD S2 (fun s p => ab_lev A s p) := by
    intro t ht p hp
    rcases (show t = 0 ∨ t = 1 by omega) with e | e <;> subst e
    · rw [show (60 + 0 : Nat) = 60 from rfl, e60]
      exact t1 p hp
    · exact t2 p hp
  refine ⟨⟨hR.frame fun k k1 k2 => fr k (by omega) (by omega) (by omega), hV.frame (fun k hk => fr k (by omega) (by omega) (by omega)) (fun _ _ => rfl), fun t ht => ?_⟩, hT2, f2, fr⟩
  · have hsame : ∀ p : Nat, p < 1000 → S2 (4 + t) p = S2 (60 + t) p := fun p hp => by rw [fr (4 + t) (by omega) (by omega) (by omega), hT2 t ht p hp]; exact hV t ht p hp
    rcases (show t = 0 ∨ t = 1 by omega) with e | e <;> subst e
    · rw [w6', w7', z6, z7]
      exact ⟨by omega, by omega, fun p hp hne => absurd (hsame p hp) hne, by omega⟩
    · rw [x6, x7]
      exact ⟨by omega, by omega, fun p hp hne => absurd (hsame p hp) hne, by omega⟩
