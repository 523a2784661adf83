/-! 9h.ref5: the reference: sums over all orders; levels; the messages about them -/
def sumTo (g : Nat → Int) : Nat → Int
  | 0 => 0
  | n + 1 => sumTo g n + g n
theorem sumTo_congr {g h : Nat → Int} : ∀ n : Nat, (∀ i, i < n → g i = h i) → sumTo g n = sumTo h n := by
  intro n
  induction n with
  | zero => intro _; rfl
  | succ n ih =>
    intro hh
    show sumTo g n + g n = sumTo h n + h n
    rw [ih (fun i hi => hh i (by omega)), hh n (by omega)]
theorem sumTo_add {g h k : Nat → Int} : ∀ n : Nat, (∀ i, i < n → g i = h i + k i) → sumTo g n = sumTo h n + sumTo k n := by
  intro n
  induction n with
  | zero => intro _; rfl
  | succ n ih =>
    intro hh
    show sumTo g n + g n = (sumTo h n + h n) + (sumTo k n + k n)
    rw [ih (fun i hi => hh i (by omega)), hh n (by omega)]
    omega
theorem sumTo_bd {g : Nat → Int} {c : Int} : ∀ n : Nat, (∀ i, i < n → 0 ≤ g i ∧ g i ≤ c) → 0 ≤ c → 0 ≤ sumTo g n ∧ sumTo g n ≤ c * n := by
  intro n
  induction n with
  | zero => intro _ _; exact ⟨Int.le_refl _, by show (0 : Int) ≤ c * 0; omega⟩
  | succ n ih =>
    intro hh hc
    have a := ih (fun i hi => hh i (by omega)) hc
    have b := hh n (by omega)
    have e : c * ((n + 1 : Nat) : Int) = c * n + c := by rw [Int.natCast_add, Int.mul_add]; simp
    show 0 ≤ sumTo g n + g n ∧ sumTo g n + g n ≤ _
    rw [e]
    omega
theorem sum_to {f : Nat → Int} : ∀ (n : Nat) (l : List Nat), l.Nodup → (∀ x ∈ l, x < n) → (l.map f).sum = sumTo (fun i => if i ∈ l then f i else 0) n := by
  intro n
  induction n with
  | zero =>
    intro l _ h
    cases l with
    | nil => rfl
    | cons a l => exact absurd (h a List.mem_cons_self) (by omega)
  | succ n ih =>
    intro l hn h
    show _ = sumTo (fun i => if i ∈ l then f i else 0) n + (if n ∈ l then f n else 0)
    by_cases hm : n ∈ l
    · rw [if_pos hm, sum_out f hn hm, ih (l.filter fun j => decide (¬ j = n)) (hn.filter _) (fun x hx => by
        have h1 := List.mem_filter.mp hx
        have h2 := h x h1.1
        have h3 : ¬ x = n := of_decide_eq_true h1.2
        omega)]
      congr 1
      refine sumTo_congr n (fun i hi => ?_)
      have hne : ¬ i = n := by omega
      by_cases c : i ∈ l
      · rw [if_pos (List.mem_filter.mpr ⟨c, decide_eq_true hne⟩), if_pos c]
      · rw [if_neg (fun g => c (List.mem_filter.mp g).1), if_neg c]
    · rw [if_neg hm, Int.add_zero]
      refine ih l hn (fun x hx => ?_)
      have h2 := h x hx
      have h3 : ¬ x = n := fun e => hm (e ▸ hx)
      omega
theorem line_sum {N : Nat} {A : ab} (h : WFw N A) {s : Nat} (hs : s < 2) (f : Nat → Int) : ((A.2 s).map f).sum = sumTo (fun i => if A.1 3 i = 1 ∧ A.1 1 i = (s : Int) then f i else 0) N := by
  obtain ⟨c0, c1, c2⟩ := h.2.2 s hs
  rw [sum_to N (A.2 s) c0 (fun x hx => ((c1 x).mp hx).1)]
  refine sumTo_congr N (fun i hi => ?_)
  by_cases c : i ∈ A.2 s
  · rw [if_pos c, if_pos ((c1 i).mp c).2]
  · rw [if_neg c, if_neg (fun g => c ((c1 i).mpr ⟨hi, g⟩))]
/-- what the first n orders show at a level -/
def levTo (A : ab) (s : Nat) (p : Int) (n : Nat) : Int := sumTo (fun i => if A.1 3 i = 1 ∧ A.1 1 i = (s : Int) then (if A.1 5 i = p then A.1 7 i else 0) else 0) n
theorem lev_to {N : Nat} {A : ab} (h : WFw N A) {s : Nat} (hs : s < 2) (p : Int) : ab_lev A s p = levTo A s p N := line_sum h hs _
theorem levTo_bd {N : Nat} {A : ab} (h : WFw N A) {s n : Nat} {p : Int} (hn : n ≤ N) : 0 ≤ levTo A s p n ∧ levTo A s p n ≤ 1000 * n := by
  refine sumTo_bd n (fun i hi => ?_) (by omega)
  have := (h.2.1 i (by omega)).2.2.1
  split
  · split <;> omega
  · omega
theorem RM.n {N : Nat} {S : sk_S} {A : ab} (h : RM 0 N S A) (hn : A.1 8 0 = N) : S 67 3 = N := by
  have := h.1.1
  rw [show 16 * 0 + 3 = 3 by omega] at this
  rw [this, hn]
theorem rp_level {scr : Nat × (Nat → Int32)} {d N s : Nat} {m p : Int} {S : sk_S} {A : ab} (hR : RM 0 N S A) (hW : WS N m A) (hs : s < 2) (hp : rg p) :
    EE scr d 58 0 [some (.ref 66), some (vi s), some (vi p), none, none] S (pI fun x S' => S' = S ∧ x = ab_lev A s p) := by
  have hN := hW.2.1.1
  have e3 := hR.n hW.1
  rw [lev_to hW.2.1 hs]
  have loop : ∀ f n : Nat, n + f = N → EE scr d 58 5 [some (.ref 66), some (vi s), some (vi p), some (vi (levTo A s p n)), some (vi n)] S (pI fun x S' => S' = S ∧ x = levTo A s p N) := by
    intro f
    induction f with
    | zero =>
      intro n hn
      have hb := levTo_bd (s := s) (p := p) hW.2.1 (n := n) (by omega)
      refine st_58_5 (rg_n (by omega)) hp (rg_b (by omega) (by omega)) (rg_n (by omega)) ?_
      rw [e3]
      exact ⟨fun _ => ⟨_, rfl, rfl, by rw [show n = N by omega]⟩, fun g => by omega⟩
    | succ f ih =>
      intro n hn
      have hb := levTo_bd (s := s) (p := p) hW.2.1 (n := n) (by omega)
      have e72 : S 72 n = A.1 3 n := hR.c (c := 3) (by omega) (by omega)
      have e69 : S 69 n = A.1 1 n := hR.c (c := 1) (by omega) (by omega)
      have e73 : S 73 n = A.1 5 n := hR.c (c := 5) (by omega) (by omega)
      have e75 : S 75 n = A.1 7 n := hR.c (c := 7) (by omega) (by omega)
      have h := ih (n + 1) (by omega)
      have es : levTo A s p (n + 1) = levTo A s p n + (if A.1 3 n = 1 ∧ A.1 1 n = (s : Int) then (if A.1 5 n = p then A.1 7 n else 0) else 0) := rfl
      rw [es] at h
      refine st_58_5 (rg_n (by omega)) hp (rg_b (by omega) (by omega)) (rg_n (by omega)) ?_
      simp only [Int.toNat_natCast, e3, e72, e69, e73, e75]
      refine ⟨fun g => by omega, fun _ => ⟨by omega, by omega, fun g => ?_, fun g => ⟨fun g2 => ?_, fun g2 => ⟨fun g3 => ?_, fun g3 => ?_⟩⟩⟩⟩
      · rw [if_neg (fun q => g q.1)] at h
        exact h
      · rw [if_neg (fun q => g2 q.2)] at h
        exact h
      · rw [if_pos ⟨g, g2⟩, if_neg g3] at h
        exact h
      · rw [if_pos ⟨g, g2⟩, if_pos g3] at h
        exact h
  exact st_58_0 (rg_n (by omega)) hp (loop N 0 (by omega))
/-- one cell among two thousand -/
theorem cell_eq {s t p q : Nat} (hp : p < 1000) (hq : q < 1000) : 1000 * s + p = 1000 * t + q ↔ s = t ∧ p = q := by omega
theorem WFw.at {N : Nat} {A : ab} (h : WFw N A) {n : Nat} (hn : n < N) (hst : A.1 3 n = 1) : ∃ t q : Nat, t < 2 ∧ q < 1000 ∧ A.1 1 n = t ∧ A.1 5 n = q ∧ (1000 * A.1 1 n + A.1 5 n).toNat = 1000 * t + q ∧ (0 ≤ 1000 * A.1 1 n + A.1 5 n ∧ 1000 * A.1 1 n + A.1 5 n < 2000) := by
  obtain ⟨t, ht, e⟩ := h.side hn
  have hp := (h.2.1 n hn).2.2.2.1 hst
  exact ⟨t, (A.1 5 n).toNat, ht, by omega, e, by omega, by omega, by omega⟩
theorem rp_look {scr : Nat × (Nat → Int32)} {d N : Nat} {m : Int} {S : sk_S} {A : ab} (hR : RM 0 N S A) (hW : WS N m A) :
    EE scr d 59 0 [some (.ref 66), none] S (pV fun S' => (∀ s, s < 2 → ∀ p, p < 1000 → S' 80 (1000 * s + p) = ab_lev A s p) ∧ ∀ k, ¬ k = 80 → S' k = S k) := by
  have hN := hW.2.1.1
  have loop2 : ∀ (f n : Nat) (T : sk_S), n + f = N → (∀ s, s < 2 → ∀ p : Nat, p < 1000 → T 80 (1000 * s + p) = levTo A s p n) → (∀ k, ¬ k = 80 → T k = S k) → EE scr d 59 24 [some (.ref 66), some (vi n)] T (pV fun S' => (∀ s, s < 2 → ∀ p, p < 1000 → S' 80 (1000 * s + p) = ab_lev A s p) ∧ ∀ k, ¬ k = 80 → S' k = S k) := by
    intro f
    induction f with
    | zero =>
      intro n T hn hT hf
      refine st_59_24 (rg_n (by omega)) ?_
      rw [hf 67 (by omega), hR.n hW.1]
      refine ⟨fun _ => ⟨rfl, fun s hs p hp => ?_, hf⟩, fun g => by omega⟩
      rw [hT s hs p hp, lev_to hW.2.1 hs, show n = N by omega]
    | succ f ih =>
      intro n T hn hT hf
      have e72 : T 72 n = A.1 3 n := by rw [hf 72 (by omega)]; exact hR.c (c := 3) (by omega) (by omega)
      have e69 : T 69 n = A.1 1 n := by rw [hf 69 (by omega)]; exact hR.c (c := 1) (by omega) (by omega)
      have e73 : T 73 n = A.1 5 n := by rw [hf 73 (by omega)]; exact hR.c (c := 5) (by omega) (by omega)
      have e75 : T 75 n = A.1 7 n := by rw [hf 75 (by omega)]; exact hR.c (c := 7) (by omega) (by omega)
      have es : ∀ s p, levTo A s p (n + 1) = levTo A s p n + (if A.1 3 n = 1 ∧ A.1 1 n = (s : Int) then (if A.1 5 n = p then A.1 7 n else 0) else 0) := fun _ _ => rfl
      refine st_59_24 (rg_n (by omega)) ?_
      simp only [Int.toNat_natCast, e72, e69, e73, e75]
      rw [hf 67 (by omega), hR.n hW.1]
      refine ⟨fun g => by omega, fun _ => ⟨by omega, by omega, fun g => ?_, fun g => ?_⟩⟩
      · exact ih (n + 1) T (by omega) (fun s hs p hp => by rw [hT s hs p hp, es, if_neg (fun q => g q.1), Int.add_zero]) hf
      · obtain ⟨t, q, ht, hq, e1, e5, ec, eb⟩ := hW.2.1.at (show n < N by omega) g
        have hb := levTo_bd (s := t) (p := q) hW.2.1 (n := n) (by omega)
        have h7 := (hW.2.1.2.1 n (by omega)).2.2.1
        rw [ec, hT t ht q hq]
        refine ⟨eb.1, eb.2, rg_b (by omega) (by omega), fun S3 q3 => ih (n + 1) S3 (by omega) (fun s hs p hp => ?_) (fun k hk => by rw [q3, sk_u_ne hk]; exact hf k hk)⟩
        rw [q3, sk_u_get, es]
        by_cases c : s = t ∧ p = q
        · rw [if_pos ⟨rfl, (cell_eq hp hq).mpr c⟩, if_pos ⟨g, by omega⟩, if_pos (by omega), c.1, c.2]
        · rw [if_neg (fun x => c ((cell_eq hp hq).mp x.2)), hT s hs p hp]
          by_cases c2 : A.1 1 n = (s : Int)
          · rw [if_pos ⟨g, c2⟩, if_neg (by omega), Int.add_zero]
          · rw [if_neg (fun x => c2 x.2), Int.add_zero]
  have loop1 : ∀ (f n : Nat) (T : sk_S), n + f = 2000 → (∀ j, j < n → T 80 j = 0) → (∀ k, ¬ k = 80 → T k = S k) → EE scr d 59 2 [some (.ref 66), some (vi n)] T (pV fun S' => (∀ s, s < 2 → ∀ p, p < 1000 → S' 80 (1000 * s + p) = ab_lev A s p) ∧ ∀ k, ¬ k = 80 → S' k = S k) := by
    intro f
    induction f with
    | zero =>
      intro n T hn hT hf
      refine st_59_2 (rg_n (by omega)) ⟨fun _ => ?_, fun g => by omega⟩
      exact loop2 N 0 T (by omega) (fun s hs p hp => hT _ (by omega)) hf
    | succ f ih =>
      intro n T hn hT hf
      refine st_59_2 (rg_n (by omega)) ⟨fun g => by omega, fun _ => ⟨by omega, by omega, fun S2 q2 => ?_⟩⟩
      simp only [Int.toNat_natCast] at q2
      refine ih (n + 1) S2 (by omega) (fun j hj => ?_) (fun k hk => by rw [q2, sk_u_ne hk]; exact hf k hk)
      rw [q2, sk_u_get]
      split
      · rfl
      · exact hT j (by omega)
  exact st_59_0 (loop1 2000 0 S (by omega) (fun j hj => by omega) (fun _ _ => rfl))
/-- the reference's feed -/
def FM (S F : sk_S) : Prop := S 66 22 = F 0 0 ∧ ∀ j, j < 64 → S 82 j = 1000 * F 1 j + F 2 j ∧ S 83 j = F 3 j
theorem FM.frame {S S' F : sk_S} (h : FM S F) (h66 : S' 66 22 = S 66 22) (h82 : S' 82 = S 82) (h83 : S' 83 = S 83) : FM S' F := by
  refine ⟨by rw [h66]; exact h.1, fun j hj => ?_⟩
  rw [h82, h83]
  exact h.2 j hj
theorem rp_pubSide {scr : Nat × (Nat → Int32)} {d N s : Nat} {m : Int} {S F : sk_S} {A : ab} {old : Nat → Int} {Post : Option Int → sk_S → Prop} (hs : s < 2) (hR : RM 0 N S A) (hW : WS N m A) (h80 : ∀ p : Nat, p < 1000 → S 80 (1000 * s + p) = old p - ab_lev A s p) (hF : FM S F) (h0 : 0 ≤ F 0 0) (h1 : F 0 0 < 2147400000)
    (kk : ∀ S' : sk_S, FM S' (fd_to old (fun p => ab_lev A s p) s F 1000) → (∀ k, ¬ k = 66 → ¬ k = 82 → ¬ k = 83 → S' k = S k) → (∀ j, ¬ j = 22 → S' 66 j = S 66 j) → EE scr (d + 1) 60 61 [some (.ref 66), some (vi (1000 * (s + 1) : Nat))] S' Post) :
    EE scr (d + 1) 60 61 [some (.ref 66), some (vi (1000 * s : Nat))] S Post := by
  have hN := hW.2.1.1
  have loop : ∀ (f n : Nat) (T : sk_S), n + f = 1000 → FM T (fd_to old (fun p => ab_lev A s p) s F n) → (∀ k, ¬ k = 66 → ¬ k = 82 → ¬ k = 83 → T k = S k) → (∀ j, ¬ j = 22 → T 66 j = S 66 j) → EE scr (d + 1) 60 61 [some (.ref 66), some (vi (1000 * s + n : Nat))] T Post := by
    intro f
    induction f with
    | zero =>
      intro n T hn hT hf hg
      rw [show n = 1000 by omega] at hT
      have := kk T hT hf hg
      rw [show 1000 * (s + 1) = 1000 * s + n by omega] at this
      exact this
    | succ f ih =>
      intro n T hn hT hf hg
      have e80 : T 80 (1000 * s + n) = old n - ab_lev A s n := by rw [hf 80 (by omega) (by omega) (by omega)]; exact h80 n (by omega)
      have hc := fd_to_cnt (old := old) (new := fun p => ab_lev A s p) (s := s) (F := F) n
      have hnn : ((1000 * s + n : Nat) : Int) + 1 = ((1000 * s + (n + 1) : Nat) : Int) := by omega
      refine st_60_61 (rg_n (by omega)) ⟨fun g => by omega, fun _ => ⟨by omega, by omega, ?_⟩⟩
      rw [hnn]
      simp only [Int.toNat_natCast, e80]
      refine ⟨fun g => ih (n + 1) T (by omega) ?_ hf hg, fun g => ?_⟩
      · unfold fd_to
        rw [if_pos (by omega)]
        exact hT
      · have e22 := hT.1
        rw [e22]
        refine ⟨by omega, by omega, by omega, fun S3 q3 => ?_⟩
        have x22 : S3 66 22 = fd_to old (fun p => ab_lev A s p) s F n 0 0 := by rw [q3, sk_u_ne (by omega)]; exact e22
        rw [x22]
        refine ⟨by omega, ?_⟩
        have hR3 : RM 0 N S3 A := hR.frame fun q a b _ => by rw [q3, sk_u_ne (by omega)]; exact hf q (by omega) (by omega) (by omega)
        have ed : ((1000 * s + n : Nat) : Int) / 1000 = (s : Int) := by omega
        have em : ((1000 * s + n : Nat) : Int) % 1000 = (n : Int) := by omega
        rw [ed, em]
        refine (rp_level hR3 hW hs (rg_n (by omega))).I fun y S6 _ _ hy _ => ?_
        obtain ⟨rfl, rfl⟩ := hy
        refine ⟨by omega, by omega, fun S11 q11 => ?_⟩
        have y22 : S11 66 22 = fd_to old (fun p => ab_lev A s p) s F n 0 0 := by rw [q11, sk_u_ne (by omega)]; exact x22
        rw [y22]
        refine ⟨rg_b (by omega) (by omega), fun S14 q14 => ih (n + 1) S14 (by omega) ⟨?_, fun j hj => ?_⟩ (fun k a b c => by rw [q14, sk_u_ne a, q11, sk_u_ne c, q3, sk_u_ne b]; exact hf k a b c) (fun j hj => by rw [q14, sk_u_nj hj, q11, sk_u_ne (by omega), q3, sk_u_ne (by omega)]; exact hg j hj)⟩
        · have hne : ¬ ab_lev A s n = old n := by omega
          show _ = (if ab_lev A s n = old n then _ else fd_msg (fd_to old (fun p => ab_lev A s p) s F n) s n (ab_lev A s n)) 0 0
          rw [if_neg hne, fd_msg_cnt, q14, sk_u_at]
        · have hne : ¬ ab_lev A s n = old n := by omega
          obtain ⟨b1, b2⟩ := hT.2 j hj
          have em2 : fd_to old (fun p => ab_lev A s p) s F (n + 1) = fd_msg (fd_to old (fun p => ab_lev A s p) s F n) s n (ab_lev A s n) := by
            show (if ab_lev A s n = old n then _ else _) = _
            rw [if_neg hne]
          rw [em2]
          generalize hFF : fd_to old (fun p => ab_lev A s p) s F n = FF at *
          unfold fd_msg
          refine ⟨?_, ?_⟩
          · rw [q14, sk_u_ne (by omega), q11, sk_u_ne (by omega), q3, sk_u_get, sk_u_ne (k := 0) (by omega), sk_u_ne (k := 3) (by omega), sk_u_ne (k := 2) (by omega), sk_u_get, sk_u_ne (k := 0) (k' := 2) (by omega), sk_u_ne (k := 3) (k' := 2) (by omega), sk_u_get, sk_u_ne (k := 1) (k' := 2) (by omega)]
            by_cases c : j = (FF 0 0 % 64).toNat
            · rw [if_pos ⟨rfl, c⟩, if_pos ⟨rfl, c⟩, if_pos ⟨rfl, c⟩]
              omega
            · rw [if_neg (fun g => c g.2), if_neg (fun g => c g.2), if_neg (fun g => c g.2)]
              exact b1
          · rw [q14, sk_u_ne (by omega), q11, sk_u_get, q3, sk_u_ne (k := 82) (by omega), sk_u_ne (k := 0) (by omega), sk_u_get, sk_u_ne (k := 2) (by omega), sk_u_ne (k := 1) (by omega)]
            by_cases c : j = (FF 0 0 % 64).toNat
            · rw [if_pos ⟨rfl, c⟩, if_pos ⟨rfl, c⟩]
            · rw [if_neg (fun g => c g.2), if_neg (fun g => c g.2)]
              exact b2
  exact loop 1000 0 S (by omega) hF (fun _ _ _ _ => rfl) (fun _ _ => rfl)
theorem rp_publish {scr : Nat × (Nat → Int32)} {d N : Nat} {m : Int} {S F : sk_S} {A : ab} {old : Nat → Nat → Int} (hR : RM 0 N S A) (hW : WS N m A) (h80 : ∀ s, s < 2 → ∀ p : Nat, p < 1000 → S 80 (1000 * s + p) = old s p) (hob : ∀ s, s < 2 → ∀ p : Nat, p < 1000 → 0 ≤ old s p ∧ old s p ≤ 40000) (hF : FM S F) (h0 : 0 ≤ F 0 0) (h1 : F 0 0 < 2147000000) :
    EE scr (d + 1) 60 0 [some (.ref 66), none] S (pV fun S' => FM S' (fd_pub old (ab_lv A) F) ∧ (∀ k, ¬ k = 66 → ¬ k = 80 → ¬ k = 82 → ¬ k = 83 → S' k = S k) ∧ (∀ j, ¬ j = 22 → S' 66 j = S 66 j)) := by
  have hN := hW.2.1.1
  have loop : ∀ (f n : Nat) (T : sk_S), n + f = N → (∀ s, s < 2 → ∀ p : Nat, p < 1000 → T 80 (1000 * s + p) = old s p - levTo A s p n) → (∀ k, ¬ k = 80 → T k = S k) → EE scr (d + 1) 60 2 [some (.ref 66), some (vi n)] T (pV fun S' => FM S' (fd_pub old (ab_lv A) F) ∧ (∀ k, ¬ k = 66 → ¬ k = 80 → ¬ k = 82 → ¬ k = 83 → S' k = S k) ∧ (∀ j, ¬ j = 22 → S' 66 j = S 66 j)) := by
    intro f
    induction f with
    | zero =>
      intro n T hn hT hf
      refine st_60_2 (rg_n (by omega)) ?_
      rw [hf 67 (by omega), hR.n hW.1]
      refine ⟨fun _ => ?_, fun g => by omega⟩
      have hRT : RM 0 N T A := hR.frame fun q a b _ => hf q (by omega)
      have h8 : ∀ s, s < 2 → ∀ p : Nat, p < 1000 → T 80 (1000 * s + p) = old s p - ab_lev A s p := fun s hs p hp => by rw [hT s hs p hp, lev_to hW.2.1 hs, show n = N by omega]
      have hc := fd_to_cnt (old := old 0) (new := fun p => ab_lev A 0 p) (s := 0) (F := F) 1000
      refine rp_pubSide (s := 0) (old := old 0) (by omega) hRT hW (h8 0 (by omega)) (hF.frame (by rw [hf 66 (by omega)]) (hf 82 (by omega)) (hf 83 (by omega))) h0 (by omega) (fun S1 f1 g1 k1 => ?_)
      have hR1 : RM 0 N S1 A := hRT.frame fun q a b _ => g1 q (by omega) (by omega) (by omega)
      refine rp_pubSide (s := 1) (old := old 1) (F := fd_to (old 0) (fun p => ab_lev A 0 p) 0 F 1000) (by omega) hR1 hW (fun p hp => by rw [g1 80 (by omega) (by omega) (by omega)]; exact h8 1 (by omega) p hp) f1 (by omega) (by omega) (fun S2 f2 g2 k2 => ?_)
      refine st_60_61 (rg_n (by omega)) ⟨fun _ => ⟨rfl, f2, fun k a b c e => ?_, fun j hj => ?_⟩, fun g => by omega⟩
      · rw [g2 k a c e, g1 k a c e, hf k b]
      · rw [k2 j hj, k1 j hj, hf 66 (by omega)]
    | succ f ih =>
      intro n T hn hT hf
      have e72 : T 72 n = A.1 3 n := by rw [hf 72 (by omega)]; exact hR.c (c := 3) (by omega) (by omega)
      have e69 : T 69 n = A.1 1 n := by rw [hf 69 (by omega)]; exact hR.c (c := 1) (by omega) (by omega)
      have e73 : T 73 n = A.1 5 n := by rw [hf 73 (by omega)]; exact hR.c (c := 5) (by omega) (by omega)
      have e75 : T 75 n = A.1 7 n := by rw [hf 75 (by omega)]; exact hR.c (c := 7) (by omega) (by omega)
      have es : ∀ s p, levTo A s p (n + 1) = levTo A s p n + (if A.1 3 n = 1 ∧ A.1 1 n = (s : Int) then (if A.1 5 n = p then A.1 7 n else 0) else 0) := fun _ _ => rfl
      refine st_60_2 (rg_n (by omega)) ?_
      simp only [Int.toNat_natCast, e72, e69, e73, e75]
      rw [hf 67 (by omega), hR.n hW.1]
      refine ⟨fun g => by omega, fun _ => ⟨by omega, by omega, fun g => ?_, fun g => ?_⟩⟩
      · exact ih (n + 1) T (by omega) (fun s hs p hp => by rw [hT s hs p hp, es, if_neg (fun q => g q.1), Int.add_zero]) hf
      · obtain ⟨t, q, ht, hq, e1, e5, ec, eb⟩ := hW.2.1.at (show n < N by omega) g
        have hb := levTo_bd (s := t) (p := q) hW.2.1 (n := n) (by omega)
        have ho := hob t ht q hq
        have h7 := (hW.2.1.2.1 n (by omega)).2.2.1
        rw [ec, hT t ht q hq]
        refine ⟨eb.1, eb.2, rg_b (by omega) (by omega), fun S3 q3 => ih (n + 1) S3 (by omega) (fun s hs p hp => ?_) (fun k hk => by rw [q3, sk_u_ne hk]; exact hf k hk)⟩
        rw [q3, sk_u_get, es]
        by_cases c : s = t ∧ p = q
        · rw [if_pos ⟨rfl, (cell_eq hp hq).mpr c⟩, if_pos ⟨g, by omega⟩, if_pos (by omega), c.1, c.2]
          omega
        · rw [if_neg (fun x => c ((cell_eq hp hq).mp x.2)), hT s hs p hp]
          by_cases c2 : A.1 1 n = (s : Int)
          · rw [if_pos ⟨g, c2⟩, if_neg (by omega), Int.add_zero]
          · rw [if_neg (fun x => c2 x.2), Int.add_zero]
  refine st_60_0 (loop N 0 S (by omega) (fun s hs p hp => ?_) (fun _ _ => rfl))
  rw [h80 s hs p hp]
  have : levTo A s p 0 = 0 := rfl
  omega
