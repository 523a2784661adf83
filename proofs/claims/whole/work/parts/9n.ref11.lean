/-! 9n.ref11: the reference: about, take, refresh -/
theorem MX.le {band b b' : Int} {W : wd} {S : sk_S} (h : MX band b W S) (hb : b ≤ b') : MX band b' W S := ⟨h.1.le hb, h.2⟩
theorem pos_sum {R : Nat → Bool} {i : Nat} : ∀ l1 l2 : List Nat, (∀ x ∈ l1, R x = true) → R i = false → (∀ x ∈ l2, R x = false) → ((l1 ++ i :: l2).map fun x => if R x = true then (1 : Int) else 0).sum = l1.length := by
  intro l1
  induction l1 with
  | nil =>
    intro l2 _ h1 h2
    rw [List.nil_append, List.map_cons, List.sum_cons, if_neg (by rw [h1]; decide)]
    have : (l2.map fun x => if R x = true then (1 : Int) else 0).sum = 0 := by
      clear h1
      induction l2 with
      | nil => rfl
      | cons a l ih =>
        rw [List.map_cons, List.sum_cons, if_neg (by rw [h2 a List.mem_cons_self]; decide), ih (fun x hx => h2 x (List.mem_cons_of_mem _ hx))]
        rfl
    rw [this]
    rfl
  | cons a l1 ih =>
    intro l2 h0 h1 h2
    rw [List.cons_append, List.map_cons, List.sum_cons, if_pos (h0 a List.mem_cons_self), ih l2 (fun x hx => h0 x (List.mem_cons_of_mem _ hx)) h1 h2, List.length_cons]
    omega
theorem rp_place {scr : Nat × (Nat → Int32)} {d N i s : Nat} {m : Int} {S : sk_S} {A : ab} (hR : RM 0 N S A) (hK : RK 0 S A) (hW : WS N m A) (hi : i < N) (hst : A.1 3 i = 1) (hs : s < 2) (hsd : A.1 1 i = s) :
    EE scr (d + 1) 78 0 [some (.ref 66), some (vi i), none, none] S (pI fun x S' => S' = S ∧ x = (ab_pos i (A.2 s) : Int)) := by
  have hN := hW.2.1.1
  have e3 := hR.n hW.1
  obtain ⟨c0, c1, c2⟩ := hW.2.1.2.2 s hs
  have him : i ∈ A.2 s := (c1 i).mpr ⟨hi, hst, hsd⟩
  obtain ⟨k, hk⟩ := List.mem_iff_getElem?.mp him
  have hpos : ab_pos i (A.2 s) = k := pos_at (A.2 s) k hk (fun j hj h => by
    have := hK.uniq hs h hk
    omega)
  have hsum : sumTo (fun x => if A.1 3 x = 1 ∧ A.1 1 x = (s : Int) then (if Rr S 0 A s x i = true then (1 : Int) else 0) else 0) N = (ab_pos i (A.2 s) : Int) := by
    rw [← line_sum hW.2.1 hs, hpos]
    obtain ⟨t1, t2⟩ := take_drop_at hk
    have hsplit : A.2 s = (A.2 s).take k ++ i :: (A.2 s).drop (k + 1) := by rw [← t2, List.take_append_drop]
    have hlen : ((A.2 s).take k).length = k := by
      have := (List.getElem?_eq_some_iff.mp hk).1
      rw [List.length_take]
      omega
    rw [hsplit, pos_sum (R := fun x => Rr S 0 A s x i) ((A.2 s).take k) ((A.2 s).drop (k + 1)) (fun x hx => ?_) Rr_irr (fun x hx => ?_), hlen]
    · obtain ⟨j, hj, hx'⟩ := mem_take_lt hx
      exact (hK.at hs hx' hk).mpr hj
    · obtain ⟨j, hj, hx'⟩ := mem_drop_ge hx
      have := (hK.at hs hx' hk)
      exact Bool.eq_false_iff.mpr (fun h => by have := this.mp h; omega)
  rw [← hsum]
  have e69i : S 69 i = s := (hR.c (c := 1) (by omega) hi).trans hsd
  have bd : ∀ n, n ≤ N → 0 ≤ sumTo (fun x => if A.1 3 x = 1 ∧ A.1 1 x = (s : Int) then (if Rr S 0 A s x i = true then (1 : Int) else 0) else 0) n ∧ sumTo (fun x => if A.1 3 x = 1 ∧ A.1 1 x = (s : Int) then (if Rr S 0 A s x i = true then (1 : Int) else 0) else 0) n ≤ 1 * n := fun n _ => sumTo_bd n (fun x _ => by
    split
    · split <;> omega
    · omega) (by omega)
  have loop : ∀ f n : Nat, n + f = N → EE scr (d + 1) 78 4 [some (.ref 66), some (vi i), some (vi (sumTo (fun x => if A.1 3 x = 1 ∧ A.1 1 x = (s : Int) then (if Rr S 0 A s x i = true then (1 : Int) else 0) else 0) n)), some (vi n)] S (pI fun x S' => S' = S ∧ x = sumTo (fun x => if A.1 3 x = 1 ∧ A.1 1 x = (s : Int) then (if Rr S 0 A s x i = true then (1 : Int) else 0) else 0) N) := by
    intro f
    induction f with
    | zero =>
      intro n hn
      have hb := bd n (by omega)
      refine st_78_4 (rg_n (by omega)) (rg_b (by omega) (by omega)) (rg_n (by omega)) ?_
      rw [e3]
      exact ⟨fun _ => ⟨_, rfl, rfl, by rw [show n = N by omega]⟩, fun g => by omega⟩
    | succ f ih =>
      intro n hn
      have hb := bd n (by omega)
      have e72 : S 72 n = A.1 3 n := hR.c (c := 3) (by omega) (by omega)
      have e69 : S 69 n = A.1 1 n := hR.c (c := 1) (by omega) (by omega)
      have h := ih (n + 1) (by omega)
      have es : sumTo (fun x => if A.1 3 x = 1 ∧ A.1 1 x = (s : Int) then (if Rr S 0 A s x i = true then (1 : Int) else 0) else 0) (n + 1) = sumTo (fun x => if A.1 3 x = 1 ∧ A.1 1 x = (s : Int) then (if Rr S 0 A s x i = true then (1 : Int) else 0) else 0) n + (if A.1 3 n = 1 ∧ A.1 1 n = (s : Int) then (if Rr S 0 A s n i = true then (1 : Int) else 0) else 0) := rfl
      rw [es] at h
      refine st_78_4 (rg_n (by omega)) (rg_b (by omega) (by omega)) (rg_n (by omega)) ?_
      simp only [Int.toNat_natCast, e3, e72, e69, e69i]
      refine ⟨fun g => by omega, fun _ => ⟨by omega, by omega, fun g => ?_, fun g => ⟨by omega, by omega, fun g2 => ?_, fun g2 => ⟨fun g3 => ?_, fun g3 => ?_⟩⟩⟩⟩
      · rw [if_neg (fun q => g q.1)] at h
        exact h
      · rw [if_neg (fun q => g2 q.2)] at h
        exact h
      · have e : n = i := by omega
        rw [if_pos ⟨g, g2⟩, e, Rr_irr, if_neg (by decide)] at h
        rw [e]
        exact h
      · refine (rp_ahead hR hN (by omega) hi hs g2).I fun y S5 _ _ hy _ => ?_
        obtain ⟨rfl, rfl⟩ := hy
        rw [if_pos ⟨g, g2⟩] at h
        by_cases c : Rr S5 0 A s n i = true
        · rw [if_pos c] at h ⊢
          exact ⟨fun q => by omega, fun _ => h⟩
        · rw [if_neg c] at h ⊢
          exact ⟨fun _ => h, fun q => absurd rfl q⟩
  exact st_78_0 (rg_n (by omega)) (loop N 0 (by omega))
theorem mx_about {scr : Nat × (Nat → Int32)} {d : Nat} {band b o k c : Int} {W : wd} {S : sk_S} (hX : MX band b W S) (hW : WW c W) (ho : rg o) (hk : rg k) :
    EE scr (d + 2) 79 0 [some (.ref 66), some (vi o), some (vi k)] S (pI fun x S' => x = wd_about W o k ∧ MX band b W S' ∧ FB S S') := by
  have hA := hW.1
  have hN := hA.1.2.1.1
  refine st_79_0 ho hk ?_
  rw [hX.1.1.n hA.1.1]
  refine (rp_in ho (rg_b (by omega) (by omega)) (rg_b (by omega) (by omega))).I fun y S1 _ _ hy _ => ?_
  obtain ⟨rfl, rfl⟩ := hy
  unfold wd_about
  by_cases c : 0 ≤ o ∧ o < (ab_n W.1 : Int)
  · rw [if_pos (show 0 ≤ o ∧ o ≤ (ab_n W.1 : Int) - 1 by omega), if_pos c]
    obtain ⟨i, rfl⟩ : ∃ i : Nat, o = i := ⟨o.toNat, by omega⟩
    have hi : i < ab_n W.1 := by omega
    simp only [Int.toNat_natCast]
    have e3 : S1 72 i = W.1.1 3 i := hX.1.1.c (c := 3) (by omega) hi
    have e4 : S1 71 i = W.1.1 4 i := hX.1.1.c (c := 4) (by omega) hi
    have e5 : S1 73 i = W.1.1 5 i := hX.1.1.c (c := 5) (by omega) hi
    have e7 : S1 75 i = W.1.1 7 i := hX.1.1.c (c := 7) (by omega) hi
    have e0 : S1 68 i = W.1.1 0 i := hX.1.1.c (c := 0) (by omega) hi
    rw [e3, e4, e5, e7, e0]
    refine ⟨fun _ => ⟨fun g => ?_, fun g => ⟨by omega, by omega, ?_⟩, fun g => ⟨by omega, by omega, ?_⟩, fun g => ⟨by omega, by omega, ?_⟩, fun g => ⟨by omega, by omega, ?_⟩, fun g => ⟨by omega, by omega, ?_⟩, fun g => ⟨by omega, by omega, ?_⟩⟩, fun g => by omega⟩
    · refine ⟨_, rfl, ?_, hX, fun _ _ => rfl⟩
      rw [if_neg (by omega), if_neg (by omega), if_neg (by omega), if_neg (by omega), if_neg (by omega), if_neg (by omega)]
    · subst g
      exact ⟨_, rfl, rfl, hX, fun _ _ => rfl⟩
    · subst g
      exact ⟨_, rfl, rfl, hX, fun _ _ => rfl⟩
    · subst g
      refine ⟨fun g => ⟨_, rfl, ?_, hX, fun _ _ => rfl⟩, fun g => ⟨_, rfl, ?_, hX, fun _ _ => rfl⟩⟩
      · rw [if_neg (by omega), if_neg (by omega), if_pos rfl, if_neg g]
      · rw [if_neg (by omega), if_neg (by omega), if_pos rfl, if_pos g]
    · subst g
      exact ⟨_, rfl, rfl, hX, fun _ _ => rfl⟩
    · subst g
      exact ⟨_, rfl, rfl, hX, fun _ _ => rfl⟩
    · subst g
      rw [if_neg (by omega), if_neg (by omega), if_neg (by omega), if_neg (by omega), if_neg (by omega), if_pos rfl]
      refine ⟨fun g => ⟨_, rfl, ?_, hX, fun _ _ => rfl⟩, fun g => ?_⟩
      · rw [if_neg g]
      · rw [if_pos g]
        obtain ⟨s, hs, hsd⟩ := hA.1.2.1.side hi
        rw [ab_sd_of hsd]
        refine (rp_place hX.1.1 hX.1.2.1 hA.1 hi g hs hsd).I fun y S10 _ _ hy _ => ?_
        obtain ⟨rfl, rfl⟩ := hy
        exact ⟨_, rfl, rfl, hX, fun _ _ => rfl⟩
  · rw [if_neg (show ¬ (0 ≤ o ∧ o ≤ (ab_n W.1 : Int) - 1) by omega), if_neg c]
    exact ⟨fun g => absurd rfl g, fun _ => ⟨_, rfl, rfl, hX, fun _ _ => rfl⟩⟩
theorem mx_take {scr : Nat × (Nat → Int32)} {d : Nat} {band b x c : Int} {W : wd} {S : sk_S} (hX : MX band b W S) (hW : WW c W) (hc : c ≤ 600) (hx : rg x) :
    EE scr d 83 0 [some (.ref 66), some (vi x)] S (pI fun y S' => y = (wd_take W x).1 ∧ MX band (b + 50000) (wd_take W x).2 S' ∧ FB S S') := by
  obtain ⟨hf0, hf1, hf2⟩ := hW.2.2
  have e22 : S 66 22 = W.2.2.1 0 0 := hX.2.2.2.1.1
  have e23 : S 66 23 = W.2.2.2 0 0 := hX.2.2.2.2.1.1
  have hX' := hX.le (b' := b + 50000) (by omega)
  refine st_83_0 hx ?_
  rw [e22, e23]
  unfold wd_take
  refine ⟨fun g => ?_, fun g => ⟨fun g2 => ?_, fun g2 => ⟨rg_b (by omega) (by omega), fun g3 => ?_, fun g3 => ?_⟩⟩⟩
  · rw [if_neg (by omega)]
    exact ⟨_, rfl, rfl, hX', fun _ _ => rfl⟩
  · rw [if_neg (by omega)]
    exact ⟨_, rfl, rfl, hX', fun _ _ => rfl⟩
  · rw [if_pos (by omega)]
    refine ⟨fun g4 => ?_, fun g4 => ⟨fun g5 => ?_, fun g5 => ?_⟩⟩
    · rw [if_pos g4]
      have hj : (x % 64).toNat < 64 := by omega
      obtain ⟨b1, b2⟩ := hX.2.2.2.1.2 _ hj
      obtain ⟨d1, d2, d3⟩ := hf1 _ hj
      rw [b1, b2]
      refine ⟨by omega, by omega, by omega, by omega, by omega, fun S5 q5 => ?_⟩
      have y23 : S5 66 23 = W.2.2.2 0 0 := by rw [q5, sk_u_ne (by omega)]; exact e23
      rw [y23]
      refine ⟨rg_b (by omega) (by omega), fun S8 q8 => ⟨_, rfl, rfl, ?_, fun k hk => by rw [q8, sk_u_ne (by omega), q5, sk_u_ne (by omega)]⟩⟩
      have f8 : ∀ k, ¬ k = 66 → ¬ k = 81 → S8 k = S k := fun k h1 h2 => by rw [q8, sk_u_ne h1, q5, sk_u_ne h2]
      have h8 : ∀ j, ¬ j = 23 → S8 66 j = S 66 j := fun j hj => by rw [q8, sk_u_nj hj, q5, sk_u_ne (by omega)]
      have sf : SF S S8 := SF.cells (fun k a1 a2 => f8 k (by omega) (by omega)) (h8 11 (by omega))
      refine ⟨hX'.1.cells (fun q a1 a2 => f8 q (by omega) (by omega)) (h8 11 (by omega)), hX.2.1.saved sf, hX.2.2.1.saved sf hW.2.1.1.2.1, hX.2.2.2.1.frame (h8 22 (by omega)) (f8 82 (by omega) (by omega)) (f8 83 (by omega) (by omega)), ⟨?_, fun s hs p hp => ?_⟩, by rw [h8 0 (by omega)]; exact hX.2.2.2.2.2⟩
      · dsimp only
        rw [q8, sk_u_at, sk_u_at]
      · dsimp only
        rw [q8, sk_u_ne (by omega), q5, sk_u_get, sk_u_ne (k := 0) (by omega), sk_u_get]
        have hcell := cell_eq (s := s) (t := (W.2.2.1 1 (x % 64).toNat).toNat) (p := p) (q := (W.2.2.1 2 (x % 64).toNat).toNat) hp (by omega)
        have ei : (1000 * W.2.2.1 1 (x % 64).toNat + W.2.2.1 2 (x % 64).toNat).toNat = 1000 * (W.2.2.1 1 (x % 64).toNat).toNat + (W.2.2.1 2 (x % 64).toNat).toNat := by omega
        rw [ei]
        by_cases e : s = (W.2.2.1 1 (x % 64).toNat).toNat ∧ p = (W.2.2.1 2 (x % 64).toNat).toNat
        · rw [if_pos ⟨rfl, hcell.mpr e⟩, if_pos (by omega)]
        · rw [if_neg (fun q => e (hcell.mp q.2)), if_neg (by omega)]
          exact hX.2.2.2.2.1.2 s hs p hp
    · rw [if_neg g4, if_neg (by omega)]
      exact ⟨_, rfl, rfl, hX', fun _ _ => rfl⟩
    · rw [if_neg g4, if_pos (by omega)]
      exact ⟨_, rfl, rfl, hX', fun _ _ => rfl⟩
  · rw [if_neg (by omega)]
    exact ⟨_, rfl, rfl, hX', fun _ _ => rfl⟩
theorem mx_refresh {scr : Nat × (Nat → Int32)} {d : Nat} {band b c : Int} {W : wd} {S : sk_S} (hX : MX band b W S) (hW : WW c W) (hc : c ≤ 600) :
    EE scr d 84 0 [some (.ref 66), none] S (pI fun x S' => x = (wd_refresh W).1 ∧ MX band (b + 50000) (wd_refresh W).2 S' ∧ FB S S') := by
  have hA := hW.1
  have hN := hA.1.2.1.1
  have hR := hX.1.1
  have hF0 := hW.2.2.1
  have e22 : S 66 22 = W.2.2.1 0 0 := hX.2.2.2.1.1
  have hX' := hX.le (b' := b + 50000) (by omega)
  have fin : ∀ T : sk_S, (∀ s, s < 2 → ∀ p : Nat, p < 1000 → T 81 (1000 * s + p) = ab_lev W.1 s p) → (∀ k, ¬ k = 81 → T k = S k) → ∀ S2 : sk_S, S2 = sk_u T 66 23 (T 66 22) → pI (fun x S' => x = (wd_refresh W).1 ∧ MX band (b + 50000) (wd_refresh W).2 S' ∧ FB S S') (some (S2 66 23)) S2 := by
    intro T hT hf S2 q2
    have e : T 66 22 = W.2.2.1 0 0 := by rw [hf 66 (by omega)]; exact e22
    rw [e] at q2
    have f8 : ∀ k, ¬ k = 66 → ¬ k = 81 → S2 k = S k := fun k h1 h2 => by rw [q2, sk_u_ne h1]; exact hf k h2
    have h8 : ∀ j, ¬ j = 23 → S2 66 j = S 66 j := fun j hj => by rw [q2, sk_u_nj hj, hf 66 (by omega)]
    have e23 : S2 66 23 = W.2.2.1 0 0 := by rw [q2, sk_u_at]
    have sf : SF S S2 := SF.cells (fun k a1 a2 => f8 k (by omega) (by omega)) (h8 11 (by omega))
    refine ⟨_, rfl, e23, ⟨hX'.1.cells (fun q a1 a2 => f8 q (by omega) (by omega)) (h8 11 (by omega)), hX.2.1.saved sf, hX.2.2.1.saved sf hW.2.1.1.2.1, hX.2.2.2.1.frame (h8 22 (by omega)) (f8 82 (by omega) (by omega)) (f8 83 (by omega) (by omega)), ⟨e23, fun s hs p hp => ?_⟩, by rw [h8 0 (by omega)]; exact hX.2.2.2.2.2⟩, fun k hk => f8 k (by omega) (by omega)⟩
    rw [q2, sk_u_ne (by omega), hT s hs p hp]
    show _ = if 1 + s = 0 then _ else ab_lev W.1 (1 + s - 1) p
    rw [if_neg (by omega), Nat.add_sub_cancel_left]
  have loop2 : ∀ (f n : Nat) (T : sk_S), n + f = ab_n W.1 → (∀ s, s < 2 → ∀ p : Nat, p < 1000 → T 81 (1000 * s + p) = levTo W.1 s p n) → (∀ k, ¬ k = 81 → T k = S k) → EE scr d 84 24 [some (.ref 66), some (vi n)] T (pI fun x S' => x = (wd_refresh W).1 ∧ MX band (b + 50000) (wd_refresh W).2 S' ∧ FB S S') := by
    intro f
    induction f with
    | zero =>
      intro n T hn hT hf
      refine st_84_24 (rg_n (by omega)) ⟨fun _ S2 q2 => fin T (fun s hs p hp => ?_) hf S2 q2, fun g => ?_⟩
      · rw [hT s hs p hp, lev_to hA.1.2.1 hs, show n = ab_n W.1 by omega]
      · rw [hf 67 (by omega), hR.n hA.1.1] at g
        omega
    | succ f ih =>
      intro n T hn hT hf
      have e72 : T 72 n = W.1.1 3 n := by rw [hf 72 (by omega)]; exact hR.c (c := 3) (by omega) (by omega)
      have e69 : T 69 n = W.1.1 1 n := by rw [hf 69 (by omega)]; exact hR.c (c := 1) (by omega) (by omega)
      have e73 : T 73 n = W.1.1 5 n := by rw [hf 73 (by omega)]; exact hR.c (c := 5) (by omega) (by omega)
      have e75 : T 75 n = W.1.1 7 n := by rw [hf 75 (by omega)]; exact hR.c (c := 7) (by omega) (by omega)
      have es : ∀ s p, levTo W.1 s p (n + 1) = levTo W.1 s p n + (if W.1.1 3 n = 1 ∧ W.1.1 1 n = (s : Int) then (if W.1.1 5 n = p then W.1.1 7 n else 0) else 0) := fun _ _ => rfl
      refine st_84_24 (rg_n (by omega)) ?_
      simp only [Int.toNat_natCast, e72, e69, e73, e75]
      rw [hf 67 (by omega), hR.n hA.1.1]
      refine ⟨fun g => by omega, fun _ => ⟨by omega, by omega, fun g => ?_, fun g => ?_⟩⟩
      · exact ih (n + 1) T (by omega) (fun s hs p hp => by rw [hT s hs p hp, es, if_neg (fun q => g q.1), Int.add_zero]) hf
      · obtain ⟨t, q, ht, hq, e1, e5, ec, eb⟩ := hA.1.2.1.at (show n < ab_n W.1 by omega) g
        have hb := levTo_bd (s := t) (p := q) hA.1.2.1 (n := n) (by omega)
        have h7 := (hA.1.2.1.2.1 n (by omega)).2.2.1
        rw [ec, hT t ht q hq]
        refine ⟨eb.1, eb.2, rg_b (by omega) (by omega), fun S3 q3 => ih (n + 1) S3 (by omega) (fun s hs p hp => ?_) (fun k hk => by rw [q3, sk_u_ne hk]; exact hf k hk)⟩
        rw [q3, sk_u_get, es]
        by_cases c : s = t ∧ p = q
        · rw [if_pos ⟨rfl, (cell_eq hp hq).mpr c⟩, if_pos ⟨g, by omega⟩, if_pos (by omega), c.1, c.2]
        · rw [if_neg (fun x => c ((cell_eq hp hq).mp x.2)), hT s hs p hp]
          by_cases c2 : W.1.1 1 n = (s : Int)
          · rw [if_pos ⟨g, c2⟩, if_neg (by omega), Int.add_zero]
          · rw [if_neg (fun x => c2 x.2), Int.add_zero]
  have loop1 : ∀ (f n : Nat) (T : sk_S), n + f = 2000 → (∀ j, j < n → T 81 j = 0) → (∀ k, ¬ k = 81 → T k = S k) → EE scr d 84 2 [some (.ref 66), some (vi n)] T (pI fun x S' => x = (wd_refresh W).1 ∧ MX band (b + 50000) (wd_refresh W).2 S' ∧ FB S S') := by
    intro f
    induction f with
    | zero =>
      intro n T hn hT hf
      refine st_84_2 (rg_n (by omega)) ⟨fun _ => ?_, fun g => by omega⟩
      exact loop2 (ab_n W.1) 0 T (by omega) (fun s hs p hp => hT _ (by omega)) hf
    | succ f ih =>
      intro n T hn hT hf
      refine st_84_2 (rg_n (by omega)) ⟨fun g => by omega, fun _ => ⟨by omega, by omega, fun S2 q2 => ?_⟩⟩
      simp only [Int.toNat_natCast] at q2
      refine ih (n + 1) S2 (by omega) (fun j hj => ?_) (fun k hk => by rw [q2, sk_u_ne hk]; exact hf k hk)
      rw [q2, sk_u_get]
      split
      · rfl
      · exact hT j (by omega)
  exact st_84_0 (loop1 2000 0 S (by omega) (fun j hj => by omega) (fun _ _ => rfl))
