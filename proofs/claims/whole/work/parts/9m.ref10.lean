/-! 9m.ref10: the reference: phase, save, crash, extra, what is read -/
theorem rp_isStep {scr : Nat × (Nat → Int32)} {d : Nat} {S : sk_S} {f v : Int} (hf : rg f) (hv : rg v) : EE scr d 70 0 [some (vi f), some (vi v)] S (pI fun x S' => S' = S ∧ x = if ab_may f v = true then 1 else 0) := by
  have hm : (ab_may f v = true) ↔ ((f = 0 ∧ v = 1) ∨ (f = 1 ∧ v = 2) ∨ (f = 2 ∧ (v = 3 ∨ v = 4)) ∨ (f = 4 ∧ v = 2) ∨ (f = 3 ∧ v = 0)) := by unfold ab_may; rw [decide_eq_true_eq]
  have no : ¬ ((f = 0 ∧ v = 1) ∨ (f = 1 ∧ v = 2) ∨ (f = 2 ∧ (v = 3 ∨ v = 4)) ∨ (f = 4 ∧ v = 2) ∨ (f = 3 ∧ v = 0)) → pI (fun x S' => S' = S ∧ x = if ab_may f v = true then 1 else 0) (some 0) S := fun h => ⟨_, rfl, rfl, by rw [if_neg (fun g => h (hm.mp g))]⟩
  have yes : ((f = 0 ∧ v = 1) ∨ (f = 1 ∧ v = 2) ∨ (f = 2 ∧ (v = 3 ∨ v = 4)) ∨ (f = 4 ∧ v = 2) ∨ (f = 3 ∧ v = 0)) → pI (fun x S' => S' = S ∧ x = if ab_may f v = true then 1 else 0) (some 1) S := fun h => ⟨_, rfl, rfl, by rw [if_pos (hm.mpr h)]⟩
  refine st_70_0 hf hv ?_
  repeat' first
    | exact no (by omega)
    | exact yes (by omega)
    | apply And.intro
    | intro _
theorem MX.g {band b b' c : Int} {W : wd} {S S' : sk_S} (hX : MX band b W S) (hW : WW c W) (hM : MI (ab_n W.1) b' S' W.1) (f : MG S S') : MX band b' W S' :=
  ⟨hM, hX.2.1.saved f.sf, hX.2.2.1.saved f.sf hW.2.1.1.2.1, hX.2.2.2.1.g f, hX.2.2.2.2.1.g f, by rw [f.2.1 0 (by omega) (by omega)]; exact hX.2.2.2.2.2⟩
theorem mx_phase {scr : Nat × (Nat → Int32)} {d : Nat} {band b v c : Int} {W : wd} {S : sk_S} (hX : MX band b W S) (hW : WW c W) (hc : c ≤ 600) (hb : b < 2100000000) (hv : rg v) :
    EE scr (d + 6) 71 0 [some (.ref 66), some (vi v), none] S (pI fun x S' => x = (wd_phase band W v).1 ∧ MX band (b + 50000) (wd_phase band W v).2 S' ∧ FB S S') := by
  have hA := hW.1
  have hN := hA.1.2.1.1
  have hp4 := hA.1.2.2.2.2.2.1
  have e0 : S 67 0 = W.1.1 8 1 := hX.1.1.1.2.1
  refine st_71_0 hv ?_
  rw [e0]
  refine (rp_isStep (rg_b (by omega) (by omega)) hv).I fun y S1 _ _ hy _ => ?_
  obtain ⟨rfl, rfl⟩ := hy
  unfold wd_phase
  by_cases ok : ab_may (W.1.1 8 1) v = true
  · rw [if_pos ok, if_pos ok]
    have hv4 := may_v ok
    refine ⟨fun _ => ?_, fun g => by omega⟩
    refine (rp_look hX.1.1 hA.1).V fun S7 _ h7 => ?_
    obtain ⟨l1, l2⟩ := h7
    have m7 : MI (ab_n W.1) b S7 W.1 := hX.1.cells (fun q a1 a2 => l2 q (by omega)) (by rw [l2 66 (by omega)])
    have g7 : MG S1 S7 := MG.look l2
    obtain ⟨o1, o2⟩ := step_ws hA.1 hA.2.1 hv4.1 hv4.2
    -- the end of the call, from a market with the phase set
    have tail : ∀ (S26 : sk_S) (A1 : ab) (B : Int), MI (ab_n W.1) b S26 (ab_u A1 8 1 v) → WS (ab_n W.1) 40 (ab_u A1 8 1 v) → rcB (ab_u A1 8 1 v) B → B ≤ 100000 * c + 80 → MG S1 S26 → (∀ t, t < 2 → ∀ p, p < 1000 → S26 80 (1000 * t + p) = ab_lv W.1 t p) → ab_step W.1 v = (if v = 0 then ab_all (ab_u A1 8 1 v) (ab_n (ab_u A1 8 1 v)) else ab_u A1 8 1 v) → EE scr (d + 6) 71 39 [some (.ref 66), some (vi v), some (vi 0)] S26 (pI fun x S' => x = (wd_fin band W (ab_step W.1 v) 1).1 ∧ MX band (b + 50000) (wd_fin band W (ab_step W.1 v) 1).2 S' ∧ FB S1 S') := by
      intro S26 A1 B m26 w26 b26 hB g26 h80 es
      have fin : ∀ T : sk_S, MI (ab_n W.1) b T (ab_step W.1 v) → MG S1 T → (∀ t, t < 2 → ∀ p, p < 1000 → T 80 (1000 * t + p) = ab_lv W.1 t p) → EE scr (d + 5) 63 0 [some (.ref 66), some (vi 0)] T (pI fun y S2 => rg y → ((¬ y = 0 → pI (fun x S' => x = (wd_fin band W (ab_step W.1 v) 1).1 ∧ MX band (b + 50000) (wd_fin band W (ab_step W.1 v) 1).2 S' ∧ FB S1 S') (some 0) S2) ∧ (y = 0 → pI (fun x S' => x = (wd_fin band W (ab_step W.1 v) 1).1 ∧ MX band (b + 50000) (wd_fin band W (ab_step W.1 v) 1).2 S' ∧ FB S1 S') (some 1) S2))) := by
        intro T mT gT hT
        refine (mx_end (b' := b) (x := 0) hX hW hc mT o1 o2 (by omega) (by omega) gT hT rg_0).I fun y S' _ _ hy _ => ?_
        obtain ⟨rfl, a1, a2⟩ := hy
        exact ⟨fun g => absurd rfl g, fun _ => ⟨_, rfl, rfl, ⟨a1.1.le (by omega), a1.2⟩, a2⟩⟩
      have en := w26.n
      by_cases ev : v = 0
      · rw [if_pos ev, en] at es
        have loop : ∀ (f k : Nat) (T : sk_S), k + f = ab_n W.1 → MI (ab_n W.1) b T (ab_all (ab_u A1 8 1 v) k) → MG S1 T → (∀ t, t < 2 → ∀ p, p < 1000 → T 80 (1000 * t + p) = ab_lv W.1 t p) → EE scr (d + 6) 71 39 [some (.ref 66), some (vi v), some (vi k)] T (pI fun x S' => x = (wd_fin band W (ab_step W.1 v) 1).1 ∧ MX band (b + 50000) (wd_fin band W (ab_step W.1 v) 1).2 S' ∧ FB S1 S') := by
          intro f
          induction f with
          | zero =>
            intro k T hk mT gT hT
            obtain ⟨x1, x2⟩ := all_ws w26 b26 k (by omega)
            refine st_71_39 hv (rg_n (by omega)) ?_
            rw [mT.1.n x1.1]
            refine ⟨fun _ => fin T ?_ gT hT, fun g => by omega⟩
            rw [es, show ab_n W.1 = k by omega]
            rw [show ab_n W.1 = k by omega] at mT
            exact mT
          | succ f ih =>
            intro k T hk mT gT hT
            obtain ⟨x1, x2⟩ := all_ws w26 b26 k (by omega)
            have e72 : T 72 k = (ab_all (ab_u A1 8 1 v) k).1 3 k := mT.1.c (c := 3) (by omega) (by omega)
            have ea : ab_all (ab_u A1 8 1 v) (k + 1) = if (ab_all (ab_u A1 8 1 v) k).1 3 k = 0 then ab_all (ab_u A1 8 1 v) k else ab_drop (ab_all (ab_u A1 8 1 v) k) k := rfl
            refine st_71_39 hv (rg_n (by omega)) ?_
            rw [mT.1.n x1.1]
            simp only [Int.toNat_natCast, e72]
            refine ⟨fun g => by omega, fun _ => ⟨fun g => absurd ev g, fun _ => ⟨by omega, by omega, fun g => ?_, fun g => ?_⟩⟩⟩
            · rw [if_pos g] at ea
              exact ih (k + 1) T (by omega) (by rw [ea]; exact mT) gT hT
            · rw [if_neg g] at ea
              refine (rp_drop mT x1 (by omega) x2 (by omega)).V fun S16 _ h16 => ?_
              exact ih (k + 1) S16 (by omega) (by rw [ea]; exact h16.1) (gT.trans h16.2.g) (fun t ht p hp => by rw [h16.2.1 80 (by omega)]; exact hT t ht p hp)
        exact loop (ab_n W.1) 0 S26 (by omega) m26 g26 h80
      · rw [if_neg ev] at es
        refine st_71_39 hv rg_0 ⟨fun _ => ?_, fun _ => ⟨fun _ => ?_, fun g => absurd g ev⟩⟩
        · exact fin S26 (by rw [es]; exact m26) g26 h80
        · exact fin S26 (by rw [es]; exact m26) g26 h80
    refine (rp_isCall m7.1).I fun y S12 _ _ hy _ => ?_
    obtain ⟨rfl, rfl⟩ := hy
    by_cases cc : ab_call (W.1.1 8 1) = true
    · rw [if_pos cc]
      refine ⟨fun g => by omega, fun _ => ?_⟩
      obtain ⟨a1, a2⟩ := auction_ws hA.1 hA.2.1
      refine (rp_auction m7 hA.1 hA.2.1 (by omega)).V fun S21 _ h21 S26 q26 => ?_
      obtain ⟨m21, f21⟩ := h21
      refine tail S26 (ab_auction W.1) (100000 * c + 80) (by rw [q26]; exact m21.sc (by omega)) (a1.phase hv4.1 hv4.2) (a2.same (fun j => u_ne (Or.inl (by omega)))) (Int.le_refl _) ((g7.trans f21.g).trans (by rw [q26]; exact (MF.u (by omega)).g)) (fun t ht p hp => by rw [q26, sk_u_ne (by omega), f21.1 80 (by omega)]; exact l1 t ht p hp) ?_
      unfold ab_step
      dsimp only
      rw [if_pos cc]
    · rw [if_neg cc]
      refine ⟨fun _ S18 q18 => ?_, fun g => absurd rfl g⟩
      refine tail S18 W.1 (100000 * c) (by rw [q18]; exact m7.sc (by omega)) (hA.1.phase hv4.1 hv4.2) (hA.2.1.same (fun j => u_ne (Or.inl (by omega)))) (by omega) (g7.trans (by rw [q18]; exact (MF.u (by omega)).g)) (fun t ht p hp => by rw [q18, sk_u_ne (by omega)]; exact l1 t ht p hp) ?_
      unfold ab_step
      dsimp only
      rw [if_neg cc]
  · rw [if_neg ok, if_neg ok]
    exact ⟨fun g => absurd rfl g, fun _ => ⟨_, rfl, rfl, ⟨hX.1.le (by omega), hX.2⟩, fun _ _ => rfl⟩⟩
theorem mx_save {scr : Nat × (Nat → Int32)} {d : Nat} {band b c : Int} {W : wd} {S : sk_S} (hX : MX band b W S) (hW : WW c W) :
    EE scr (d + 1) 72 0 [some (.ref 66)] S (pI fun x S' => x = (wd_save W).1 ∧ MX band (b + 50000) (wd_save W).2 S' ∧ FB S S') := by
  have hA := hW.1
  have hN := hA.1.2.1.1
  refine st_72_0 ?_
  refine (rp_copy (k1 := 0) (k2 := 1) (by omega) (by omega) (by omega)).V fun S1 _ h1 => ?_
  have r0 := hX.1.1.keep h1 hN (by omega) (by omega) (by omega)
  have k0 := hX.1.2.1.keep h1 hA.1.2.1 (by omega) (by omega) (by omega)
  refine ⟨_, rfl, r0.1.1, ⟨⟨r0, k0, ?_⟩, hX.1.1.copy h1 hN, hX.1.2.1.copy h1 hA.1.2.1, hX.2.2.2.1.frame (by rw [h1.2.2.2 66 (by omega)]) (h1.2.2.2 82 (by omega)) (h1.2.2.2 83 (by omega)), ⟨by rw [h1.2.2.2 66 (by omega)]; exact hX.2.2.2.2.1.1, fun s hs p hp => by rw [h1.2.2.2 81 (by omega)]; exact hX.2.2.2.2.1.2 s hs p hp⟩, by rw [h1.2.2.2 66 (by omega)]; exact hX.2.2.2.2.2⟩, fun k hk => h1.2.2.2 k (by omega)⟩
  rw [h1.2.2.2 66 (by omega)]
  have := hX.1.2.2
  omega
theorem mx_crash {scr : Nat × (Nat → Int32)} {d : Nat} {band b c : Int} {W : wd} {S : sk_S} (hX : MX band b W S) (hW : WW c W) (hc : c ≤ 600) :
    EE scr (d + 2) 73 0 [some (.ref 66)] S (pI fun x S' => x = (wd_crash W).1 ∧ MX band (b + 50000) (wd_crash W).2 S' ∧ FB S S') := by
  have hA := hW.1
  have hA2 := hW.2.1
  have hN := hA2.1.2.1.1
  have hF0 := hW.2.2.1
  refine st_73_0 ?_
  refine (rp_look hX.1.1 hA.1).V fun S1 _ h1 => ?_
  obtain ⟨l1, l2⟩ := h1
  refine (rp_copy (k1 := 1) (k2 := 0) (by omega) (by omega) (by omega)).V fun S6 _ h6 => ?_
  have s1 : SF S S1 := (MG.look l2).sf
  have r1 := hX.2.1.saved s1
  have q1 := hX.2.2.1.saved s1 hA2.1.2.1
  have r0 := r1.copy h6 hN
  have k0 := q1.copy h6 hA2.1.2.1
  have r1' := r1.keep h6 hN (by omega) (by omega) (by omega)
  have k1' := q1.keep h6 hA2.1.2.1 (by omega) (by omega) (by omega)
  have e66 : S6 66 = S 66 := by rw [h6.2.2.2 66 (by omega), l2 66 (by omega)]
  refine (rp_publish (F := W.2.2.1) (old := ab_lv W.1) r0 hA2.1 (fun t ht p hp => by rw [h6.2.2.2 80 (by omega)]; exact l1 t ht p hp) (fun t ht p hp => hA.1.2.1.lev ht p) (hX.2.2.2.1.frame (by rw [e66]) (by rw [h6.2.2.2 82 (by omega), l2 82 (by omega)]) (by rw [h6.2.2.2 83 (by omega), l2 83 (by omega)])) hF0.1 (by omega)).V fun S11 _ h11 => ?_
  obtain ⟨p1, p2, p3⟩ := h11
  have c11 : ∀ k, 67 ≤ k → k ≤ 77 → S11 k = S6 k := fun k a1 a2 => p2 k (by omega) (by omega) (by omega) (by omega)
  have e11 : S11 66 11 = S6 66 11 := p3 11 (by omega)
  have sf := SF.cells c11 e11
  have r11 := r0.frame (S' := S11) (fun q a1 a2 _ => c11 q a1 a2)
  refine ⟨_, rfl, r11.1.1, ⟨⟨r11, k0.cells (c11 76 (by omega) (by omega)) e11, ?_⟩, r1'.saved sf, k1'.saved sf hA2.1.2.1, p1, ⟨?_, fun s hs p hp => ?_⟩, ?_⟩, fun k hk => by rw [p2 k (by omega) (by omega) (by omega) (by omega), h6.2.2.2 k (by omega), l2 k (by omega)]⟩
  · rw [e11, e66]
    have := hX.1.2.2
    omega
  · rw [p3 23 (by omega), e66]
    exact hX.2.2.2.2.1.1
  · rw [p2 81 (by omega) (by omega) (by omega) (by omega), h6.2.2.2 81 (by omega), l2 81 (by omega)]
    exact hX.2.2.2.2.1.2 s hs p hp
  · rw [p3 0 (by omega), e66]
    exact hX.2.2.2.2.2
theorem mx_extra {scr : Nat × (Nat → Int32)} {d : Nat} {band b s v c : Int} {W : wd} {S : sk_S} (hX : MX band b W S) (hW : WW c W) (hs : rg s) (hv : rg v) :
    EE scr (d + 1) 64 0 [some (.ref 66), some (vi s), some (vi v), none] S (pI fun x S' => x = (wd_extra W s v).1 ∧ MX band (b + 50000) (wd_extra W s v).2 S' ∧ FB S S') := by
  refine st_64_0 hs hv ?_
  refine (rp_in hs (rg_b (by omega) (by omega)) (rg_b (by omega) (by omega))).I fun y S1 _ _ hy _ => ?_
  obtain ⟨rfl, rfl⟩ := hy
  unfold wd_extra
  by_cases c : 0 ≤ s ∧ s < 4
  · rw [if_pos (show 0 ≤ s ∧ s ≤ 3 by omega), if_pos c]
    obtain ⟨t, ht, rfl⟩ : ∃ t : Nat, t < 4 ∧ s = t := ⟨s.toNat, by omega, by omega⟩
    have e8 : ((8 : Int) + (t : Int)).toNat = 8 + t := by omega
    have e10 : S1 67 (8 + t) = W.1.1 10 t := by
      have := hX.1.1.2.2.1 1 (by omega) t ht
      rw [show 16 * 0 + 4 + 4 * 1 + t = 8 + t by omega] at this
      exact this
    simp only [e8, e10, Int.toNat_natCast]
    refine ⟨fun _ => ⟨by omega, by omega, fun S7 q7 => ⟨_, rfl, rfl, ?_, by rw [q7]; exact fun k hk => sk_u_ne (by omega)⟩⟩, fun g => by omega⟩
    have hn : ab_n (ab_u W.1 10 t v) = ab_n W.1 := by unfold ab_n; rw [u_ne (Or.inl (by omega))]
    have f7 : MG S1 S7 := by rw [q7]; exact (MF.u (by omega)).g
    refine ⟨?_, hX.2.1.saved f7.sf, hX.2.2.1.saved f7.sf hW.2.1.1.2.1, hX.2.2.2.1.g f7, hX.2.2.2.2.1.g f7, by rw [f7.2.1 0 (by omega) (by omega)]; exact hX.2.2.2.2.2⟩
    show MI (ab_n (ab_u W.1 10 t v)) _ S7 (ab_u W.1 10 t v)
    rw [hn]
    refine ⟨by rw [q7]; exact hX.1.1.ses (r := 1) (by omega) ht (by omega), ?_, by rw [q7, sk_u_ne (by omega)]; have := hX.1.2.2; omega⟩
    refine (hX.1.2.1.same (B := ab_u W.1 10 t v) (fun _ => rfl) (fun j => u_ne (Or.inl (by omega)))).cells ?_ ?_
    · rw [q7, sk_u_ne (by omega)]
    · rw [q7, sk_u_ne (by omega)]
  · rw [if_neg (show ¬ (0 ≤ s ∧ s ≤ 3) by omega), if_neg c]
    exact ⟨fun g => absurd rfl g, fun _ => ⟨_, rfl, rfl, ⟨hX.1.le (by omega), hX.2⟩, fun _ _ => rfl⟩⟩
theorem mx_market {scr : Nat × (Nat → Int32)} {d : Nat} {band b k c : Int} {W : wd} {S : sk_S} (hX : MX band b W S) (hW : WW c W) (hk : rg k) :
    EE scr (d + 2) 74 0 [some (.ref 66), some (vi k)] S (pI fun x S' => x = wd_market W k ∧ MX band b W S' ∧ FB S S') := by
  have hA := hW.1
  obtain ⟨r0, r1, r2, r3⟩ := hX.1.1.1
  have r1' : S 67 0 = W.1.1 8 1 := r1
  have r2' : S 67 1 = W.1.1 8 2 := r2
  have r3' : S 67 2 = W.1.1 8 3 := r3
  have same : ∀ (T : sk_S) (v : Int), T = S → v = wd_market W k → pI (fun x S' => x = wd_market W k ∧ MX band b W S' ∧ FB S S') (some v) T := fun T v e h => ⟨_, rfl, h, by rw [e]; exact hX, fun k hk => by rw [e]⟩
  have none' : (k < 0 ∨ 6 < k) → (-1 : Int) = wd_market W k := by
    intro h
    unfold wd_market
    rw [if_neg (by omega), if_neg (by omega), if_neg (by omega), if_neg (by omega), if_neg (by omega), if_neg (by omega), if_neg (by omega)]
  have opn : k = 3 → EE scr (d + 1) 37 0 [some (.ref 66), none, none] S (pI fun y S3 => rg y → pI (fun x S' => x = wd_market W k ∧ MX band b W S' ∧ FB S S') (some y) S3) := by
    intro h
    refine (rp_open hX.1.1 hA.1.1 hA.1.2.1.1).I fun y S1 _ _ hy _ => ?_
    obtain ⟨rfl, rfl⟩ := hy
    refine same _ _ rfl ?_
    rw [h]
    rfl
  refine st_74_0 hk ⟨fun g => ⟨fun h => same _ _ rfl (none' h), fun h => ⟨by omega, by omega, ?_⟩, fun h => ⟨by omega, by omega, ?_⟩, fun h => ⟨by omega, by omega, ?_⟩, fun h => opn h, fun h => by omega, fun h => by omega, fun h => by omega⟩, fun g => ⟨fun g2 => ⟨fun h => same _ _ rfl (none' h), fun h => by omega, fun h => by omega, fun h => by omega, fun h => by omega, fun h => by omega, fun h => by omega, fun h => by omega⟩, fun g2 => ?_⟩⟩
  · subst h
    exact same _ _ rfl r1'
  · subst h
    exact same _ _ rfl r2'
  · subst h
    exact same _ _ rfl r3'
  · refine (rp_weigh hX.1 hA.1).V fun S15 _ h15 => ?_
    obtain ⟨m15, f15, x1, x2, x3⟩ := h15
    have fin : ∀ v : Int, v = wd_market W k → pI (fun x S' => x = wd_market W k ∧ MX band b W S' ∧ FB S S') (some v) S15 := fun v h => ⟨_, rfl, h, hX.g hW m15 f15.g, fun k hk => f15.1 k (by omega)⟩
    refine ⟨fun h => by omega, fun h => by omega, fun h => by omega, fun h => by omega, fun h => by omega, fun h => fin _ ?_, fun h => fin _ ?_, fun h => fin _ ?_⟩
    · rw [h, x1]
      rfl
    · rw [h, x2]
      rfl
    · rw [h, x3]
      rfl
theorem rp_isLevel {scr : Nat × (Nat → Int32)} {d : Nat} {S : sk_S} {s p : Int} (hs : rg s) (hp : rg p) : EE scr (d + 1) 75 0 [some (vi s), some (vi p)] S (pI fun x S' => S' = S ∧ x = if (s = 0 ∨ s = 1) ∧ 1 ≤ p ∧ p ≤ 999 then 1 else 0) := by
  refine st_75_0 hs hp ?_
  refine (rp_in hs (rg_b (by omega) (by omega)) (rg_b (by omega) (by omega))).I fun y S1 _ _ hy _ => ?_
  obtain ⟨rfl, rfl⟩ := hy
  by_cases c : 0 ≤ s ∧ s ≤ 1
  · rw [if_pos c]
    refine ⟨fun g => by omega, fun _ => (rp_in hp (rg_b (by omega) (by omega)) (rg_b (by omega) (by omega))).I fun y S7 _ _ hy _ => ?_⟩
    obtain ⟨rfl, rfl⟩ := hy
    by_cases c2 : 1 ≤ p ∧ p ≤ 999
    · rw [if_pos c2]
      exact ⟨fun g => by omega, fun _ => ⟨_, rfl, rfl, by rw [if_pos (by omega)]⟩⟩
    · rw [if_neg c2]
      exact ⟨fun _ => ⟨_, rfl, rfl, by rw [if_neg (by omega)]⟩, fun g => absurd rfl g⟩
  · rw [if_neg c]
    exact ⟨fun _ => ⟨_, rfl, rfl, by rw [if_neg (by omega)]⟩, fun g => absurd rfl g⟩
theorem mx_shown {scr : Nat × (Nat → Int32)} {d : Nat} {band b s p c : Int} {W : wd} {S : sk_S} (hX : MX band b W S) (hW : WW c W) (hs : rg s) (hp : rg p) :
    EE scr (d + 2) 76 0 [some (.ref 66), some (vi s), some (vi p)] S (pI fun x S' => x = wd_shown W s p ∧ MX band b W S' ∧ FB S S') := by
  refine st_76_0 hs hp ?_
  refine (rp_isLevel hs hp).I fun y S1 _ _ hy _ => ?_
  obtain ⟨rfl, rfl⟩ := hy
  unfold wd_shown
  by_cases c : (s = 0 ∨ s = 1) ∧ 1 ≤ p ∧ p ≤ 999
  · rw [if_pos c, if_pos c]
    obtain ⟨t, ht, rfl⟩ : ∃ t : Nat, t < 2 ∧ s = t := ⟨s.toNat, by omega, by omega⟩
    refine ⟨fun g => by omega, fun _ => (rp_level hX.1.1 hW.1.1 ht hp).I fun y S7 _ _ hy _ => ?_⟩
    obtain ⟨rfl, rfl⟩ := hy
    exact ⟨_, rfl, rfl, hX, fun _ _ => rfl⟩
  · rw [if_neg c, if_neg c]
    exact ⟨fun _ => ⟨_, rfl, rfl, hX, fun _ _ => rfl⟩, fun g => absurd rfl g⟩
theorem mx_best {scr : Nat × (Nat → Int32)} {d : Nat} {band b s c : Int} {W : wd} {S : sk_S} (hX : MX band b W S) (hW : WW c W) (hs : rg s) :
    EE scr (d + 2) 77 0 [some (.ref 66), some (vi s), none] S (pI fun x S' => x = wd_best W s ∧ MX band b W S' ∧ FB S S') := by
  have hN := hW.1.1.2.1.1
  refine st_77_0 hs ?_
  refine (rp_in hs (rg_b (by omega) (by omega)) (rg_b (by omega) (by omega))).I fun y S1 _ _ hy _ => ?_
  obtain ⟨rfl, rfl⟩ := hy
  unfold wd_best
  by_cases c : 0 ≤ s ∧ s ≤ 1
  · rw [if_pos c, if_pos (show s = 0 ∨ s = 1 by omega)]
    obtain ⟨t, ht, rfl⟩ : ∃ t : Nat, t < 2 ∧ s = t := ⟨s.toNat, by omega, by omega⟩
    refine ⟨fun g => by omega, fun _ => (rp_behind hX.1.1 hX.1.2.1 hW.1.1 ht (k := 0) (x := -1) (Or.inl ⟨rfl, rfl⟩)).I fun y S7 _ _ hy _ => ?_⟩
    obtain ⟨rfl, rfl⟩ := hy
    simp only [Int.toNat_natCast]
    cases hl : W.1.2 t with
    | nil =>
      have et : ab_top W.1 t = 0 := by unfold ab_top; rw [hl]
      rw [lnI_nil, et]
      exact ⟨fun g => by omega, fun _ => ⟨_, rfl, rfl, hX, fun _ _ => rfl⟩⟩
    | cons i l =>
      have et : ab_top W.1 t = W.1.1 5 i := by unfold ab_top; rw [hl]
      have hi := (((hW.1.1.2.1.2.2 t ht).2.1 i).mp (by rw [hl]; exact List.mem_cons_self)).1
      have el : lnI (i :: l) 0 = i := rfl
      have e73 : S7 73 i = W.1.1 5 i := hX.1.1.c (c := 5) (by omega) hi
      rw [el, et, Int.toNat_natCast, e73]
      exact ⟨fun _ => ⟨by omega, by omega, ⟨_, rfl, rfl, hX, fun _ _ => rfl⟩⟩, fun g => by omega⟩
  · rw [if_neg c, if_neg (show ¬ (s = 0 ∨ s = 1) by omega)]
    exact ⟨fun _ => ⟨_, rfl, rfl, hX, fun _ _ => rfl⟩, fun g => absurd rfl g⟩
theorem mx_session {scr : Nat × (Nat → Int32)} {d : Nat} {band b s k : Int} {W : wd} {S : sk_S} (hX : MX band b W S) (hs : rg s) (hk : rg k) :
    EE scr (d + 1) 80 0 [some (.ref 66), some (vi s), some (vi k)] S (pI fun x S' => x = wd_session W s k ∧ MX band b W S' ∧ FB S S') := by
  refine st_80_0 hs hk ?_
  refine (rp_in hs (rg_b (by omega) (by omega)) (rg_b (by omega) (by omega))).I fun y S1 _ _ hy _ => ?_
  obtain ⟨rfl, rfl⟩ := hy
  unfold wd_session
  by_cases c : 0 ≤ s ∧ s < 4
  · rw [if_pos (show 0 ≤ s ∧ s ≤ 3 by omega), if_pos c]
    obtain ⟨t, ht, rfl⟩ : ∃ t : Nat, t < 4 ∧ s = t := ⟨s.toNat, by omega, by omega⟩
    refine ⟨fun g => by omega, fun _ => (rp_in hk (rg_b (by omega) (by omega)) (rg_b (by omega) (by omega))).I fun y S7 _ _ hy _ => ?_⟩
    obtain ⟨rfl, rfl⟩ := hy
    have i4 : ((4 : Int) + (t : Int)).toNat = 4 + t := by omega
    have i12 : ((12 : Int) + (t : Int)).toNat = 12 + t := by omega
    have e9 : S7 67 (4 + t) = W.1.1 9 t := by
      have := hX.1.1.2.2.1 0 (by omega) t ht
      rw [show 16 * 0 + 4 + 4 * 0 + t = 4 + t by omega] at this
      exact this
    have e11 : S7 67 (12 + t) = W.1.1 11 t := by
      have := hX.1.1.2.2.1 2 (by omega) t ht
      rw [show 16 * 0 + 4 + 4 * 2 + t = 12 + t by omega] at this
      exact this
    simp only [Int.toNat_natCast, i4, i12, e9, e11]
    by_cases c2 : 0 ≤ k ∧ k ≤ 1
    · rw [if_pos c2]
      refine ⟨fun _ => ⟨fun g => ⟨by omega, by omega, ⟨_, rfl, ?_, hX, fun _ _ => rfl⟩⟩, fun g => ⟨by omega, by omega, ⟨_, rfl, ?_, hX, fun _ _ => rfl⟩⟩⟩, fun g => by omega⟩
      · rw [if_neg g, if_pos (by omega)]
      · rw [if_pos g]
    · rw [if_neg c2]
      refine ⟨fun g => absurd rfl g, fun _ => ⟨_, rfl, ?_, hX, fun _ _ => rfl⟩⟩
      rw [if_neg (by omega), if_neg (by omega)]
  · rw [if_neg (show ¬ (0 ≤ s ∧ s ≤ 3) by omega), if_neg c]
    exact ⟨fun _ => ⟨_, rfl, rfl, hX, fun _ _ => rfl⟩, fun g => absurd rfl g⟩
theorem mx_report {scr : Nat × (Nat → Int32)} {d : Nat} {band b s k x c : Int} {W : wd} {S : sk_S} (hX : MX band b W S) (hW : WW c W) (hc : c ≤ 600) (hs : rg s) (hx : rg x) (hk : rg k) :
    EE scr (d + 1) 81 0 [some (.ref 66), some (vi s), some (vi x), some (vi k), none] S (pI fun y S' => y = wd_report W s x k ∧ MX band b W S' ∧ FB S S') := by
  unfold wd_report
  have no : ∀ T : sk_S, T = S → ¬ (0 ≤ s ∧ s < 4 ∧ 0 ≤ k ∧ k < 4 ∧ 0 ≤ x ∧ x < 32 ∧ x < W.1.1 11 s.toNat) → pI (fun y S' => y = (if 0 ≤ s ∧ s < 4 ∧ 0 ≤ k ∧ k < 4 ∧ 0 ≤ x ∧ x < 32 ∧ x < W.1.1 11 s.toNat then W.1.1 (12 + s.toNat) ((W.1.1 11 s.toNat - 1 - x) % 32 * 4 + k).toNat else -1) ∧ MX band b W S' ∧ FB S S') (some (-1)) T := by
    intro T e h
    subst e
    rw [if_neg h]
    exact ⟨_, rfl, rfl, hX, fun _ _ => rfl⟩
  refine st_81_0 hs hx hk ?_
  refine (rp_in hs (rg_b (by omega) (by omega)) (rg_b (by omega) (by omega))).I fun y S1 _ _ hy _ => ?_
  obtain ⟨rfl, rfl⟩ := hy
  by_cases c1 : 0 ≤ s ∧ s ≤ 3
  · rw [if_pos c1]
    refine ⟨fun g => by omega, fun _ => (rp_in hx (rg_b (by omega) (by omega)) (rg_b (by omega) (by omega))).I fun y S7 _ _ hy _ => ?_⟩
    obtain ⟨rfl, rfl⟩ := hy
    by_cases c2 : 0 ≤ x ∧ x ≤ 31
    · rw [if_pos c2]
      refine ⟨fun g => by omega, fun _ => (rp_in hk (rg_b (by omega) (by omega)) (rg_b (by omega) (by omega))).I fun y S13 _ _ hy _ => ?_⟩
      obtain ⟨rfl, rfl⟩ := hy
      by_cases c3 : 0 ≤ k ∧ k ≤ 3
      · rw [if_pos c3]
        obtain ⟨t, ht, rfl⟩ : ∃ t : Nat, t < 4 ∧ s = t := ⟨s.toNat, by omega, by omega⟩
        have i12 : ((12 : Int) + (t : Int)).toNat = 12 + t := by omega
        have e11 : S13 67 (12 + t) = W.1.1 11 t := by
          have := hX.1.1.2.2.1 2 (by omega) t ht
          rw [show 16 * 0 + 4 + 4 * 2 + t = 12 + t by omega] at this
          exact this
        have hr := hW.1.2.1 t ht
        simp only [Int.toNat_natCast] at no ⊢
        rw [i12, e11]
        refine ⟨fun g => by omega, fun _ => ⟨by omega, by omega, fun g => ⟨rg_b (by omega) (by omega), by omega, by omega, by omega, ⟨_, rfl, ?_, hX, fun _ _ => rfl⟩⟩, fun g => no _ rfl (by omega)⟩⟩
        rw [if_pos (by omega)]
        have h8 := hX.1.1.2.2.2 t ht ((W.1.1 11 t - 1 - x) % 32 * 4 + k).toNat (by omega)
        rw [← h8]
        congr 1
        omega
      · rw [if_neg c3]
        exact ⟨fun _ => no _ rfl (by omega), fun g => absurd rfl g⟩
    · rw [if_neg c2]
      exact ⟨fun _ => no _ rfl (by omega), fun g => absurd rfl g⟩
  · rw [if_neg c1]
    exact ⟨fun _ => no _ rfl (by omega), fun g => absurd rfl g⟩
theorem mx_feed {scr : Nat × (Nat → Int32)} {d : Nat} {band b : Int} {W : wd} {S : sk_S} (hX : MX band b W S) :
    EE scr d 82 0 [some (.ref 66)] S (pI fun x S' => x = W.2.2.1 0 0 ∧ MX band b W S' ∧ FB S S') :=
  st_82_0 ⟨_, rfl, hX.2.2.2.1.1, hX, fun _ _ => rfl⟩
theorem mx_next {scr : Nat × (Nat → Int32)} {d : Nat} {band b : Int} {W : wd} {S : sk_S} (hX : MX band b W S) :
    EE scr d 86 0 [some (.ref 66)] S (pI fun x S' => x = W.2.2.2 0 0 ∧ MX band b W S' ∧ FB S S') :=
  st_86_0 ⟨_, rfl, hX.2.2.2.2.1.1, hX, fun _ _ => rfl⟩
theorem mx_seen {scr : Nat × (Nat → Int32)} {d : Nat} {band b s p : Int} {W : wd} {S : sk_S} (hX : MX band b W S) (hs : rg s) (hp : rg p) :
    EE scr (d + 2) 85 0 [some (.ref 66), some (vi s), some (vi p)] S (pI fun x S' => x = wd_seen W s p ∧ MX band b W S' ∧ FB S S') := by
  refine st_85_0 hs hp ?_
  refine (rp_isLevel hs hp).I fun y S1 _ _ hy _ => ?_
  obtain ⟨rfl, rfl⟩ := hy
  unfold wd_seen
  by_cases c : (s = 0 ∨ s = 1) ∧ 1 ≤ p ∧ p ≤ 999
  · rw [if_pos c, if_pos c]
    refine ⟨fun g => by omega, fun _ => ⟨by omega, by omega, ⟨_, rfl, ?_, hX, fun _ _ => rfl⟩⟩⟩
    rw [show (1000 * s + p).toNat = 1000 * s.toNat + p.toNat by omega]
    exact hX.2.2.2.2.1.2 s.toNat (by omega) p.toNat (by omega)
  · rw [if_neg c, if_neg c]
    exact ⟨fun _ => ⟨_, rfl, rfl, hX, fun _ _ => rfl⟩, fun g => absurd rfl g⟩
