/-! 9k.ref8: the reference: messages begun and ended; what is good; cancelling -/
def PM (S G : sk_S) : Prop := S 66 23 = G 0 0 ∧ ∀ s, s < 2 → ∀ p, p < 1000 → S 81 (1000 * s + p) = G (1 + s) p
def MX (band b : Int) (W : wd) (S : sk_S) : Prop := MI (ab_n W.1) b S W.1 ∧ RM 1 (ab_n W.2.1) S W.2.1 ∧ RK 1 S W.2.1 ∧ FM S W.2.2.1 ∧ PM S W.2.2.2 ∧ S 66 0 = band
def FB (S S' : sk_S) : Prop := ∀ k, k < 66 → S' k = S k
/-- as MF, and what was looked at may be another -/
def MG (S S' : sk_S) : Prop := (∀ k, (k < 66 ∨ 80 < k) → S' k = S k) ∧ (∀ j, ¬ j = 11 → ¬ (15 ≤ j ∧ j ≤ 17) → S' 66 j = S 66 j) ∧ (∀ j, 16 ≤ j → S' 67 j = S 67 j) ∧ (∀ k, 68 ≤ k → k ≤ 76 → ∀ j, 200 ≤ j → S' k j = S k j) ∧ (∀ j, 512 ≤ j → S' 77 j = S 77 j) ∧ S 66 11 ≤ S' 66 11
theorem MF.g {S S' : sk_S} (h : MF S S') : MG S S' := ⟨fun k hk => h.1 k (by omega), h.2⟩
theorem MG.trans {S S1 S2 : sk_S} (h1 : MG S S1) (h2 : MG S1 S2) : MG S S2 :=
  ⟨fun k hk => (h2.1 k hk).trans (h1.1 k hk), fun j a b => (h2.2.1 j a b).trans (h1.2.1 j a b), fun j a => (h2.2.2.1 j a).trans (h1.2.2.1 j a), fun k a b j c => (h2.2.2.2.1 k a b j c).trans (h1.2.2.2.1 k a b j c), fun j a => (h2.2.2.2.2.1 j a).trans (h1.2.2.2.2.1 j a), Int.le_trans h1.2.2.2.2.2 h2.2.2.2.2.2⟩
theorem MG.look {S S' : sk_S} (h : ∀ k, ¬ k = 80 → S' k = S k) : MG S S' :=
  ⟨fun k hk => h k (by omega), fun j _ _ => by rw [h 66 (by omega)], fun j _ => by rw [h 67 (by omega)], fun k a b j _ => by rw [h k (by omega)], fun j _ => by rw [h 77 (by omega)], by rw [h 66 (by omega)]; exact Int.le_refl _⟩
def SF (S S' : sk_S) : Prop := (∀ j, 16 ≤ j → S' 67 j = S 67 j) ∧ (∀ k, 68 ≤ k → k ≤ 76 → ∀ j, 200 ≤ j → S' k j = S k j) ∧ (∀ j, 512 ≤ j → S' 77 j = S 77 j) ∧ S 66 11 ≤ S' 66 11
theorem MG.sf {S S' : sk_S} (h : MG S S') : SF S S' := h.2.2
theorem SF.trans {S S1 S2 : sk_S} (h1 : SF S S1) (h2 : SF S1 S2) : SF S S2 := ⟨fun j a => (h2.1 j a).trans (h1.1 j a), fun k a b j c => (h2.2.1 k a b j c).trans (h1.2.1 k a b j c), fun j a => (h2.2.2.1 j a).trans (h1.2.2.1 j a), Int.le_trans h1.2.2.2 h2.2.2.2⟩
theorem SF.cells {S S' : sk_S} (h : ∀ k, 67 ≤ k → k ≤ 77 → S' k = S k) (h66 : S' 66 11 = S 66 11) : SF S S' := ⟨fun j _ => by rw [h 67 (by omega) (by omega)], fun k a b j _ => by rw [h k (by omega) (by omega)], fun j _ => by rw [h 77 (by omega) (by omega)], by rw [h66]; exact Int.le_refl _⟩
theorem RM.saved {N : Nat} {S S' : sk_S} {A : ab} (h : RM 1 N S A) (hf : SF S S') : RM 1 N S' A := by
  obtain ⟨f67, f68, f77, -⟩ := hf
  obtain ⟨⟨g1, g2, g3, g4⟩, g5, g7, g8⟩ := h
  refine ⟨⟨by rw [f67 _ (by omega)]; exact g1, by rw [f67 _ (by omega)]; exact g2, by rw [f67 _ (by omega)]; exact g3, by rw [f67 _ (by omega)]; exact g4⟩, fun c hc i hi => ?_, fun q hq s hs => by rw [f67 _ (by omega)]; exact g7 q hq s hs, fun s hs j hj => by rw [f77 _ (by omega)]; exact g8 s hs j hj⟩
  have a1 := mcol_lt (c := c)
  have a2 := mcol_7 hc
  rw [f68 _ (by omega) (by omega) _ (by omega)]
  exact g5 c hc i hi
theorem RK.saved {N : Nat} {S S' : sk_S} {A : ab} (h : RK 1 S A) (hf : SF S S') (hw : WFw N A) : RK 1 S' A := by
  have hN := hw.1
  refine h.frame (fun i hi => hf.2.1 76 (by omega) (by omega) _ (by omega)) hf.2.2.2 (fun s hs i hi => ?_)
  have := (((hw.2.2 s hs).2.1 i).mp hi).1
  omega
theorem FM.g {S S' F : sk_S} (h : FM S F) (hf : MG S S') : FM S' F := h.frame (hf.2.1 22 (by omega) (by omega)) (hf.1 82 (by omega)) (hf.1 83 (by omega))
theorem PM.g {S S' G : sk_S} (h : PM S G) (hf : MG S S') : PM S' G := by
  refine ⟨by rw [hf.2.1 23 (by omega) (by omega)]; exact h.1, fun s hs p hp => ?_⟩
  rw [hf.1 81 (by omega)]
  exact h.2 s hs p hp
theorem rp_begin {scr : Nat × (Nat → Int32)} {d N : Nat} {m b s n : Int} {S : sk_S} {A : ab} (hM : MI N b S A) (hW : WS N m A) (hs : rg s) (hn : rg n) (hE : ∀ t, t < 4 → 0 ≤ A.1 9 t ∧ A.1 9 t ≤ 100000) :
    EE scr (d + 1) 61 0 [some (.ref 66), some (vi s), some (vi n)] S (pI fun x S' => x = (ab_hear A s n).1 ∧ MI N b S' (ab_hear A s n).2 ∧ MG S S' ∧ (x = 0 → ∀ t, t < 2 → ∀ p, p < 1000 → S' 80 (1000 * t + p) = ab_lv A t p)) := by
  refine st_61_0 hs hn ?_
  refine (rp_in hs (rg_b (by omega) (by omega)) (rg_b (by omega) (by omega))).I fun y S1 _ _ hy _ => ?_
  obtain ⟨rfl, rfl⟩ := hy
  unfold ab_hear
  by_cases c : 0 ≤ s ∧ s < 4
  · rw [if_pos (show 0 ≤ s ∧ s ≤ 3 by omega), if_pos c]
    obtain ⟨t, ht, rfl⟩ : ∃ t : Nat, t < 4 ∧ s = t := ⟨s.toNat, by omega, by omega⟩
    have e4 : ((4 : Int) + (t : Int)).toNat = 4 + t := by omega
    have hE' := hE t ht
    have e67 : S1 67 (4 + t) = A.1 9 t := by
      have := hM.1.2.2.1 0 (by omega) t ht
      rw [show 16 * 0 + 4 + 4 * 0 + t = 4 + t by omega] at this
      exact this
    simp only [e4, e67, Int.toNat_natCast]
    refine ⟨fun _ => ⟨by omega, by omega, fun g => ⟨rg_b (by omega) (by omega), fun S8 q8 => ?_⟩, fun g => ⟨fun g2 => ⟨_, rfl, ?_⟩, fun g2 => ⟨_, rfl, ?_⟩⟩⟩, fun g => by omega⟩
    · rw [if_pos g]
      have m8 : MI N b S8 (ab_u A 9 t (A.1 9 t + 1)) := by
        refine ⟨by rw [q8]; exact hM.1.ses (r := 0) (by omega) ht (by omega), ?_, by rw [q8, sk_u_ne (by omega)]; exact hM.2.2⟩
        refine (hM.2.1.same (B := ab_u A 9 t (A.1 9 t + 1)) (fun _ => rfl) (fun j => u_ne (Or.inl (by omega)))).cells ?_ ?_
        · rw [q8, sk_u_ne (by omega)]
        · rw [q8, sk_u_ne (by omega)]
      have f8 : MG S1 S8 := by rw [q8]; exact (MF.u (by omega)).g
      refine (rp_look m8.1 (hW.hear (by omega))).V fun S11 _ h11 => ?_
      obtain ⟨l1, l2⟩ := h11
      refine ⟨_, rfl, rfl, m8.cells (fun q a1 a2 => l2 q (by omega)) (by rw [l2 66 (by omega)]), f8.trans (MG.look l2), fun _ u hu p hp => ?_⟩
      rw [l1 u hu p hp]
      exact lev_same (A := ab_u A 9 t (A.1 9 t + 1)) (B := A) (fun _ => rfl) (fun j => u_ne (Or.inl (by omega))) (fun j => u_ne (Or.inl (by omega))) u p
    · rw [if_neg g, if_pos g2]
      exact ⟨rfl, hM, MF.refl.g, fun h => by omega⟩
    · rw [if_neg g, if_neg g2]
      exact ⟨rfl, hM, MF.refl.g, fun h => by omega⟩
  · rw [if_neg (show ¬ (0 ≤ s ∧ s ≤ 3) by omega), if_neg c]
    exact ⟨fun g => absurd rfl g, fun _ => ⟨_, rfl, rfl, hM, MF.refl.g, fun h => by omega⟩⟩
theorem mx_end {scr : Nat × (Nat → Int32)} {d N : Nat} {band b b' B x c : Int} {W : wd} {S S1 : sk_S} {A : ab} (hX : MX band b W S) (hWW : WW c W) (hc : c ≤ 600) (hM : MI N b' S1 A) (hW : WS N 40 A) (hB : rcB A B) (hB2 : B < 2140000000) (hb : b' < 2140000000) (fr : MG S S1) (h80 : ∀ t, t < 2 → ∀ p, p < 1000 → S1 80 (1000 * t + p) = ab_lv W.1 t p) (hx : rg x) :
    EE scr (d + 5) 63 0 [some (.ref 66), some (vi x)] S1 (pI fun y S' => y = x ∧ MX band (b' + 41640) (wd_fin band W A x).2 S' ∧ FB S S') := by
  obtain ⟨hA, hA2, hF⟩ := hWW
  have hF0 := hF.1
  refine st_63_0 hx ?_
  refine (rp_allStops (band := band) hM hW (by rw [fr.2.1 0 (by omega) (by omega)]; exact hX.2.2.2.2.2) hB hB2 hb).V fun S2 _ h2 => ?_
  obtain ⟨m2, f2⟩ := h2
  obtain ⟨s1, s2⟩ := stops_ws (band := band) 40 A B hW hB
  have fr2 := fr.trans f2.g
  refine (rp_publish (F := W.2.2.1) (old := ab_lv W.1) m2.1 s1 (fun t ht p hp => by rw [f2.1 80 (by omega)]; exact h80 t ht p hp) (fun t ht p hp => hA.1.2.1.lev ht p) (hX.2.2.2.1.g fr2) hF0.1 (by omega)).V fun S6 _ h6 => ?_
  obtain ⟨k1, k2, k3⟩ := h6
  have sf : SF S S6 := fr2.sf.trans (SF.cells (fun k a1 a2 => k2 k (by omega) (by omega) (by omega) (by omega)) (k3 11 (by omega)))
  refine ⟨_, rfl, rfl, ⟨?_, ?_, ?_, k1, ?_, ?_⟩, fun k hk => by rw [k2 k (by omega) (by omega) (by omega) (by omega), fr2.1 k (by omega)]⟩
  · show MI (ab_n (ab_stops band 40 A)) _ S6 (ab_stops band 40 A)
    rw [s1.n]
    exact m2.cells (fun q a1 a2 => k2 q (by omega) (by omega) (by omega) (by omega)) (k3 11 (by omega))
  · exact hX.2.1.saved sf
  · exact hX.2.2.1.saved sf hA2.1.2.1
  · refine ⟨by rw [k3 23 (by omega), fr2.2.1 23 (by omega) (by omega)]; exact hX.2.2.2.2.1.1, fun s hs p hp => ?_⟩
    rw [k2 81 (by omega) (by omega) (by omega) (by omega), fr2.1 81 (by omega)]
    exact hX.2.2.2.2.1.2 s hs p hp
  · rw [k3 0 (by omega), fr2.2.1 0 (by omega) (by omega)]
    exact hX.2.2.2.2.2
theorem mx_fin {scr : Nat × (Nat → Int32)} {d N : Nat} {band b b' B x c : Int} {W : wd} {S S1 : sk_S} {A : ab} (hX : MX band b W S) (hWW : WW c W) (hc : c ≤ 600) (hM : MI N b' S1 A) (hW : WS N 40 A) (hB : rcB A B) (hB2 : B < 2140000000) (hb : b' ≤ b + 2000) (hb2 : b < 2130000000) (fr : MG S S1) (h80 : ∀ t, t < 2 → ∀ p, p < 1000 → S1 80 (1000 * t + p) = ab_lv W.1 t p) (hx : rg x) :
    EE scr (d + 5) 63 0 [some (.ref 66), some (vi x)] S1 (pI fun y S' => rg y → pI (fun x' S' => x' = (wd_fin band W A x).1 ∧ MX band (b + 50000) (wd_fin band W A x).2 S' ∧ FB S S') (some y) S') := by
  refine (mx_end (b' := b + 2000) hX hWW hc (hM.le hb) hW hB hB2 (by omega) fr h80 hx).I fun y S' _ _ hy _ => ?_
  obtain ⟨rfl, a1, a2⟩ := hy
  exact ⟨_, rfl, rfl, ⟨a1.1.le (by omega), a1.2⟩, a2⟩
theorem mx_rej {scr : Nat × (Nat → Int32)} {d N t : Nat} {band b B c : Int} {W : wd} {S S1 : sk_S} {A : ab} (hX : MX band b W S) (hWW : WW c W) (hc : c ≤ 600) (ht : t < 4) (hM : MI N b S1 A) (hW : WS N 40 A) (hB : rcB A B) (hB2 : B < 2130000000) (hb2 : b < 2130000000) (fr : MG S S1) (h80 : ∀ t, t < 2 → ∀ p, p < 1000 → S1 80 (1000 * t + p) = ab_lv W.1 t p) :
    EE scr (d + 6) 62 0 [some (.ref 66), some (vi t)] S1 (pI fun y S' => rg y → pI (fun x' S' => x' = (wd_fin band W (ab_rej A t) (-4)).1 ∧ MX band (b + 50000) (wd_fin band W (ab_rej A t) (-4)).2 S' ∧ FB S S') (some y) S') := by
  have hbs := hB t ht
  refine st_62_0 (rg_n (by omega)) ?_
  refine (rp_tell hM ht hbs.1 (by omega) (rg_b (by omega) (by omega)) (rg_b (by omega) (by omega)) (rg_b (by omega) (by omega)) (rg_b (by omega) (by omega))).V fun S2 _ h2 => ?_
  obtain ⟨m2, f2, -⟩ := h2
  exact mx_fin hX hWW hc m2 hW.tell hB.tell (by omega) (by omega) hb2 (fr.trans f2.g) (fun u hu p hp => by rw [f2.1 80 (by omega)]; exact h80 u hu p hp) (rg_b (by omega) (by omega)) |> fun h => h.I fun y S' _ _ hy ry => ⟨_, rfl, fun _ => hy ry⟩ |> fun h => h
