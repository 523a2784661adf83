/-! 9l.ref9: the reference: order, cancel, replace -/
def gd (A : ab) (k q p x : Int) : Bool := decide (0 ≤ k ∧ k ≤ 5 ∧ 1 ≤ q ∧ q ≤ 1000) && decide ((k = 1 ∨ k = 4) ∨ (1 ≤ p ∧ p ≤ 999)) && ab_fit k x q && ab_now (A.1 8 1) k && decide (A.1 8 0 < 200) && decide (ab_open A < 40)
theorem gd_iff (A : ab) (k q p x : Int) : gd A k q p x = true ↔ ((0 ≤ k ∧ k ≤ 5 ∧ 1 ≤ q ∧ q ≤ 1000) ∧ ((k = 1 ∨ k = 4) ∨ (1 ≤ p ∧ p ≤ 999)) ∧ ((k = 4 → 1 ≤ x ∧ x ≤ 999) ∧ (k = 5 → 1 ≤ x ∧ x ≤ q ∧ q ≤ 10 * x)) ∧ (A.1 8 1 = 2 ∨ ab_call (A.1 8 1) = true ∧ (k = 0 ∨ k = 5 ∨ k = 4)) ∧ A.1 8 0 < 200 ∧ ab_open A < 40) := by
  unfold gd ab_fit ab_now
  simp only [Bool.and_eq_true, decide_eq_true_eq, and_assoc]
theorem ok_gd {A : ab} {s : Nat} {w q p : Int} (hw : 0 ≤ w ∧ w ≤ 11) : ab_ok A s w q p = gd A (w / 2) q p (A.1 10 s) := by
  apply Bool.eq_iff_iff.mpr
  rw [ok_iff, gd_iff, Int.toNat_natCast]
  unfold ab_fit ab_now
  simp only [Bool.and_eq_true, decide_eq_true_eq]
  constructor
  · rintro ⟨h1, h2, h3, h4, h5⟩
    exact ⟨by omega, h2, h3, h4, h5⟩
  · rintro ⟨h1, h2, h3, h4, h5⟩
    exact ⟨by omega, h2, h3, h4, h5⟩
theorem rp_good86 {scr : Nat × (Nat → Int32)} {d N : Nat} {m k : Int} {S : sk_S} {A : ab} {l2 l3 l4 l5 : Option Value} {Post : Option Int → sk_S → Prop} (hR : RM 0 N S A) (hW : WS N m A) (hk : 0 ≤ k ∧ k ≤ 5) (yes : (A.1 8 1 = 2 ∨ ab_call (A.1 8 1) = true ∧ (k = 0 ∨ k = 5 ∨ k = 4)) → A.1 8 0 < 200 → ab_open A < 40 → Post (some 1) S) (no : ¬ ((A.1 8 1 = 2 ∨ ab_call (A.1 8 1) = true ∧ (k = 0 ∨ k = 5 ∨ k = 4)) ∧ A.1 8 0 < 200 ∧ ab_open A < 40) → Post (some 0) S) :
    EE scr (d + 1) 65 86 [some (.ref 66), some (vi k), l2, l3, l4, l5] S Post := by
  have hN := hW.2.1.1
  have e0 : S 67 0 = A.1 8 1 := hR.1.2.1
  have e3 : S 67 3 = A.1 8 0 := by
    have := hR.1.1
    rw [show 16 * 0 + 3 = 3 by omega] at this
    exact this
  have hp4 := hW.2.2.2.2.2.1
  have hcall : (ab_call (A.1 8 1) = true) ↔ (A.1 8 1 = 1 ∨ A.1 8 1 = 3 ∨ A.1 8 1 = 4) := by unfold ab_call; rw [decide_eq_true_eq]
  have opn : (A.1 8 1 = 2 ∨ ab_call (A.1 8 1) = true ∧ (k = 0 ∨ k = 5 ∨ k = 4)) → EE scr d 37 0 [some (.ref 66), none, none] S (pI fun y S9 => rg y → ((40 ≤ y → Post (some 0) S9) ∧ (¬ 40 ≤ y → ((200 ≤ S9 67 3 → Post (some 0) S9) ∧ (¬ 200 ≤ S9 67 3 → Post (some 1) S9))))) := by
    intro h
    refine (rp_open hR hW.1 hN).I fun y S9 _ _ hy _ => ?_
    obtain ⟨rfl, rfl⟩ := hy
    rw [e3]
    exact ⟨fun g => no (by omega), fun g => ⟨fun g2 => no (by omega), fun g2 => yes h (by omega) (by omega)⟩⟩
  refine st_65_86 (rg_b (by omega) (by omega)) ?_
  rw [e0]
  refine ⟨fun g => ⟨fun g2 => no (by rw [hcall]; omega), fun g2 => ?_⟩, fun g => ⟨fun g2 => ⟨fun g3 => no (by rw [hcall]; omega), fun g3 => ?_⟩, fun g2 => ⟨fun g3 => no (by rw [hcall]; omega), fun g3 => ?_⟩⟩⟩
  · refine (rp_isCall hR).I fun y S3 _ _ hy _ => ?_
    obtain ⟨rfl, rfl⟩ := hy
    have h : (A.1 8 1 = 2 ∨ ab_call (A.1 8 1) = true ∧ (k = 0 ∨ k = 5 ∨ k = 4)) := by rw [hcall]; omega
    exact ⟨fun _ => opn h, fun _ => opn h⟩
  · refine (rp_isCall hR).I fun y S3 _ _ hy _ => ?_
    obtain ⟨rfl, rfl⟩ := hy
    have h : (A.1 8 1 = 2 ∨ ab_call (A.1 8 1) = true ∧ (k = 0 ∨ k = 5 ∨ k = 4)) := by rw [hcall]; omega
    exact ⟨fun _ => opn h, fun _ => opn h⟩
  · refine (rp_isCall hR).I fun y S3 _ _ hy _ => ?_
    obtain ⟨rfl, rfl⟩ := hy
    by_cases cc : ab_call (A.1 8 1) = true
    · rw [if_pos cc]
      have cc' := hcall.mp cc
      exact ⟨fun q => by omega, fun _ => no (by omega)⟩
    · rw [if_neg cc]
      have cc' : ¬ (A.1 8 1 = 1 ∨ A.1 8 1 = 3 ∨ A.1 8 1 = 4) := fun h => cc (hcall.mpr h)
      exact ⟨fun _ => opn (Or.inl (by omega)), fun q => absurd rfl q⟩
theorem rp_good {scr : Nat × (Nat → Int32)} {d N : Nat} {m k q p x : Int} {S : sk_S} {A : ab} (hR : RM 0 N S A) (hW : WS N m A) (hk : rg k) (hq : rg q) (hp : rg p) (hx : rg x) :
    EE scr (d + 1) 65 0 [some (.ref 66), some (vi k), some (vi q), some (vi p), some (vi x), none] S (pI fun y S' => S' = S ∧ y = if gd A k q p x = true then 1 else 0) := by
  have no : ∀ T : sk_S, T = S → ¬ gd A k q p x = true → pI (fun y S' => S' = S ∧ y = if gd A k q p x = true then 1 else 0) (some 0) T := fun T e h => ⟨_, rfl, e, by rw [if_neg h]⟩
  have hg := gd_iff A k q p x
  refine st_65_0 hk hq hp hx ?_
  refine (rp_in hk (rg_b (by omega) (by omega)) (rg_b (by omega) (by omega))).I fun y S1 _ _ hy _ => ?_
  obtain ⟨rfl, rfl⟩ := hy
  by_cases c1 : 0 ≤ k ∧ k ≤ 5
  · rw [if_pos c1]
    refine ⟨fun g => by omega, fun _ => (rp_in hq (rg_b (by omega) (by omega)) (rg_b (by omega) (by omega))).I fun y S7 _ _ hy _ => ?_⟩
    obtain ⟨rfl, rfl⟩ := hy
    by_cases c2 : 1 ≤ q ∧ q ≤ 1000
    · rw [if_pos c2]
      refine ⟨fun g => by omega, fun _ => ?_⟩
      have s86 : ((k = 1 ∨ k = 4) ∨ (1 ≤ p ∧ p ≤ 999)) → ((k = 4 → 1 ≤ x ∧ x ≤ 999) ∧ (k = 5 → 1 ≤ x ∧ x ≤ q ∧ q ≤ 10 * x)) → EE scr (d + 1) 65 86 [some (.ref 66), some (vi k), some (vi q), some (vi p), some (vi x), none] S7 (pI fun y S' => S' = S7 ∧ y = if gd A k q p x = true then 1 else 0) := by
        intro h1 h2
        refine rp_good86 hR hW c1 (fun a1 a2 a3 => ⟨_, rfl, rfl, ?_⟩) (fun a => no _ rfl (fun h => a (hg.mp h).2.2.2))
        rw [if_pos (hg.mpr ⟨by omega, h1, h2, a1, a2, a3⟩)]
      have s60 : ((k = 1 ∨ k = 4) ∨ (1 ≤ p ∧ p ≤ 999)) → (k = 4 → 1 ≤ x ∧ x ≤ 999) → EE scr (d + 1) 65 60 [some (.ref 66), some (vi k), some (vi q), some (vi p), some (vi x), none] S7 (pI fun y S' => S' = S7 ∧ y = if gd A k q p x = true then 1 else 0) := by
        intro h1 h2
        refine st_65_60 hk hq hx ⟨fun g => s86 h1 ⟨h2, fun h => absurd h g⟩, fun g => ?_⟩
        refine (rp_in hx (rg_b (by omega) (by omega)) hq).I fun y S2 _ _ hy _ => ?_
        obtain ⟨rfl, rfl⟩ := hy
        by_cases c3 : 1 ≤ x ∧ x ≤ q
        · rw [if_pos c3]
          refine ⟨fun g => by omega, fun _ => ⟨rg_b (by omega) (by omega), fun g2 => s86 h1 ⟨h2, fun _ => by omega⟩, fun g2 => no _ rfl (fun h => ?_)⟩⟩
          have := (hg.mp h).2.2.1.2 g
          omega
        · rw [if_neg c3]
          refine ⟨fun _ => no _ rfl (fun h => ?_), fun q => absurd rfl q⟩
          have := (hg.mp h).2.2.1.2 g
          omega
      have s43 : ((k = 1 ∨ k = 4) ∨ (1 ≤ p ∧ p ≤ 999)) → EE scr (d + 1) 65 43 [some (.ref 66), some (vi k), some (vi q), some (vi p), some (vi x), none] S7 (pI fun y S' => S' = S7 ∧ y = if gd A k q p x = true then 1 else 0) := by
        intro h1
        refine st_65_43 hk hq hx ⟨fun g => s60 h1 (fun h => absurd h g), fun g => ?_⟩
        refine (rp_in hx (rg_b (by omega) (by omega)) (rg_b (by omega) (by omega))).I fun y S2 _ _ hy _ => ?_
        obtain ⟨rfl, rfl⟩ := hy
        by_cases c3 : 1 ≤ x ∧ x ≤ 999
        · rw [if_pos c3]
          exact ⟨fun g => by omega, fun _ => s60 h1 (fun _ => c3)⟩
        · rw [if_neg c3]
          exact ⟨fun _ => no _ rfl (fun h => c3 ((hg.mp h).2.2.1.1 g)), fun q => absurd rfl q⟩
      refine ⟨fun g => s43 (Or.inl (Or.inl g)), fun g => ⟨fun g2 => s43 (Or.inl (Or.inr g2)), fun g2 => ?_⟩⟩
      refine (rp_in hp (rg_b (by omega) (by omega)) (rg_b (by omega) (by omega))).I fun y S15 _ _ hy _ => ?_
      obtain ⟨rfl, rfl⟩ := hy
      by_cases c3 : 1 ≤ p ∧ p ≤ 999
      · rw [if_pos c3]
        exact ⟨fun _ => s43 (Or.inr c3), fun q => by omega⟩
      · rw [if_neg c3]
        refine ⟨fun q => absurd rfl q, fun _ => no _ rfl (fun h => ?_)⟩
        have := (hg.mp h).2.1
        omega
    · rw [if_neg c2]
      refine ⟨fun _ => no _ rfl (fun h => ?_), fun q => absurd rfl q⟩
      have := (hg.mp h).1
      omega
  · rw [if_neg c1]
    refine ⟨fun _ => no _ rfl (fun h => ?_), fun q => absurd rfl q⟩
    have := (hg.mp h).1
    omega
theorem RM.ext {N : Nat} {S : sk_S} {A : ab} (h : RM 0 N S A) (h1 : ∀ c, c < 8 → S (mcol c) N = A.1 c N) : RM 0 (N + 1) S A := by
  obtain ⟨g1, g5, g7, g8⟩ := h
  refine ⟨g1, fun c hc i hi => ?_, g7, g8⟩
  by_cases e : i = N
  · rw [e, Nat.mul_zero, Nat.zero_add]
    exact h1 c hc
  · exact g5 c hc i (by omega)
def macc (S : sk_S) (N : Nat) (s w q pv pk : Int) : sk_S := sk_u (sk_u (sk_u (sk_u (sk_u (sk_u (sk_u (sk_u (sk_u S 67 3 ((N : Int) + 1)) 68 N s) 69 N (w % 2)) 70 N (w / 2)) 71 N q) 72 N 0) 73 N pv) 74 N pk) 75 N 0
theorem macc_rel {N s : Nat} {w q p b m : Int} {S : sk_S} {A : ab} (hM : MI N b S A) (hW : WS N m A) (hN : N < 200) : MI (N + 1) b (macc S N s w q (if w / 2 = 4 then A.1 10 s else p) (if w / 2 = 5 then A.1 10 s else 1000)) (ab_acc A s w q p) := by
  have hn := hW.1
  have h1 := (((((((hM.1.sc (q := 0) (j := 3) (v := (N : Int) + 1) (by omega)).col (c := 0) (q := 68) (i := N) (j := N) (v := s) (by omega) rfl (by omega)).col (c := 1) (q := 69) (i := N) (j := N) (v := w % 2) (by omega) rfl (by omega)).col (c := 2) (q := 70) (i := N) (j := N) (v := w / 2) (by omega) rfl (by omega)).col (c := 4) (q := 71) (i := N) (j := N) (v := q) (by omega) rfl (by omega)).col (c := 3) (q := 72) (i := N) (j := N) (v := 0) (by omega) rfl (by omega)).col (c := 5) (q := 73) (i := N) (j := N) (v := if w / 2 = 4 then A.1 10 s else p) (by omega) rfl (by omega)).col (c := 6) (q := 74) (i := N) (j := N) (v := if w / 2 = 5 then A.1 10 s else 1000) (by omega) rfl (by omega) |>.col (c := 7) (q := 75) (i := N) (j := N) (v := 0) (by omega) rfl (by omega)
  have e : ab_acc A s w q p = ab_u (ab_u (ab_u (ab_u (ab_u (ab_u (ab_u (ab_u (ab_u A 8 0 ((N : Int) + 1)) 0 N s) 1 N (w % 2)) 2 N (w / 2)) 4 N q) 3 N 0) 5 N (if w / 2 = 4 then A.1 10 s else p)) 6 N (if w / 2 = 5 then A.1 10 s else 1000)) 7 N 0 := by
    rw [acc_eq hn, ab_u_comm (k := 3) (k' := 4) (by omega)]
  rw [← e] at h1
  obtain ⟨n0, n1, n2, n3, n4, n5, n6, n7⟩ := acc_new (s := s) (w := w) (q := q) (p := p) hn
  refine ⟨h1.ext (fun c hc => ?_), ?_, ?_⟩
  · rcases (show c = 0 ∨ c = 1 ∨ c = 2 ∨ c = 3 ∨ c = 4 ∨ c = 5 ∨ c = 6 ∨ c = 7 by omega) with e | e | e | e | e | e | e | e <;> subst e
    · rw [n0]
      show sk_u _ 75 N 0 68 N = _
      rw [sk_u_ne (by omega), sk_u_ne (by omega), sk_u_ne (by omega), sk_u_ne (by omega), sk_u_ne (by omega), sk_u_ne (by omega), sk_u_ne (by omega), sk_u_at]
    · rw [n1]
      show sk_u _ 75 N 0 69 N = _
      rw [sk_u_ne (by omega), sk_u_ne (by omega), sk_u_ne (by omega), sk_u_ne (by omega), sk_u_ne (by omega), sk_u_ne (by omega), sk_u_at]
    · rw [n2]
      show sk_u _ 75 N 0 70 N = _
      rw [sk_u_ne (by omega), sk_u_ne (by omega), sk_u_ne (by omega), sk_u_ne (by omega), sk_u_ne (by omega), sk_u_at]
    · rw [n3]
      show sk_u _ 75 N 0 72 N = _
      rw [sk_u_ne (by omega), sk_u_ne (by omega), sk_u_ne (by omega), sk_u_at]
    · rw [n4]
      show sk_u _ 75 N 0 71 N = _
      rw [sk_u_ne (by omega), sk_u_ne (by omega), sk_u_ne (by omega), sk_u_ne (by omega), sk_u_at]
    · rw [n5]
      show sk_u _ 75 N 0 73 N = _
      rw [sk_u_ne (by omega), sk_u_ne (by omega), sk_u_at]
    · rw [n6]
      show sk_u _ 75 N 0 74 N = _
      rw [sk_u_ne (by omega), sk_u_at]
    · rw [n7]
      show sk_u _ 75 N 0 75 N = _
      rw [sk_u_at]
  · intro t ht
    have hl : (ab_acc A s w q p).2 t = A.2 t := by rw [acc_eq hn]; rfl
    rw [hl]
    obtain ⟨a1, a2⟩ := hM.2.1 t ht
    have e76 : ∀ j, macc S N s w q (if w / 2 = 4 then A.1 10 s else p) (if w / 2 = 5 then A.1 10 s else 1000) 76 j = S 76 j := fun j => by
      unfold macc
      rw [sk_u_ne (by omega), sk_u_ne (by omega), sk_u_ne (by omega), sk_u_ne (by omega), sk_u_ne (by omega), sk_u_ne (by omega), sk_u_ne (by omega), sk_u_ne (by omega), sk_u_ne (by omega)]
    have e66 : macc S N s w q (if w / 2 = 4 then A.1 10 s else p) (if w / 2 = 5 then A.1 10 s else 1000) 66 11 = S 66 11 := by
      unfold macc
      rw [sk_u_ne (by omega), sk_u_ne (by omega), sk_u_ne (by omega), sk_u_ne (by omega), sk_u_ne (by omega), sk_u_ne (by omega), sk_u_ne (by omega), sk_u_ne (by omega), sk_u_ne (by omega)]
    have hm : ∀ j ∈ A.2 t, ¬ j = N := fun j hj => by
      have := (((hW.2.1.2.2 t ht).2.1 j).mp hj).1
      omega
    refine ⟨List.Pairwise.imp_of_mem (fun {x y} hx hy hr => ?_) a1, fun j hj => by rw [e76, e66]; exact a2 j hj⟩
    unfold Rr at *
    rw [acc_1 hn (by omega) (hm x hx), acc_1 hn (by omega) (hm y hy), e76, e76]
    exact hr
  · unfold macc
    rw [sk_u_ne (by omega), sk_u_ne (by omega), sk_u_ne (by omega), sk_u_ne (by omega), sk_u_ne (by omega), sk_u_ne (by omega), sk_u_ne (by omega), sk_u_ne (by omega), sk_u_ne (by omega)]
    exact hM.2.2
theorem macc_mf {S : sk_S} {N : Nat} {s w q pv pk : Int} (hN : N < 200) : MF S (macc S N s w q pv pk) := by
  unfold macc
  exact ((((((((MF.u (by omega)).trans (MF.u (by omega))).trans (MF.u (by omega))).trans (MF.u (by omega))).trans (MF.u (by omega))).trans (MF.u (by omega))).trans (MF.u (by omega))).trans (MF.u (by omega))).trans (MF.u (by omega))
theorem mx_order {scr : Nat × (Nat → Int32)} {d : Nat} {band b s n w q p c : Int} {W : wd} {S : sk_S} (hX : MX band b W S) (hW : WW c W) (hc : c ≤ 600) (hb : b < 2100000000) (hs : rg s) (hn : rg n) (hw : rg w) (hq : rg q) (hp : rg p) :
    EE scr (d + 7) 66 0 [some (.ref 66), some (vi s), some (vi n), some (vi w), some (vi q), some (vi p), none, none, none, none] S (pI fun x S' => x = (wd_order band W s n w q p).1 ∧ MX band (b + 50000) (wd_order band W s n w q p).2 S' ∧ FB S S') := by
  have hA := hW.1
  refine st_66_0 hs hn hw hq hp ?_
  refine (rp_begin hX.1 hA.1 hs hn (fun t ht => by have := hA.2.2.1 t ht; omega)).I fun y S1 _ _ hy _ => ?_
  obtain ⟨rfl, h2, h3, h80⟩ := hy
  unfold wd_order
  by_cases c0 : (ab_hear W.1 s n).1 = 0
  · rw [if_pos c0]
    replace h80 := h80 c0
    obtain ⟨hs4, e2⟩ := hear_0 c0
    refine ⟨fun _ => ?_, fun g => absurd c0 g⟩
    rw [e2] at h2 ⊢
    obtain ⟨t, ht, rfl⟩ : ∃ t : Nat, t < 4 ∧ s = t := ⟨s.toNat, by omega, by omega⟩
    simp only [Int.toNat_natCast] at h2 ⊢
    obtain ⟨w1, w2, w3⟩ := hear_ws hA ht (v := W.1.1 9 t + 1)
    generalize hA1 : ab_u W.1 9 t (W.1.1 9 t + 1) = A1 at *
    have e8 : ((8 : Int) + (t : Int)).toNat = 8 + t := by omega
    have e10 : S1 67 (8 + t) = A1.1 10 t := by
      have := h2.1.2.2.1 1 (by omega) t ht
      rw [show 16 * 0 + 4 + 4 * 1 + t = 8 + t by omega] at this
      exact this
    have rx : rg (A1.1 10 t) := by rw [w3]; exact hA.2.2.2.1 t ht
    have rej : ∀ T : sk_S, T = S1 → EE scr (d + 6) 62 0 [some (.ref 66), some (vi t)] T (pI fun y S' => rg y → pI (fun x S' => x = (wd_fin band W (ab_rej A1 t) (-4)).1 ∧ MX band (b + 50000) (wd_fin band W (ab_rej A1 t) (-4)).2 S' ∧ FB S S') (some y) S') := by
      intro T e
      subst e
      exact mx_rej hX hW hc ht h2 w1 w2 (by omega) (by omega) h3 h80
    refine (rp_in hw (rg_b (by omega) (by omega)) (rg_b (by omega) (by omega))).I fun y S7 _ _ hy _ => ?_
    obtain ⟨rfl, rfl⟩ := hy
    rw [e8, e10]
    by_cases cw : 0 ≤ w ∧ w ≤ 11
    · rw [if_pos cw]
      refine ⟨fun g => by omega, fun _ => ⟨cw.1, by omega, by omega, (rp_good h2.1 w1 (rg_b (by omega) (by omega)) hq hp rx).I fun y S71 _ _ hy _ => ?_⟩⟩
      obtain ⟨rfl, rfl⟩ := hy
      rw [← ok_gd (s := t) cw]
      by_cases ok : ab_ok A1 t w q p = true
      · rw [if_pos ok, if_pos ok]
        refine ⟨fun _ => ?_, fun g => by omega⟩
        have ok' := (ok_iff A1 t w q p).mp ok
        have hN : ab_n W.1 < 200 := by have := w1.1; omega
        have e3 : S71 67 3 = (ab_n W.1 : Nat) := h2.1.n w1.1
        have hq1 : 1 ≤ q ∧ q ≤ 1000 := by omega
        obtain ⟨n0, n1, n2, n3, n4, n5, n6, n7⟩ := acc_new (s := t) (w := w) (q := q) (p := p) w1.1
        have w39 : WS (ab_n W.1) 39 A1 := ⟨w1.1, w1.2.1, w1.2.2.1, w1.2.2.2.1, w1.2.2.2.2.1, w1.2.2.2.2.2.1, w1.2.2.2.2.2.2.1, by omega⟩
        have a1 := acc_ws w39 ht ok hp rx
        have hB1 : rcB (ab_acc A1 t w q p) (100000 * c) := w2.same (fun j => acc_hi w1.1 (by omega) (by omega))
        obtain ⟨o1, o2⟩ := order_ws (band := band) w1 ht ok hp rx w2
        have en : ab_n A1 = ab_n W.1 := w1.n
        have a8 := acc_hi (s := t) (w := w) (q := q) (p := p) w1.1 (k := 8) (j := 1) (by omega) (by omega)
        have hnow := of_decide_eq_true ok'.2.2.2.1
        have hcall : (ab_call (A1.1 8 1) = true) ↔ (A1.1 8 1 = 1 ∨ A1.1 8 1 = 3 ∨ A1.1 8 1 = 4) := by unfold ab_call; rw [decide_eq_true_eq]
        have tail : ∀ T : sk_S, T = macc S71 (ab_n W.1) t w q (if w / 2 = 4 then A1.1 10 t else p) (if w / 2 = 5 then A1.1 10 t else 1000) → EE scr (d + 6) 39 0 [some (.ref 66), some (vi (ab_n W.1))] T (pI fun y S46 => rg y → EE scr (d + 6) 38 0 [some (.ref 66), some (vi t), some (vi 1), some (vi (ab_n W.1)), some (vi q), some (vi y), none] S46 (pV fun S51 => EE scr (d + 6) 50 0 [some (.ref 66), some (vi (ab_n W.1))] S51 (pV fun S56 => EE scr (d + 6) 63 0 [some (.ref 66), some (vi (ab_n W.1))] S56 (pI fun y S' => rg y → pI (fun x S' => x = (wd_fin band W (ab_order band A1 t w q p) (ab_n W.1)).1 ∧ MX band (b + 50000) (wd_fin band W (ab_order band A1 t w q p) (ab_n W.1)).2 S' ∧ FB S S') (some y) S')))) := by
          intro T hT
          have mT : MI (ab_n W.1 + 1) b T (ab_acc A1 t w q p) := by rw [hT]; exact macc_rel h2 w1 hN
          have fT : MF S71 T := by rw [hT]; exact macc_mf hN
          refine (rp_told mT.1 (by omega) (by omega)).I fun y S46 _ _ hy _ => ?_
          obtain ⟨rfl, rfl⟩ := hy
          have hbs := hB1 t ht
          refine (rp_tell mT ht hbs.1 (by omega) (rg_b (by omega) (by omega)) (rg_n (by omega)) (rg_b (by omega) (by omega)) (told_rg a1 (by omega))).V fun S51 _ h51 => ?_
          obtain ⟨m51, f51, -⟩ := h51
          have g51 : MG S S51 := (h3.trans fT.g).trans f51.g
          refine (rp_comeIn (band := band) (show (39 : Int) ≤ 40 by omega) (by omega) m51 a1.tell (by rw [tell_1i _ (by omega)]; exact n3) (by rw [g51.2.1 0 (by omega) (by omega)]; exact hX.2.2.2.2.2) hB1.tell (by omega) (by omega) ?_ ?_ ?_).V fun S56 _ h56 => ?_
          · rw [tell_1i _ (by omega), a8]
            rw [hcall] at hnow
            omega
          · rw [tell_1i _ (by omega), tell_1i _ (by omega), a8, n2, hcall]
            rw [hcall] at hnow
            omega
          · rw [tell_1i _ (by omega), n4]
            omega
          · obtain ⟨m56, f56⟩ := h56
            have eo : ab_order band A1 t w q p = ab_in band (ab_tell (ab_acc A1 t w q p) t 1 (ab_n W.1) q (ab_told (ab_acc A1 t w q p) (ab_n W.1))) (ab_n W.1) := by
              unfold ab_order
              dsimp only
              rw [en]
            rw [← eo] at m56
            exact mx_fin hX hW hc m56 o1 o2 (by omega) (by omega) (by omega) (g51.trans f56.g) (fun u hu x hx => by rw [f56.1 80 (by omega), f51.1 80 (by omega), fT.1 80 (by omega)]; exact h80 u hu x hx) (rg_n (by omega))
        rw [e3]
        simp only [Int.toNat_natCast]
        refine ⟨rg_b (by omega) (by omega), fun S77 q77 => ⟨by omega, by omega, fun S80 q80 S83 q83 S86 q86 S89 q89 S92 q92 => ⟨fun g S96 q96 => ⟨fun g2 S100 q100 S103 q103 => tail S103 ?_, fun g2 S126 q126 S129 q129 => tail S129 ?_⟩, fun g S152 q152 => ⟨fun g2 S156 q156 S159 q159 => tail S159 ?_, fun g2 => by omega⟩⟩⟩⟩
        · rw [if_neg g, if_neg g2, q103, q100, q96, q92, q89, q86, q83, q80, q77]
          rfl
        · rw [if_neg g, if_pos g2, q129, q126, q96, q92, q89, q86, q83, q80, q77]
          rfl
        · rw [if_pos g, if_neg g2, q159, q156, q152, q92, q89, q86, q83, q80, q77]
          rfl
      · rw [if_neg ok, if_neg ok]
        exact ⟨fun g => absurd rfl g, fun _ => rej _ rfl⟩
    · rw [if_neg cw]
      have ok : ¬ ab_ok A1 t w q p = true := fun h => by
        have := ((ok_iff A1 t w q p).mp h).1
        omega
      rw [if_neg ok]
      refine ⟨fun _ => ⟨by omega, by omega, (rp_good h2.1 w1 (rg_b (by omega) (by omega)) hq hp rx).I fun y S13 _ _ hy _ => ?_⟩, fun g => absurd rfl g⟩
      obtain ⟨rfl, rfl⟩ := hy
      have hgd : ¬ gd A1 (-1) q p (A1.1 10 t) = true := fun h => by
        have := ((gd_iff _ _ _ _ _).mp h).1
        omega
      rw [if_neg hgd]
      exact ⟨fun g => absurd rfl g, fun _ => rej _ rfl⟩
  · rw [if_neg c0]
    refine ⟨fun g => absurd g c0, fun _ => ⟨_, rfl, rfl, ?_, fun k hk => h3.1 k (by omega)⟩⟩
    rw [hear_n c0] at h2
    exact ⟨h2.le (by omega), hX.2.1.saved h3.sf, hX.2.2.1.saved h3.sf hW.2.1.1.2.1, hX.2.2.2.1.g h3, hX.2.2.2.2.1.g h3, by rw [h3.2.1 0 (by omega) (by omega)]; exact hX.2.2.2.2.2⟩
theorem rp_isOwn {scr : Nat × (Nat → Int32)} {d N s : Nat} {S : sk_S} {A : ab} {o : Int} (hR : RM 0 N S A) (hn : A.1 8 0 = N) (hN : N ≤ 200) (hs : s < 4) (ho : rg o) : EE scr (d + 1) 67 0 [some (.ref 66), some (vi s), some (vi o)] S (pI fun x S' => S' = S ∧ x = if ab_mayC A N s o = true then 1 else 0) := by
  have e3 := hR.n hn
  have hm : (ab_mayC A N s o = true) ↔ (0 ≤ o ∧ o < N ∧ A.1 0 o.toNat = s ∧ ¬ A.1 3 o.toNat = 0) := by unfold ab_mayC; rw [decide_eq_true_eq]
  refine st_67_0 (rg_n (by omega)) ho ?_
  rw [e3]
  refine (rp_in ho (rg_b (by omega) (by omega)) (rg_b (by omega) (by omega))).I fun y S1 _ _ hy _ => ?_
  obtain ⟨rfl, rfl⟩ := hy
  by_cases c : 0 ≤ o ∧ o ≤ (N : Int) - 1
  · rw [if_pos c]
    have e72 : S1 72 o.toNat = A.1 3 o.toNat := hR.c (c := 3) (by omega) (by omega)
    have e68 : S1 68 o.toNat = A.1 0 o.toNat := hR.c (c := 0) (by omega) (by omega)
    rw [e72, e68]
    refine ⟨fun g => by omega, fun _ => ⟨by omega, by omega, fun g => ⟨_, rfl, rfl, ?_⟩, fun g => ⟨fun g2 => ⟨_, rfl, rfl, ?_⟩, fun g2 => ⟨_, rfl, rfl, ?_⟩⟩⟩⟩
    · rw [if_neg (by rw [hm]; omega)]
    · rw [if_neg (by rw [hm]; omega)]
    · rw [if_pos (by rw [hm]; omega)]
  · rw [if_neg c]
    exact ⟨fun _ => ⟨_, rfl, rfl, by rw [if_neg (by rw [hm]; omega)]⟩, fun g => absurd rfl g⟩
theorem mx_cancel {scr : Nat × (Nat → Int32)} {d : Nat} {band b s n o c : Int} {W : wd} {S : sk_S} (hX : MX band b W S) (hW : WW c W) (hc : c ≤ 600) (hb : b < 2100000000) (hs : rg s) (hn : rg n) (ho : rg o) :
    EE scr (d + 7) 68 0 [some (.ref 66), some (vi s), some (vi n), some (vi o), none] S (pI fun x S' => x = (wd_cancel band W s n o).1 ∧ MX band (b + 50000) (wd_cancel band W s n o).2 S' ∧ FB S S') := by
  have hA := hW.1
  refine st_68_0 hs hn ho ?_
  refine (rp_begin hX.1 hA.1 hs hn (fun t ht => by have := hA.2.2.1 t ht; omega)).I fun y S1 _ _ hy _ => ?_
  obtain ⟨rfl, h2, h3, h80⟩ := hy
  unfold wd_cancel
  by_cases c0 : (ab_hear W.1 s n).1 = 0
  · rw [if_pos c0]
    replace h80 := h80 c0
    obtain ⟨hs4, e2⟩ := hear_0 c0
    refine ⟨fun _ => ?_, fun g => absurd c0 g⟩
    rw [e2] at h2 ⊢
    obtain ⟨t, ht, rfl⟩ : ∃ t : Nat, t < 4 ∧ s = t := ⟨s.toNat, by omega, by omega⟩
    simp only [Int.toNat_natCast] at h2 ⊢
    obtain ⟨w1, w2, w3⟩ := hear_ws hA ht (v := W.1.1 9 t + 1)
    generalize hA1 : ab_u W.1 9 t (W.1.1 9 t + 1) = A1 at *
    refine (rp_isOwn h2.1 w1.1 w1.2.1.1 ht ho).I fun y S7 _ _ hy _ => ?_
    obtain ⟨rfl, rfl⟩ := hy
    by_cases ok : ab_mayC A1 (ab_n W.1) t o = true
    · rw [if_pos ok, if_pos ok]
      refine ⟨fun _ => ?_, fun g => by omega⟩
      have ok' := of_decide_eq_true ok
      obtain ⟨i, rfl⟩ : ∃ i : Nat, o = i := ⟨o.toNat, by omega⟩
      simp only [Int.toNat_natCast] at ok' ⊢
      have hi : i < ab_n W.1 := by omega
      obtain ⟨u, hu, hsd⟩ := w1.2.1.side hi
      refine (rp_drop h2 w1 hi w2 (by omega)).V fun S13 _ h13 => ?_
      obtain ⟨m13, f13⟩ := h13
      exact mx_fin hX hW hc m13 (w1.drop hi hu hsd) (drop_rc w2 (w1.2.1.2.1 i hi).1.1) (by omega) (by omega) (by omega) (h3.trans f13.g) (fun u hu x hx => by rw [f13.1 80 (by omega)]; exact h80 u hu x hx) rg_0
    · rw [if_neg ok, if_neg ok]
      exact ⟨fun g => absurd rfl g, fun _ => mx_rej hX hW hc ht h2 w1 w2 (by omega) (by omega) h3 h80⟩
  · rw [if_neg c0]
    refine ⟨fun g => absurd g c0, fun _ => ⟨_, rfl, rfl, ?_, fun k hk => h3.1 k (by omega)⟩⟩
    rw [hear_n c0] at h2
    exact ⟨h2.le (by omega), hX.2.1.saved h3.sf, hX.2.2.1.saved h3.sf hW.2.1.1.2.1, hX.2.2.2.1.g h3, hX.2.2.2.2.1.g h3, by rw [h3.2.1 0 (by omega) (by omega)]; exact hX.2.2.2.2.2⟩
theorem RK.price {k : Nat} {S : sk_S} {A : ab} (h : RK k S A) {i : Nat} {v : Int} (hni : ∀ s, s < 2 → ¬ i ∈ A.2 s) : RK k S (ab_u A 5 i v) := by
  intro s hs
  obtain ⟨a1, a2⟩ := h s hs
  refine ⟨List.Pairwise.imp_of_mem (fun {x y} hx hy hr => ?_) a1, a2⟩
  have nx : ¬ x = i := fun e => hni s hs (e ▸ hx)
  have ny : ¬ y = i := fun e => hni s hs (e ▸ hy)
  unfold Rr at *
  rw [u_ne (Or.inr nx), u_ne (Or.inr ny)]
  exact hr
theorem mx_repl {scr : Nat × (Nat → Int32)} {d : Nat} {band b s n o q p c : Int} {W : wd} {S : sk_S} (hX : MX band b W S) (hW : WW c W) (hc : c ≤ 600) (hb : b < 2100000000) (hs : rg s) (hn : rg n) (ho : rg o) (hq : rg q) (hp : rg p) :
    EE scr (d + 7) 69 0 [some (.ref 66), some (vi s), some (vi n), some (vi o), some (vi q), some (vi p), none, none] S (pI fun x S' => x = (wd_repl band W s n o q p).1 ∧ MX band (b + 50000) (wd_repl band W s n o q p).2 S' ∧ FB S S') := by
  have hA := hW.1
  refine st_69_0 hs hn ho hq hp ?_
  refine (rp_begin hX.1 hA.1 hs hn (fun t ht => by have := hA.2.2.1 t ht; omega)).I fun y S1 _ _ hy _ => ?_
  obtain ⟨rfl, h2, h3, h80⟩ := hy
  unfold wd_repl
  by_cases c0 : (ab_hear W.1 s n).1 = 0
  · rw [if_pos c0]
    replace h80 := h80 c0
    obtain ⟨hs4, e2⟩ := hear_0 c0
    refine ⟨fun _ => ?_, fun g => absurd c0 g⟩
    rw [e2] at h2 ⊢
    obtain ⟨t, ht, rfl⟩ : ∃ t : Nat, t < 4 ∧ s = t := ⟨s.toNat, by omega, by omega⟩
    simp only [Int.toNat_natCast] at h2 ⊢
    obtain ⟨w1, w2, w3⟩ := hear_ws hA ht (v := W.1.1 9 t + 1)
    have hpk : ∀ i, i < ab_n W.1 → ¬ (ab_u W.1 9 t (W.1.1 9 t + 1)).1 2 i = 5 → (ab_u W.1 9 t (W.1.1 9 t + 1)).1 6 i = 1000 := fun i hi => by
      rw [u_ne (Or.inl (by omega)), u_ne (Or.inl (by omega))]
      exact hA.2.2.2.2.1 i hi
    have hph := ph_hear (t := t) (v := W.1.1 9 t + 1) hA
    generalize hA1 : ab_u W.1 9 t (W.1.1 9 t + 1) = A1 at *
    have hmC : (ab_mayC A1 (ab_n W.1) t o = true) ↔ (0 ≤ o ∧ o < ab_n W.1 ∧ A1.1 0 o.toNat = t ∧ ¬ A1.1 3 o.toNat = 0) := by unfold ab_mayC; rw [decide_eq_true_eq]
    have hmR : (ab_mayR A1 (ab_n W.1) t o q p = true) ↔ (0 ≤ o ∧ o < ab_n W.1 ∧ A1.1 0 o.toNat = t ∧ A1.1 3 o.toNat = 1 ∧ (1 ≤ q ∧ q ≤ 1000) ∧ (1 ≤ p ∧ p ≤ 999) ∧ q ≤ 10 * A1.1 6 o.toNat) := by unfold ab_mayR; rw [decide_eq_true_eq]
    have rej : ∀ T : sk_S, T = S1 → ¬ ab_mayR A1 (ab_n W.1) t o q p = true → EE scr (d + 6) 62 0 [some (.ref 66), some (vi t)] T (pI fun y S' => rg y → pI (fun x S' => x = (if ab_mayR A1 (ab_n W.1) t o q p = true then wd_fin band W (ab_repl band A1 o.toNat q p) 0 else wd_fin band W (ab_rej A1 t) (-4)).1 ∧ MX band (b + 50000) (if ab_mayR A1 (ab_n W.1) t o q p = true then wd_fin band W (ab_repl band A1 o.toNat q p) 0 else wd_fin band W (ab_rej A1 t) (-4)).2 S' ∧ FB S S') (some y) S') := by
      intro T e h
      subst e
      rw [if_neg h]
      exact mx_rej hX hW hc ht h2 w1 w2 (by omega) (by omega) h3 h80
    refine (rp_isOwn h2.1 w1.1 w1.2.1.1 ht ho).I fun y S7 _ _ hy _ => ?_
    obtain ⟨rfl, rfl⟩ := hy
    by_cases okC : ab_mayC A1 (ab_n W.1) t o = true
    · rw [if_pos okC]
      have okC' := hmC.mp okC
      refine ⟨fun g => by omega, fun _ => ?_⟩
      obtain ⟨i, rfl⟩ : ∃ i : Nat, o = i := ⟨o.toNat, by omega⟩
      simp only [Int.toNat_natCast] at okC' hmC hmR rej ⊢
      have hi : i < ab_n W.1 := by omega
      have e72 : S7 72 i = A1.1 3 i := h2.1.c (c := 3) (by omega) hi
      have e70 : S7 70 i = A1.1 2 i := h2.1.c (c := 2) (by omega) hi
      have e74 : S7 74 i = A1.1 6 i := h2.1.c (c := 6) (by omega) hi
      have hN := w1.2.1.1
      refine ⟨by omega, by omega, fun g => rej _ rfl (by rw [hmR]; omega), fun g => ?_⟩
      rw [e72] at g
      refine (rp_in hq (rg_b (by omega) (by omega)) (rg_b (by omega) (by omega))).I fun y S24 _ _ hy _ => ?_
      obtain ⟨rfl, rfl⟩ := hy
      by_cases cq : 1 ≤ q ∧ q ≤ 1000
      · rw [if_pos cq]
        refine ⟨fun g => by omega, fun _ => (rp_in hp (rg_b (by omega) (by omega)) (rg_b (by omega) (by omega))).I fun y S35 _ _ hy _ => ?_⟩
        obtain ⟨rfl, rfl⟩ := hy
        by_cases cp : 1 ≤ p ∧ p ≤ 999
        · rw [if_pos cp]
          refine ⟨fun _ => ?_, fun g => by omega⟩
          rw [e70, e74]
          have hk6 := (w1.2.1.2.1 i hi).2.2.2.2.2.1
          obtain ⟨u, hu, hsd⟩ := w1.2.1.side hi
          have hbo := w2 t ht
          have go : ab_mayR A1 (ab_n W.1) t i q p = true → EE scr (d + 6) 38 0 [some (.ref 66), some (vi t), some (vi 5), some (vi i), some (vi q), some (vi p), none] S35 (pV fun S42 => ((¬ p = S42 73 i → ∀ S48 : sk_S, S48 = sk_u S42 71 i q → ∀ S51 : sk_S, S51 = sk_u S48 73 i p → ∀ S54 : sk_S, S54 = sk_u S51 72 i 0 → ∀ S57 : sk_S, S57 = sk_u S54 75 i 0 → EE scr (d + 6) 50 0 [some (.ref 66), some (vi i)] S57 (pV fun S60 => EE scr (d + 6) 63 0 [some (.ref 66), some (vi 0)] S60 (pI fun y S' => rg y → pI (fun x S' => x = (wd_fin band W (ab_repl band A1 i q p) 0).1 ∧ MX band (b + 50000) (wd_fin band W (ab_repl band A1 i q p) 0).2 S' ∧ FB S S') (some y) S'))) ∧ (p = S42 73 i → ((S42 71 i < q → ∀ S71 : sk_S, S71 = sk_u S42 71 i q → ∀ S74 : sk_S, S74 = sk_u S71 73 i p → ∀ S77 : sk_S, S77 = sk_u S74 72 i 0 → ∀ S80 : sk_S, S80 = sk_u S77 75 i 0 → EE scr (d + 6) 50 0 [some (.ref 66), some (vi i)] S80 (pV fun S83 => EE scr (d + 6) 63 0 [some (.ref 66), some (vi 0)] S83 (pI fun y S' => rg y → pI (fun x S' => x = (wd_fin band W (ab_repl band A1 i q p) 0).1 ∧ MX band (b + 50000) (wd_fin band W (ab_repl band A1 i q p) 0).2 S' ∧ FB S S') (some y) S'))) ∧ (¬ S42 71 i < q → ∀ S93 : sk_S, S93 = sk_u S42 71 i q → ∀ S96 : sk_S, S96 = sk_u S93 73 i p → EE scr (d + 6) 33 0 [some (vi (S96 75 i)), some (vi q)] S96 (pI fun y100 S99 => rg y100 → ∀ S104 : sk_S, S104 = sk_u S99 75 i y100 → EE scr (d + 6) 63 0 [some (.ref 66), some (vi 0)] S104 (pI fun y S' => rg y → pI (fun x S' => x = (wd_fin band W (ab_repl band A1 i q p) 0).1 ∧ MX band (b + 50000) (wd_fin band W (ab_repl band A1 i q p) 0).2 S' ∧ FB S S') (some y) S'))))))) := by
            intro ok
            have ok' := hmR.mp ok
            obtain ⟨o1, o2⟩ := repl_ws (band := band) w1 hi g cq cp w2
            refine (rp_tell h2 ht hbo.1 (by omega) (rg_b (by omega) (by omega)) (rg_n (by omega)) (rg_b (by omega) (by omega)) (rg_b (by omega) (by omega))).V fun S42 _ h42 => ?_
            obtain ⟨m42, f42, k42, -⟩ := h42
            have hT := w1.tell (s := t) (t := 5) (o := i) (q := q) (p := p)
            have hBT := w2.tell (s := t) (t := 5) (o := i) (q := q) (p := p)
            have d1 : (ab_tell A1 t 5 i q p).1 1 i = u := by rw [tell_1i _ (by omega)]; exact hsd
            have d3 : (ab_tell A1 t 5 i q p).1 3 i = 1 := by rw [tell_1i _ (by omega)]; exact g
            have d5 : (ab_tell A1 t 5 i q p).1 5 i = A1.1 5 i := by rw [tell_1i _ (by omega)]
            have d4 : (ab_tell A1 t 5 i q p).1 4 i = A1.1 4 i := by rw [tell_1i _ (by omega)]
            have d7 : (ab_tell A1 t 5 i q p).1 7 i = A1.1 7 i := by rw [tell_1i _ (by omega)]
            have d2 : (ab_tell A1 t 5 i q p).1 2 i = A1.1 2 i := by rw [tell_1i _ (by omega)]
            have d8 : (ab_tell A1 t 5 i q p).1 8 1 = A1.1 8 1 := by rw [tell_1i _ (by omega)]
            have e73 : S42 73 i = A1.1 5 i := (m42.1.c (c := 5) (by omega) hi).trans d5
            have e71 : S42 71 i = A1.1 4 i := (m42.1.c (c := 4) (by omega) hi).trans d4
            have e75 : S42 75 i = A1.1 7 i := (m42.1.c (c := 7) (by omega) hi).trans d7
            have er := repl_eq band A1 i q p
            rw [ok'.2.2.1] at er
            obtain ⟨r1, r2, r3⟩ := repl1_ws hT hi hu d1 d3 cq cp
            have h7 := (w1.2.1.2.1 i hi).2.2.1
            generalize hTT : ab_tell A1 t 5 i q p = T at *
            have g42 : MG S S42 := h3.trans f42.g
            have hopen := open_1 w1.n hi (show ¬ A1.1 3 i = 0 by omega)
            have big : ∀ S57 : sk_S, ab_repl band A1 i q p = ab_in band (ab_u (ab_u (ab_out T i) 4 i q) 5 i p) i → S57 = sk_u (sk_u (sk_u (sk_u S42 71 i q) 73 i p) 72 i 0) 75 i 0 → EE scr (d + 6) 50 0 [some (.ref 66), some (vi i)] S57 (pV fun S60 => EE scr (d + 6) 63 0 [some (.ref 66), some (vi 0)] S60 (pI fun y S' => rg y → pI (fun x S' => x = (wd_fin band W (ab_repl band A1 i q p) 0).1 ∧ MX band (b + 50000) (wd_fin band W (ab_repl band A1 i q p) 0).2 S' ∧ FB S S') (some y) S')) := by
              intro S57 eR q57
              have m57 : MI (ab_n W.1) b S57 (ab_u (ab_u (ab_out T i) 4 i q) 5 i p) := by
                have x1 := (((m42.1.col (c := 4) (q := 71) (i := i) (j := i) (v := q) (by omega) rfl (by omega)).col (c := 5) (q := 73) (i := i) (j := i) (v := p) (by omega) rfl (by omega)).col (c := 3) (q := 72) (i := i) (j := i) (v := 0) (by omega) rfl (by omega)).col (c := 7) (q := 75) (i := i) (j := i) (v := 0) (by omega) rfl (by omega)
                rw [← q57] at x1
                refine ⟨x1.lines (fun k j => ?_), ?_, ?_⟩
                · rw [ab_u_get, ab_u_get, out_1, ab_u_get (A := ab_u (ab_u (ab_u T 4 i q) 5 i p) 3 i 0), ab_u_get (A := ab_u (ab_u T 4 i q) 5 i p), ab_u_get (A := ab_u T 4 i q), ab_u_get (A := T)]
                  by_cases y5 : k = 5 ∧ j = i
                  · rw [if_pos y5, if_neg (by omega), if_neg (by omega), if_pos y5]
                  · rw [if_neg y5]
                    by_cases y4 : k = 4 ∧ j = i
                    · rw [if_pos y4, if_neg (by omega), if_neg (by omega), if_neg (by omega), if_pos y4]
                    · rw [if_neg y4]
                      by_cases y7 : k = 7 ∧ j = i
                      · rw [if_pos ⟨Or.inr y7.1, y7.2⟩, if_pos y7]
                      · rw [if_neg y7]
                        by_cases y3 : k = 3 ∧ j = i
                        · rw [if_pos ⟨Or.inl y3.1, y3.2⟩, if_pos y3]
                        · rw [if_neg (by omega), if_neg y3, if_neg y5, if_neg y4]
                · have hni : ∀ v, v < 2 → ¬ i ∈ (ab_u (ab_out T i) 4 i q).2 v := by
                    intro v hv hm
                    have := ((r1.2.1.2.2 v hv).2.1 i).mp hm
                    rw [r2] at this
                    omega
                  refine (RK.price (((m42.2.1.out (i := i)).same (B := ab_u (ab_out T i) 4 i q) (fun _ => rfl) (fun j => u_ne (Or.inl (by omega))))) hni).cells ?_ ?_
                  · rw [q57, sk_u_ne (by omega), sk_u_ne (by omega), sk_u_ne (by omega), sk_u_ne (by omega)]
                  · rw [q57, sk_u_ne (by omega), sk_u_ne (by omega), sk_u_ne (by omega), sk_u_ne (by omega)]
                · rw [q57, sk_u_ne (by omega), sk_u_ne (by omega), sk_u_ne (by omega), sk_u_ne (by omega)]
                  exact m42.2.2
              have f57 : MF S42 S57 := by
                rw [q57]
                exact (((MF.u (by omega)).trans (MF.u (by omega))).trans (MF.u (by omega))).trans (MF.u (by omega))
              have x8 : (ab_u (ab_u (ab_out T i) 4 i q) 5 i p).1 8 1 = A1.1 8 1 := by rw [u_ne (Or.inl (by omega)), u_ne (Or.inl (by omega)), out_ne (Or.inl (by omega))]; exact d8
              have x2 : (ab_u (ab_u (ab_out T i) 4 i q) 5 i p).1 2 i = A1.1 2 i := by rw [u_ne (Or.inl (by omega)), u_ne (Or.inl (by omega)), out_ne (Or.inl (by omega))]; exact d2
              have hk := ((w1.2.2.2.2.2.2.1 i hi).2.2.1 g).2.2
              refine (rp_comeIn (band := band) (show (39 : Int) ≤ 40 by omega) hi m57 r1 r2 (by rw [f57.2.1 0 (by omega) (by omega), g42.2.1 0 (by omega) (by omega)]; exact hX.2.2.2.2.2) (hBT.same (fun j => by rw [u_ne (Or.inl (by omega)), u_ne (Or.inl (by omega)), out_ne (Or.inl (by omega))])) (by omega) (by omega) (by rw [x8]; exact fun h0 => by have := hph h0; omega) (fun _ => by rw [x2]; omega) (by rw [r3]; omega)).V fun S60 _ h60 => ?_
              obtain ⟨m60, f60⟩ := h60
              rw [← eR] at m60
              exact mx_fin hX hW hc m60 o1 o2 (by omega) (by omega) (by omega) ((g42.trans f57.g).trans f60.g) (fun u hu x hx => by rw [f60.1 80 (by omega), f57.1 80 (by omega), f42.1 80 (by omega)]; exact h80 u hu x hx) rg_0
            rw [e73, e71]
            refine ⟨fun k S48 q48 S51 q51 S54 q54 S57 q57 => big S57 (by rw [er, if_neg (fun h => k h.1)]) (by rw [q57, q54, q51, q48]), fun k => ⟨fun k2 S71 q71 S74 q74 S77 q77 S80 q80 => big S80 (by rw [er, if_neg (by omega)]) (by rw [q80, q77, q74, q71]), fun k2 S93 q93 S96 q96 => ?_⟩⟩
            have m96 : MI (ab_n W.1) b S96 (ab_u T 4 i q) := by
              have x1 := m42.col (c := 4) (k := 71) (i := i) (v := q) (by omega) (by omega) rfl
              rw [← q93] at x1
              have e : S96 = S93 := by
                rw [q96]
                exact sk_u_same (by rw [q93, sk_u_ne (by omega), e73]; exact k.symm)
              rw [e]
              exact x1
            have x75 : S96 75 i = A1.1 7 i := by rw [q96, sk_u_ne (by omega), q93, sk_u_ne (by omega)]; exact e75
            rw [x75]
            refine (rp_least (rg_b (by omega) (by omega)) hq).I fun y S99 _ _ hy _ S104 q104 => ?_
            obtain ⟨rfl, rfl⟩ := hy
            have m104 := m96.col (c := 7) (k := 75) (i := i) (v := min (A1.1 7 i) q) (by omega) (by omega) rfl
            rw [← q104] at m104
            have eR : ab_repl band A1 i q p = ab_u (ab_u T 4 i q) 7 i (min (A1.1 7 i) q) := by rw [er, if_pos (by omega)]
            rw [← eR] at m104
            have f104 : MF S42 S104 := by
              rw [q104, q96, q93]
              exact ((MF.u (by omega)).trans (MF.u (by omega))).trans (MF.u (by omega))
            exact mx_fin hX hW hc m104 o1 o2 (by omega) (by omega) (by omega) (g42.trans f104.g) (fun u hu x hx => by rw [f104.1 80 (by omega), f42.1 80 (by omega)]; exact h80 u hu x hx) rg_0
          by_cases ok : ab_mayR A1 (ab_n W.1) t i q p = true
          · rw [if_pos ok]
            exact ⟨fun _ => go ok, fun _ => ⟨rg_b (by omega) (by omega), fun _ => go ok, fun k => by have := (hmR.mp ok).2.2.2.2.2.2; omega⟩⟩
          · refine ⟨fun k => absurd (hmR.mpr ⟨by omega, by omega, okC'.2.2.1, g, cq, cp, ?_⟩) ok, fun k => ⟨rg_b (by omega) (by omega), fun k2 => absurd (hmR.mpr ⟨by omega, by omega, okC'.2.2.1, g, cq, cp, k2⟩) ok, fun _ => rej _ rfl ok⟩⟩
            rw [hpk i hi k]
            omega
        · rw [if_neg cp]
          exact ⟨fun g => absurd rfl g, fun _ => rej _ rfl (by rw [hmR]; omega)⟩
      · rw [if_neg cq]
        exact ⟨fun _ => rej _ rfl (by rw [hmR]; omega), fun g => absurd rfl g⟩
    · rw [if_neg okC]
      refine ⟨fun _ => rej _ rfl (fun h => okC ?_), fun g => absurd rfl g⟩
      have := hmR.mp h
      rw [hmC]
      omega
  · rw [if_neg c0]
    refine ⟨fun g => absurd g c0, fun _ => ⟨_, rfl, rfl, ?_, fun k hk => h3.1 k (by omega)⟩⟩
    rw [hear_n c0] at h2
    exact ⟨h2.le (by omega), hX.2.1.saved h3.sf, hX.2.2.1.saved h3.sf hW.2.1.1.2.1, hX.2.2.2.1.g h3, hX.2.2.2.2.1.g h3, by rw [h3.2.1 0 (by omega) (by omega)]; exact hX.2.2.2.2.2⟩
