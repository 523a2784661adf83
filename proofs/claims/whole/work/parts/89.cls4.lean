/-! 89.cls4: the class: trade, match, settle, comeIn -/
theorem WFw.own {N : Nat} {A : ab} (h : WFw N A) {i : Nat} (hi : i < N) : ∃ o : Nat, o < 4 ∧ A.1 0 i = o := by
  have := (h.2.1 i hi).1
  exact ⟨(A.1 0 i).toNat, by omega, by omega⟩
theorem WFw.side {N : Nat} {A : ab} (h : WFw N A) {i : Nat} (hi : i < N) : ∃ s : Nat, s < 2 ∧ A.1 1 i = s := by
  have := (h.2.1 i hi).2.1
  exact ⟨(A.1 1 i).toNat, by omega, by omega⟩
theorem sp_best {scr : Nat × (Nat → Int32)} {d N s : Nat} {S : sk_S} {A : ab} (hR : RC 0 N S A) (hs : s < 2) : EE scr d 96 0 [some (.ref 10), some (vi s)] S (pI fun x S' => S' = S ∧ x = match A.2 s with
    | [] => -1
    | b :: _ => (b : Int)) := by
  obtain ⟨h1, h2⟩ := hR.2.2.1 s hs
  refine st_96_0 (rg_n (by omega)) ?_
  simp only [Int.toNat_natCast]
  have h1' : S 22 s = ((A.2 s).length : Int) := h1
  have h2' : ∀ j i : Nat, (A.2 s)[j]? = some i → S (20 + s) j = (i : Int) := h2
  rw [h1']
  refine ⟨by omega, by omega, fun g => ⟨_, rfl, rfl, ?_⟩, fun g => ⟨_, rfl, rfl, ?_⟩⟩
  · cases hl : A.2 s with
    | nil => rw [hl] at g; exact absurd rfl g
    | cons b l => exact h2' 0 b (by rw [hl]; rfl)
  · cases hl : A.2 s with
    | nil => rfl
    | cons b l => rw [hl, List.length_cons] at g; omega
theorem sp_meets {scr : Nat × (Nat → Int32)} {d N b i : Nat} {S : sk_S} {A : ab} {p : Int} (hR : RC 0 N S A) (hi : i < N) (hN : N ≤ 200) (hp : p = A.1 5 b) (rp : rg p) : EE scr (d + 1) 133 0 [some (.ref 1), some (vi p), some (vi i), none] S (pI fun x S' => S' = S ∧ x = if ab_meets A b i = true then 1 else 0) := by
  refine Ev.good fun hS => st_133_0 rp (rg_n (by omega)) ?_
  simp only [Int.toNat_natCast]
  refine ⟨by omega, by omega, (sp_hasLimit (hS _ _)).I fun x S' _ _ h _ => ?_⟩
  obtain ⟨rfl, rfl⟩ := h
  have e1 : S' 12 i = A.1 1 i := hR.2.1 1 (by omega) i hi
  have e2 : S' 13 i = A.1 2 i := hR.2.1 2 (by omega) i hi
  have e5 : S' 16 i = A.1 5 i := hR.2.1 5 (by omega) i hi
  simp only [e1, e2, e5]
  unfold ab_meets
  rw [← hp]
  by_cases k : A.1 2 i = 1 ∨ A.1 2 i = 4
  · rw [if_pos k]
    refine ⟨fun g => absurd rfl g, fun _ => ⟨_, rfl, rfl, ?_⟩⟩
    rw [if_pos]
    simp [k]
  · rw [if_neg k]
    refine ⟨fun _ => ⟨fun g => ⟨fun g2 => ⟨_, rfl, rfl, ?_⟩, fun g2 => ⟨_, rfl, rfl, ?_⟩⟩, fun g => ⟨fun g2 => ⟨_, rfl, rfl, ?_⟩, fun g2 => ⟨_, rfl, rfl, ?_⟩⟩⟩, fun g => by omega⟩
    · rw [if_neg]
      simp [k, g]
      omega
    · rw [if_pos]
      simp [k, g]
      omega
    · rw [if_neg]
      simp [k, g]
      omega
    · rw [if_pos]
      simp [k, g]
      omega
theorem sp_wild {scr : Nat × (Nat → Int32)} {d N : Nat} {S : sk_S} {A : ab} {p band : Int} (hR : RC 0 N S A) (hb : S 1 0 = band) (hp : 1 ≤ p ∧ p ≤ 999) (hr : 1 ≤ A.1 8 3 ∧ A.1 8 3 ≤ 999) : EE scr (d + 1) 134 0 [some (.ref 1), some (vi p)] S (pI fun x S' => S' = S ∧ x = if ab_wild band A p = true then 1 else 0) := by
  have e : S 9 2 = A.1 8 3 := hR.1.2.2.2
  refine st_134_0 (rg_b (by omega) (by omega)) ?_
  simp only [e, hb]
  unfold ab_wild
  refine ⟨rg_b (by omega) (by omega), rg_b (by omega) (by omega), fun g => ⟨_, rfl, rfl, ?_⟩, fun g => ⟨_, rfl, rfl, ?_⟩⟩
  · rw [if_neg]
    rw [decide_eq_true_eq]
    omega
  · rw [if_pos]
    rw [decide_eq_true_eq]
    omega
theorem CI.tell {N : Nat} {S S' : sk_S} {A : ab} {s : Nat} {t o q p : Int} (h : CI N S A) (h1 : RC 0 N S' (ab_tell A s t o q p)) (h2 : Fr 26 31 S S') : CI N S' (ab_tell A s t o q p) :=
  ⟨h1, h.2.1.frame (fun k hk => h2 k (by omega)) (fun x y => lev_tell x y), h.2.2.frame fun k hk => h2 k (by omega)⟩
theorem CI.cells {N : Nat} {S S' : sk_S} {A B : ab} (h : CI N S A) (h1 : RC 0 N S' B) (hf : ∀ k, (4 ≤ k ∧ k ≤ 7) ∨ (60 ≤ k ∧ k ≤ 61) → S' k = S k) (h2 : ∀ s, B.2 s = A.2 s) (h5 : ∀ i, B.1 5 i = A.1 5 i) (h7 : ∀ i, B.1 7 i = A.1 7 i) : CI N S' B :=
  ⟨h1, h.2.1.frame (fun k hk => hf k (by omega)) (fun s p => lev_same h2 h5 h7 s p), h.2.2.frame fun k hk => hf k (by omega)⟩
theorem sp_trade {scr : Nat × (Nat → Int32)} {d N b i s : Nat} {S : sk_S} {A : ab} {m B : Int} (hC : CI N S A) (hW : WS N m A) (hm : m ≤ 40) (hi : i < N) (hst : A.1 3 i = 0) (hq : 1 ≤ A.1 4 i) (hs : s < 2) (hb : b ∈ A.2 s) (hB : rcB A B) (hB2 : B < 2147483000) :
    EE scr (d + 2) 127 0 [some (.ref 1), some (vi i), some (vi b), none, none, none] S (pV fun S' => CI N S' (ab_trade A b i) ∧ Fr 2 31 S S') := by
  obtain ⟨g1, g2, g3, g4, g5, g6, g7, g8⟩ := hW
  have hR := hC.1
  obtain ⟨c0, c1, c2⟩ := g2.2.2 s hs
  obtain ⟨a1, a2, a3⟩ := (c1 b).mp hb
  have hib : ¬ i = b := fun e => by rw [e, a2] at hst; omega
  have hN := g2.1
  have hb7 := (g7 b a1).2.2.1 a2
  obtain ⟨vb1, vb2, vb3, vb4, vb5, vb6, vb7⟩ := g2.2.1 b a1
  obtain ⟨vi1, vi2, vi3, vi4, vi5, vi6, vi7⟩ := g2.2.1 i hi
  have hpb := vb4 a2
  obtain ⟨ob, hob, eob⟩ := g2.own a1
  obtain ⟨oi, hoi, eoi⟩ := g2.own hi
  have e15i : S 15 i = A.1 4 i := hR.2.1 4 (by omega) i hi
  have e18b : S 18 b = A.1 7 b := hR.2.1 7 (by omega) b a1
  have e15b : S 15 b = A.1 4 b := hR.2.1 4 (by omega) b a1
  have e16b : S 16 b = A.1 5 b := hR.2.1 5 (by omega) b a1
  refine st_127_0 (rg_n (by omega)) (rg_n (by omega)) ?_
  simp only [Int.toNat_natCast, e15i, e18b, e16b]
  rw [trade_eq]
  generalize hv : min (A.1 4 i) (A.1 7 b) = v
  have hv1 : 1 ≤ v ∧ v ≤ A.1 4 i ∧ v ≤ A.1 7 b := by omega
  refine ⟨by omega, by omega, by omega, by omega, fun S1 q1 => ?_⟩
  have hR1 : RC 0 N S1 (ab_u A 8 2 (A.1 5 b)) := by rw [q1]; exact hR.sc (by omega)
  have f1 : S1 15 i = A.1 4 i := by rw [q1, sk_u_ne (by omega)]; exact e15i
  rw [f1]
  refine ⟨rg_b (by omega) (by omega), fun S4 q4 => ?_⟩
  have hR4 : RC 0 N S4 (ab_u (ab_u A 8 2 (A.1 5 b)) 4 i (A.1 4 i - v)) := by rw [q4]; exact hR1.col (by omega) (by omega)
  have f4 : S4 15 b = A.1 4 b := by rw [q4, sk_u_nj (by omega), q1, sk_u_ne (by omega)]; exact e15b
  rw [f4]
  refine ⟨rg_b (by omega) (by omega), fun S7 q7 => ?_⟩
  have hR7 : RC 0 N S7 (ab_u (ab_u (ab_u A 8 2 (A.1 5 b)) 4 i (A.1 4 i - v)) 4 b (A.1 4 b - v)) := by rw [q7]; exact hR4.col (by omega) (by omega)
  have fr7 : Fr 9 15 S S7 := fun k hk => by rw [q7, sk_u_ne (by omega), q4, sk_u_ne (by omega), q1, sk_u_ne (by omega)]
  have hC7 : CI N S7 (ab_u (ab_u (ab_u A 8 2 (A.1 5 b)) 4 i (A.1 4 i - v)) 4 b (A.1 4 b - v)) := hC.cells hR7 (fun k hk => fr7 k (by omega)) (fun _ => rfl) (fun j => by rw [u_ne (Or.inl (by omega)), u_ne (Or.inl (by omega)), u_ne (Or.inl (by omega))]) (fun j => by rw [u_ne (Or.inl (by omega)), u_ne (Or.inl (by omega)), u_ne (Or.inl (by omega))])
  have r11 : ∀ j, (ab_u (ab_u (ab_u A 8 2 (A.1 5 b)) 4 i (A.1 4 i - v)) 4 b (A.1 4 b - v)).1 11 j = A.1 11 j := fun j => by rw [u_ne (Or.inl (by omega)), u_ne (Or.inl (by omega)), u_ne (Or.inl (by omega))]
  have r0 : ∀ j, (ab_u (ab_u (ab_u A 8 2 (A.1 5 b)) 4 i (A.1 4 i - v)) 4 b (A.1 4 b - v)).1 0 j = A.1 0 j := fun j => by rw [u_ne (Or.inl (by omega)), u_ne (Or.inl (by omega)), u_ne (Or.inl (by omega))]
  have hB7 : rcB (ab_u (ab_u (ab_u A 8 2 (A.1 5 b)) 4 i (A.1 4 i - v)) 4 b (A.1 4 b - v)) B := hB.same r11
  have hbo := hB7 ob hob
  refine (sp_tellOwner (s := ob) hR7 a1 hN hob (by rw [r0]; exact eob) hbo.1 (by omega) (rg_b (by omega) (by omega)) (rg_b (by omega) (by omega)) (rg_b (by omega) (by omega))).V fun S10 _ hk => ?_
  obtain ⟨k1, k2⟩ := hk
  have hB10 := hB7.tell (s := ob) (t := 2) (o := b) (q := v) (p := A.1 5 b)
  have hbi := hB10 oi hoi
  have hC10 := hC7.tell k1 k2
  refine (sp_tellOwner (s := oi) k1 hi hN hoi (by rw [tell_1i _ (by omega), r0]; exact eoi) hbi.1 (by omega) (rg_b (by omega) (by omega)) (rg_b (by omega) (by omega)) (rg_b (by omega) (by omega))).V fun S15 _ hk' => ?_
  obtain ⟨k3, k4⟩ := hk'
  have hC15 := hC10.tell k3 k4
  have eA : ab_tell (ab_tell (ab_u (ab_u (ab_u A 8 2 (A.1 5 b)) 4 i (A.1 4 i - v)) 4 b (A.1 4 b - v)) ob 2 b v (A.1 5 b)) oi 2 i v (A.1 5 b) = ab_t1 A b i v (A.1 5 b) := by
    unfold ab_t1
    rw [eob, eoi]
  rw [eA] at hC15
  have hw1 := t1_w g2 (b := b) (i := i) (v := v) (p := A.1 5 b) (by omega) (by omega) (by omega) (by omega)
  have fr15 : Fr 2 31 S S15 := fun k hk => by rw [k4 k (by omega), k2 k (by omega), fr7 k (by omega)]
  have hbm : b ∈ (ab_t1 A b i v (A.1 5 b)).2 s := hb
  refine ⟨rg_b (by omega) (by omega), fun g => ?_, fun g => ?_⟩
  · rw [if_neg (by omega)]
    refine (sp_takeOut hC15 hw1 hs hbm).V fun S21 _ hk5 => ?_
    obtain ⟨k5, k6, -⟩ := hk5
    have f21 : S21 15 b = A.1 4 b - v := by
      have := k5.1.2.1 4 (by omega) b a1
      rw [out_ne (Or.inl (by omega)), t1_1 (by omega), if_pos ⟨rfl, rfl⟩] at this
      exact this
    rw [f21]
    refine ⟨fun g2' => ?_, fun g2' => ?_⟩
    · rw [if_neg (by omega)]
      exact ⟨rfl, k5, fr15.trans k6⟩
    · rw [if_pos (by omega)]
      have hwo := hw1.out hs hbm
      have q1' : (ab_t1 A b i v (A.1 5 b)).1 1 b = A.1 1 b := by rw [t1_1 (by omega), if_neg (by omega), if_neg (by omega)]
      have hsdo : (ab_out (ab_t1 A b i v (A.1 5 b)) b).1 1 b = s := by rw [out_ne (Or.inl (by omega)), q1']; exact a3
      have hlo : ((ab_out (ab_t1 A b i v (A.1 5 b)) b).2 s).length ≤ 39 := by
        rw [out_2 (ab_sd_of (q1'.trans a3)), if_pos rfl]
        have := len_out c0 hb
        show ((A.2 s).filter _).length ≤ 39
        omega
      have hpo : 1 ≤ (ab_out (ab_t1 A b i v (A.1 5 b)) b).1 5 b ∧ (ab_out (ab_t1 A b i v (A.1 5 b)) b).1 5 b ≤ 999 := by rw [out_ne (Or.inl (by omega)), t1_1 (by omega), if_neg (by omega), if_neg (by omega)]; exact hpb
      have hso : Srt (ab_out (ab_t1 A b i v (A.1 5 b)) b) s := Srt.out ((g3 s hs).same rfl (fun j => by rw [t1_1 (by omega), if_neg (by omega), if_neg (by omega)]))
      refine (sp_rest k5 hwo a1 hs hsdo (by rw [out_1, if_pos ⟨Or.inl rfl, rfl⟩]; omega) hpo hlo hso).V fun S27 _ hk7 => ?_
      exact ⟨rfl, hk7.1, (fr15.trans k6).trans hk7.2⟩
  · rw [if_pos (by omega)]
    refine (sp_show hC15 hw1 hs hbm (by omega) (by omega)).V fun S32 _ hk5 => ?_
    exact ⟨rfl, hk5.1, fr15.trans hk5.2.1⟩
theorem drop_rc {A : ab} {i : Nat} {b : Int} (h : rcB A b) (ho : 0 ≤ A.1 0 i) : rcB (ab_drop A i) (b + 1) := by
  unfold ab_drop
  refine (h.telli (t := 3) (o := i) (q := A.1 4 i) (p := ab_told A i) ho).same (fun j => ?_)
  rw [u_ne (Or.inl (by omega)), out_ne (Or.inl (by omega))]
theorem t1_rc {A : ab} {b i : Nat} {v p B : Int} (h : rcB A B) (h0 : 0 ≤ A.1 0 b) (h1 : 0 ≤ A.1 0 i) : rcB (ab_t1 A b i v p) (B + 1 + 1) := by
  unfold ab_t1
  refine ((h.same (fun j => ?_)).telli h0).telli h1
  rw [u_ne (Or.inl (by omega)), u_ne (Or.inl (by omega)), u_ne (Or.inl (by omega))]
theorem trade_rc {A : ab} {b i : Nat} {B : Int} (h : rcB A B) (h0 : 0 ≤ A.1 0 b) (h1 : 0 ≤ A.1 0 i) : rcB (ab_trade A b i) (B + 2) := by
  have h2 := (t1_rc h h0 h1 (v := min (A.1 4 i) (A.1 7 b)) (p := A.1 5 b)).le (c := B + 2) (by omega)
  rw [trade_eq]
  split
  · exact h2.same (fun j => u_ne (Or.inl (by omega)))
  · split
    · exact h2.same (fun j => by rw [rst_ne (Or.inl (by omega)), out_ne (Or.inl (by omega))])
    · exact h2.same (fun j => out_ne (Or.inl (by omega)))
theorem drop_row {A : ab} {i k j : Nat} (hk : k < 11) (h3 : ¬ k = 3) (h4 : ¬ k = 4) (h7 : ¬ k = 7) : (ab_drop A i).1 k j = A.1 k j := by
  unfold ab_drop
  rw [u_ne (Or.inl h4), out_ne (Or.inl ⟨h3, h7⟩), tell_1i _ hk]
/-- what matching keeps -/
theorem loop_ws {N : Nat} {m band : Int} {i : Nat} (hm : m ≤ 40) (hi : i < N) : ∀ (f : Nat) (A : ab) (B : Int), WS N m A → A.1 3 i = 0 → rcB A B → WS N m (ab_loop band f A i) ∧ (ab_loop band f A i).1 3 i = 0 ∧ rcB (ab_loop band f A i) (B + 2 * f) ∧ (∀ k, k < 8 → ¬ k = 3 → ¬ k = 4 → ¬ k = 7 → ∀ j, (ab_loop band f A i).1 k j = A.1 k j) := by
  intro f
  induction f with
  | zero =>
    intro A B h1 h2 h3
    exact ⟨h1, h2, h3.le (by omega), fun _ _ _ _ _ _ => rfl⟩
  | succ f ih =>
    intro A B h1 h2 h3
    have base : WS N m A ∧ A.1 3 i = 0 ∧ rcB A (B + 2 * (f + 1 : Nat)) ∧ (∀ k, k < 8 → ¬ k = 3 → ¬ k = 4 → ¬ k = 7 → ∀ j, A.1 k j = A.1 k j) := ⟨h1, h2, h3.le (by omega), fun _ _ _ _ _ _ => rfl⟩
    unfold ab_loop
    by_cases c0 : 0 < A.1 4 i
    · rw [if_pos c0]
      obtain ⟨s, hs, hsd⟩ := h1.2.1.side hi
      have esd : ab_sd A i = s := ab_sd_of hsd
      rw [esd]
      cases hl : A.2 (1 - s) with
      | nil => exact base
      | cons b l =>
        have hb : b ∈ A.2 (1 - s) := by rw [hl]; exact List.mem_cons_self
        have hs1 : 1 - s < 2 := by omega
        obtain ⟨a1, a2, a3⟩ := ((h1.2.1.2.2 (1 - s) hs1).2.1 b).mp hb
        have hib : ¬ i = b := fun e => by rw [e, a2] at h2; omega
        have hbo := (h1.2.1.2.1 b a1).1
        have hio := (h1.2.1.2.1 i hi).1
        dsimp only
        by_cases c1 : ab_meets A b i = false
        · rw [if_pos c1]; exact base
        · rw [if_neg c1]
          by_cases c2 : ab_wild band A (A.1 5 b) = true
          · rw [if_pos c2]
            exact ⟨h1.phase (by omega) (by omega), by rw [u_ne (Or.inl (by omega))]; exact h2, (h3.le (by omega)).same (fun j => u_ne (Or.inl (by omega))), fun k hk _ _ _ j => u_ne (Or.inl (by omega))⟩
          · rw [if_neg c2]
            by_cases c3 : A.1 0 b = A.1 0 i
            · rw [if_pos c3]
              obtain ⟨r1, r2, r3, r4⟩ := ih (ab_drop A b) (B + 1) (h1.drop a1 hs1 a3) (by
                unfold ab_drop
                rw [u_ne (Or.inl (by omega)), out_ne (Or.inr hib), tell_1i _ (by omega)]
                exact h2) (drop_rc h3 hbo.1)
              exact ⟨r1, r2, r3.le (by omega), fun k hk k3 k4 k7 j => by rw [r4 k hk k3 k4 k7 j, drop_row (by omega) k3 k4 k7]⟩
            · rw [if_neg c3]
              obtain ⟨t1, t2, t3, t4, t5⟩ := h1.trade (b := b) hm hi h2 (by omega) hs1 hb
              obtain ⟨r1, r2, r3, r4⟩ := ih (ab_trade A b i) (B + 2) t1 t2 (trade_rc h3 hbo.1 hio.1)
              exact ⟨r1, r2, r3.le (by omega), fun k hk k3 k4 k7 j => by rw [r4 k hk k3 k4 k7 j, t5 k hk k3 k4 k7 j]⟩
    · rw [if_neg c0]; exact base
theorem told_rg {N : Nat} {m : Int} {A : ab} (h : WS N m A) {i : Nat} (hi : i < N) : rg (ab_told A i) := by
  unfold ab_told
  split
  · exact rg_0
  · exact (h.2.2.2.2.2.2.1 i hi).2.2.2.2.2
theorem sp_loop {scr : Nat × (Nat → Int32)} {d N i s : Nat} {m band : Int} (hm : m ≤ 40) (hi : i < N) (hs : s < 2) : ∀ (f step : Nat) (S : sk_S) (A : ab) (B : Int) (l4 : Option Value), step + f = 1040 → CI N S A → WS N m A → A.1 3 i = 0 → A.1 1 i = s → S 1 0 = band → rcB A B → B + 2 * f < 2147483000 →
    EE scr (d + 3) 126 14 [some (.ref 1), some (vi i), some (vi (1 - s : Nat)), some (vi step), l4] S (pV fun S' => CI N S' (ab_loop band f A i) ∧ Fr 2 31 S S') := by
  intro f
  induction f with
  | zero =>
    intro step S A B l4 hf hC hW hst hsd hbd hB hB2
    have hN := hW.2.1.1
    refine st_126_14 (rg_n (by omega)) (rg_n (by omega)) (rg_n (by omega)) ?_
    exact ⟨fun _ => ⟨rfl, hC, Fr.refl⟩, fun g => by omega⟩
  | succ f ih =>
    intro step S A B l4 hf hC hW hst hsd hbd hB hB2
    have hN := hW.2.1.1
    have hR := hC.1
    have e15 : S 15 i = A.1 4 i := hR.2.1 4 (by omega) i hi
    have hs1 : 1 - s < 2 := by omega
    refine st_126_14 (rg_n (by omega)) (rg_n (by omega)) (rg_n (by omega)) ?_
    simp only [Int.toNat_natCast, e15]
    unfold ab_loop
    refine ⟨fun g => by omega, fun _ => ⟨by omega, by omega, fun g => ?_, fun g => ?_⟩⟩
    · rw [if_neg (by omega)]
      exact ⟨rfl, hC, Fr.refl⟩
    · rw [if_pos (by omega), ab_sd_of hsd]
      refine (sp_best hR hs1).I fun x S3 _ _ hx _ => ?_
      obtain ⟨rfl, hx⟩ := hx
      cases hl : A.2 (1 - s) with
      | nil =>
        rw [hl] at hx
        dsimp only at hx ⊢
        exact ⟨fun _ => ⟨rfl, hC, Fr.refl⟩, fun g2 => absurd hx g2⟩
      | cons b l =>
        rw [hl] at hx
        dsimp only at hx ⊢
        subst hx
        have hb : b ∈ A.2 (1 - s) := by rw [hl]; exact List.mem_cons_self
        obtain ⟨a1, a2, a3⟩ := ((hW.2.1.2.2 (1 - s) hs1).2.1 b).mp hb
        have hib : ¬ i = b := fun e => by rw [e, a2] at hst; omega
        have hbo := (hW.2.1.2.1 b a1).1
        have hio := (hW.2.1.2.1 i hi).1
        have hpb := (hW.2.1.2.1 b a1).2.2.2.1 a2
        have e16 : S3 16 b = A.1 5 b := hR.2.1 5 (by omega) b a1
        have e11b : S3 11 b = A.1 0 b := hR.2.1 0 (by omega) b a1
        have e11i : S3 11 i = A.1 0 i := hR.2.1 0 (by omega) i hi
        refine ⟨fun g2 => by omega, fun _ => ⟨by omega, by omega, ?_⟩⟩
        simp only [Int.toNat_natCast, e16]
        refine (sp_meets (b := b) hR hi hN rfl (rg_b (by omega) (by omega))).I fun y S9 _ _ hy _ => ?_
        obtain ⟨rfl, rfl⟩ := hy
        simp only [e16]
        by_cases c1 : ab_meets A b i = true
        · rw [if_pos c1, if_neg (show ¬ ab_meets A b i = false by rw [c1]; decide)]
          refine ⟨fun _ => ?_, fun g3 => by omega⟩
          refine (sp_wild hR hbd hpb hW.2.2.2.1).I fun z S15 _ _ hz _ => ?_
          obtain ⟨rfl, rfl⟩ := hz
          simp only [e11b, e11i]
          by_cases c2 : ab_wild band A (A.1 5 b) = true
          · rw [if_pos c2, if_pos c2]
            refine ⟨fun g4 => by omega, fun _ S32 q32 => ⟨rfl, ?_, ?_⟩⟩
            · rw [q32]
              exact hC.cells (hR.sc (by omega)) (fun k hk => sk_u_ne (by omega)) (fun _ => rfl) (fun j => u_ne (Or.inl (by omega))) (fun j => u_ne (Or.inl (by omega)))
            · rw [q32]
              exact Fr.u (by omega) (by omega)
          · rw [if_neg c2, if_neg c2]
            refine ⟨fun _ => ⟨fun g4 => ?_, fun g4 => ?_⟩, fun g4 => absurd rfl g4⟩
            · rw [if_neg g4]
              obtain ⟨t1, t2, t3, t4, t5⟩ := hW.trade (b := b) hm hi hst (by omega) hs1 hb
              refine (sp_trade hC hW hm hi hst (by omega) hs1 hb hB (by omega)).V fun S22 _ hk => ?_
              have h := ih (step + 1) S22 (ab_trade A b i) (B + 2) (some (vi b)) (by omega) hk.1 t1 t2 (by rw [t5 1 (by omega) (by omega) (by omega) (by omega)]; exact hsd) (by rw [hk.2 1 (by omega)]; exact hbd) (trade_rc hB hbo.1 hio.1) (by omega)
              exact h.V fun S' _ hq => ⟨hq.1, hk.2.trans hq.2⟩
            · rw [if_pos g4]
              refine (sp_cancel hC hW.2.1 a1 hs1 a3 (hW.2.2.2.2.2.2.1 b a1).2.1 hB (by omega) (told_rg hW a1)).V fun S27 _ hk => ?_
              have h := ih (step + 1) S27 (ab_drop A b) (B + 1) (some (vi b)) (by omega) hk.1 (hW.drop a1 hs1 a3) (by
                unfold ab_drop
                rw [u_ne (Or.inl (by omega)), out_ne (Or.inr hib), tell_1i _ (by omega)]
                exact hst) (by rw [drop_row (by omega) (by omega) (by omega) (by omega)]; exact hsd) (by rw [hk.2 1 (by omega)]; exact hbd) (drop_rc hB hbo.1) (by omega)
              exact h.V fun S' _ hq => ⟨hq.1, hk.2.trans hq.2⟩
        · have c1' : ab_meets A b i = false := Bool.eq_false_iff.mpr c1
          rw [if_neg c1, if_pos c1']
          exact ⟨fun g3 => absurd rfl g3, fun _ => ⟨rfl, hC, Fr.refl⟩⟩
theorem sp_match {scr : Nat × (Nat → Int32)} {d N i : Nat} {m band B : Int} {S : sk_S} {A : ab} (hm : m ≤ 40) (hi : i < N) (hC : CI N S A) (hW : WS N m A) (hst : A.1 3 i = 0) (hbd : S 1 0 = band) (hB : rcB A B) (hB2 : B + 2080 < 2147483000) :
    EE scr (d + 3) 126 0 [some (.ref 1), some (vi i), none, none, none] S (pV fun S' => CI N S' (ab_loop band 1040 A i) ∧ Fr 2 31 S S') := by
  have hN := hW.2.1.1
  obtain ⟨s, hs, hsd⟩ := hW.2.1.side hi
  have e12 : S 12 i = s := (hC.1.2.1 1 (by omega) i hi).trans hsd
  refine st_126_0 (rg_n (by omega)) ?_
  simp only [Int.toNat_natCast, e12]
  have h := sp_loop (scr := scr) (d := d) hm hi hs 1040 0 S A B none rfl hC hW hst hsd hbd hB (by omega)
  rw [show ((1 - s : Nat) : Int) = 1 - (s : Int) by omega] at h
  exact ⟨by omega, by omega, h⟩
theorem sp_mayRest {scr : Nat × (Nat → Int32)} {d : Nat} {S : sk_S} {k : Int} (hk : rg k) : EE scr d 26 0 [some (vi k)] S (pI fun x S' => S' = S ∧ x = if k = 0 ∨ k = 5 then 1 else 0) := by
  refine st_26_0 hk ⟨fun h => ⟨_, rfl, rfl, ?_⟩, fun h => ⟨fun h2 => ⟨_, rfl, rfl, ?_⟩, fun h2 => ⟨_, rfl, rfl, ?_⟩⟩⟩
  · rw [if_pos (Or.inl h)]
  · rw [if_neg (by omega)]
  · rw [if_pos (Or.inr h2)]
theorem sp_settle {scr : Nat × (Nat → Int32)} {d N i : Nat} {m B : Int} {S : sk_S} {A : ab} (hm : m ≤ 39) (hi : i < N) (hC : CI N S A) (hW : WS N m A) (hst : A.1 3 i = 0) (hB : rcB A B) (hB2 : B < 2147483000) :
    EE scr (d + 3) 124 0 [some (.ref 1), some (vi i)] S (pV fun S' => CI N S' (ab_settle A i) ∧ Fr 2 31 S S') := by
  have hN := hW.2.1.1
  obtain ⟨s, hs, hsd⟩ := hW.2.1.side hi
  have e15 : S 15 i = A.1 4 i := hC.1.2.1 4 (by omega) i hi
  have e13 : S 13 i = A.1 2 i := hC.1.2.1 2 (by omega) i hi
  have hq := (hW.2.1.2.1 i hi).2.2.2.2.1
  have hkd := (hW.2.1.2.1 i hi).2.2.2.2.2.2
  refine st_124_0 (rg_n (by omega)) ?_
  simp only [Int.toNat_natCast, e15, e13]
  unfold ab_settle
  refine ⟨by omega, by omega, fun g => ?_, fun g => ?_⟩
  · rw [if_neg g]
    refine (sp_mayRest (rg_b (by omega) (by omega))).I fun x S2 _ _ hx _ => ?_
    obtain ⟨rfl, rfl⟩ := hx
    by_cases c : A.1 2 i = 0 ∨ A.1 2 i = 5
    · rw [if_pos c, if_pos c]
      have hl := hW.len hs
      have hp := (hW.2.2.2.2.2.2.1 i hi).2.2.2.2.1 (by omega)
      refine ⟨fun g2 => by omega, fun _ => (sp_rest hC hW.2.1 hi hs hsd (by omega) hp (by omega) (hW.2.2.1 s hs)).V fun S' _ hk => ⟨rfl, hk⟩⟩
    · rw [if_neg c, if_neg c]
      refine ⟨fun _ => (sp_cancel hC hW.2.1 hi hs hsd (hW.2.2.2.2.2.2.1 i hi).2.1 hB (by omega) (told_rg hW hi)).V fun S' _ hk => ⟨rfl, hk⟩, fun g2 => absurd rfl g2⟩
  · rw [if_pos g]
    exact ⟨rfl, hC, Fr.refl⟩
