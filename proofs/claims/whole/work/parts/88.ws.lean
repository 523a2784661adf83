/-! 88.ws: what holds of a market between operations; trade, drop, rest keep it -/
theorem tell_1i (A : ab) {s t o q p : Int} {k : Nat} (hk : k < 11) (j : Nat) : (ab_tell A s t o q p).1 k j = A.1 k j := by
  unfold ab_tell
  rw [u_ne (Or.inl (by omega)), u_ne (Or.inl (by omega)), u_ne (Or.inl (by omega)), u_ne (Or.inl (by omega)), u_ne (Or.inl (by omega))]
theorem WFw.telli {N : Nat} {A : ab} (h : WFw N A) {s t o q p : Int} : WFw N (ab_tell A s t o q p) := h.same (fun k hk i => tell_1i A (by omega) i) (fun _ => rfl)
theorem rcB.telli {A : ab} {b : Int} (h : rcB A b) {s t o q p : Int} (hs : 0 ≤ s) : rcB (ab_tell A s t o q p) (b + 1) := by
  obtain ⟨n, rfl⟩ : ∃ n : Nat, s = n := ⟨s.toNat, by omega⟩
  exact h.tell
theorem rcB.same {A B : ab} {b : Int} (h : rcB A b) (h1 : ∀ j, B.1 11 j = A.1 11 j) : rcB B b := fun s hs => by rw [h1]; exact h s hs
theorem rcB.le {A : ab} {b c : Int} (h : rcB A b) (hc : b ≤ c) : rcB A c := fun s hs => ⟨(h s hs).1, Int.le_trans (h s hs).2 hc⟩
theorem WFw.outs {N : Nat} {A : ab} (h : WFw N A) {i s : Nat} (hs : s < 2) (hsd : A.1 1 i = s) : WFw N (ab_out A i) := by
  by_cases hi : i ∈ A.2 s
  · exact h.out hs hi
  · obtain ⟨g0, g1, g2⟩ := h
    refine ⟨g0, fun j hj => ?_, fun t ht => ?_⟩
    · obtain ⟨b1, b2, b3, b4, b5, b6, b7⟩ := g1 j hj
      rw [out_ne (k := 0) (Or.inl (by omega)), out_ne (k := 1) (Or.inl (by omega)), out_ne (k := 5) (Or.inl (by omega)), out_ne (k := 4) (Or.inl (by omega)), out_ne (k := 6) (Or.inl (by omega)), out_ne (k := 2) (Or.inl (by omega))]
      by_cases e : j = i
      · rw [e, show (ab_out A i).1 7 i = 0 by rw [out_1, if_pos ⟨Or.inr rfl, rfl⟩], show (ab_out A i).1 3 i = 0 by rw [out_1, if_pos ⟨Or.inl rfl, rfl⟩]]
        rw [e] at b1 b2 b3 b4 b5 b6 b7
        exact ⟨b1, b2, by omega, fun q => by omega, b5, b6, b7⟩
      · rw [out_ne (k := 7) (Or.inr e), out_ne (k := 3) (Or.inr e)]
        exact ⟨b1, b2, b3, b4, b5, b6, b7⟩
    · obtain ⟨c1, c2, c3⟩ := g2 t ht
      have hl : (ab_out A i).2 t = A.2 t := by
        rw [out_2 (ab_sd_of hsd)]
        split
        · rename_i e
          rw [e, filter_none hi]
        · rfl
      rw [hl]
      refine ⟨c1, fun j => ?_, c3⟩
      rw [c2 j, out_ne (k := 1) (Or.inl (by omega))]
      by_cases e : j = i
      · rw [e, show (ab_out A i).1 3 i = 0 by rw [out_1, if_pos ⟨Or.inl rfl, rfl⟩]]
        constructor
        · intro q
          have : i ∈ A.2 t := (c2 i).mpr q
          have e2 : t = s := by omega
          exact absurd (e2 ▸ this) hi
        · intro q
          omega
      · rw [out_ne (k := 3) (Or.inr e)]
theorem Srt.same {A B : ab} {s : Nat} (h : Srt A s) (h2 : B.2 s = A.2 s) (h5 : ∀ j, B.1 5 j = A.1 5 j) : Srt B s := by
  unfold Srt at *
  rw [h2]
  simp only [h5]
  exact h
theorem Srt.out {A : ab} {i : Nat} {t : Nat} (h : Srt A t) : Srt (ab_out A i) t := by
  unfold Srt at *
  rw [out_2 rfl]
  have h5 : ∀ j, (ab_out A i).1 5 j = A.1 5 j := fun j => out_ne (Or.inl (by omega))
  simp only [h5]
  split
  · rename_i e
    rw [← e]
    exact h.filter _
  · exact h
theorem srt_ins {A : ab} {i s : Nat} (hs : s < 2) (hsd : A.1 1 i = s) {l : List Nat} (h : l.Pairwise fun a b => ab_bt s (A.1 5 b) (A.1 5 a) = false) : (ab_ins A i l).Pairwise fun a b => ab_bt s (A.1 5 b) (A.1 5 a) = false := by
  induction l with
  | nil => exact List.pairwise_singleton _ _
  | cons a l ih =>
    obtain ⟨h1, h2⟩ := List.pairwise_cons.mp h
    unfold ab_ins
    by_cases g : ab_bt (A.1 1 i) (A.1 5 i) (A.1 5 a) = true
    · rw [if_pos g]
      refine List.pairwise_cons.mpr ⟨fun x hx => ?_, h⟩
      rw [hsd, bt_w s hs] at g
      have g1 := of_decide_eq_true g
      rw [bt_w s hs]
      refine decide_eq_false ?_
      rcases List.mem_cons.mp hx with e | e
      · rw [e]
        omega
      · have q := h1 x e
        rw [bt_w s hs] at q
        have q1 := of_decide_eq_false q
        omega
    · rw [if_neg g]
      refine List.pairwise_cons.mpr ⟨fun x hx => ?_, ih h2⟩
      rcases mem_ins.mp hx with e | e
      · rw [e, ← hsd]
        exact Bool.eq_false_iff.mpr g
      · exact h1 x e
theorem Srt.rest {A : ab} {i s : Nat} (hs : s < 2) (hsd : A.1 1 i = s) {t : Nat} (h : Srt A t) : Srt (ab_rest A i) t := by
  unfold Srt at *
  rw [rst_2 (ab_sd_of hsd)]
  have h5 : ∀ j, (ab_rest A i).1 5 j = A.1 5 j := fun j => rst_ne (Or.inl (by omega))
  simp only [h5]
  split
  · rename_i e
    rw [e] at h ⊢
    exact srt_ins hs hsd h
  · exact h
theorem open_upd {A B : ab} {i : Nat} (hn : B.1 8 0 = A.1 8 0) (h : ∀ j, ¬ j = i → B.1 3 j = A.1 3 j) (hi : i < ab_n A) : ab_open B = ab_open A + (if ¬ B.1 3 i = 0 then 1 else 0) - (if ¬ A.1 3 i = 0 then 1 else 0) := by
  unfold ab_open
  have e : ab_n B = ab_n A := by unfold ab_n; rw [hn]
  rw [e]
  have h1 := count_upd (P := fun j => decide (¬ B.1 3 j = 0)) (Q := fun j => decide (¬ A.1 3 j = 0)) (i := i) (fun x hx => by rw [h x hx]) (ab_n A)
  rw [if_pos hi] at h1
  simp only [decide_eq_true_eq] at h1
  omega
theorem open_same {A B : ab} (hn : B.1 8 0 = A.1 8 0) (h : ∀ j, B.1 3 j = A.1 3 j) : ab_open B = ab_open A := by
  unfold ab_open ab_n
  rw [hn]
  simp only [h]
def WFi (A : ab) (i : Nat) : Prop := (A.1 3 i = 0 ∨ A.1 3 i = 1 ∨ A.1 3 i = 2) ∧ (¬ A.1 3 i = 1 → A.1 7 i = 0) ∧ (A.1 3 i = 1 → 1 ≤ A.1 7 i ∧ A.1 7 i ≤ A.1 4 i ∧ (A.1 2 i = 0 ∨ A.1 2 i = 5)) ∧ (A.1 3 i = 2 → A.1 2 i = 4 ∧ 1 ≤ A.1 4 i) ∧ (¬ A.1 2 i = 1 → 1 ≤ A.1 5 i ∧ A.1 5 i ≤ 999) ∧ rg (A.1 5 i)
theorem WFi.same {A B : ab} {i : Nat} (h : WFi A i) (h1 : ∀ k, k < 8 → B.1 k i = A.1 k i) : WFi B i := by
  unfold WFi at *
  rw [h1 3 (by omega), h1 7 (by omega), h1 4 (by omega), h1 2 (by omega), h1 5 (by omega)]
  exact h
/-- between operations: N orders, at most m open ones -/
def WS (N : Nat) (m : Int) (A : ab) : Prop := A.1 8 0 = N ∧ WFw N A ∧ (∀ s, s < 2 → Srt A s) ∧ (1 ≤ A.1 8 3 ∧ A.1 8 3 ≤ 999) ∧ (1 ≤ A.1 8 2 ∧ A.1 8 2 ≤ 999) ∧ (0 ≤ A.1 8 1 ∧ A.1 8 1 ≤ 4) ∧ (∀ i, i < N → WFi A i) ∧ ab_open A ≤ m
theorem WS.n {N : Nat} {m : Int} {A : ab} (h : WS N m A) : ab_n A = N := by unfold ab_n; rw [h.1, Int.toNat_natCast]
theorem WS.len {N : Nat} {m : Int} {A : ab} (h : WS N m A) {s : Nat} (hs : s < 2) : ((A.2 s).length : Int) ≤ m := by
  have hn := h.n
  obtain ⟨-, ⟨-, -, g2⟩, -, -, -, -, -, g8⟩ := h
  obtain ⟨c1, c2, -⟩ := g2 s hs
  have h1 := len_le_count (P := fun j => decide (¬ A.1 3 j = 0)) N (A.2 s) c1 (fun x hx => by
    have h3 := (c2 x).mp hx
    exact ⟨h3.1, decide_eq_true (by rw [h3.2.1]; omega)⟩)
  unfold ab_open at g8
  rw [hn] at g8
  omega
theorem WS.same {N : Nat} {m : Int} {A B : ab} (h : WS N m A) (h1 : ∀ k, k < 9 → ∀ i, B.1 k i = A.1 k i) (h2 : ∀ s, B.2 s = A.2 s) : WS N m B := by
  obtain ⟨g1, g2, g3, g4, g5, g6, g7, g8⟩ := h
  refine ⟨by rw [h1 8 (by omega)]; exact g1, g2.same (fun k hk i => h1 k (by omega) i) h2, fun s hs => (g3 s hs).same (h2 s) (h1 5 (by omega)), by rw [h1 8 (by omega)]; exact g4, by rw [h1 8 (by omega)]; exact g5, by rw [h1 8 (by omega)]; exact g6, fun i hi => (g7 i hi).same (fun k hk => h1 k (by omega) i), ?_⟩
  rw [open_same (h1 8 (by omega) 0) (h1 3 (by omega))]
  exact g8
theorem WS.tell {N : Nat} {m : Int} {A : ab} (h : WS N m A) {s t o q p : Int} : WS N m (ab_tell A s t o q p) := h.same (fun k hk i => tell_1i A (by omega) i) (fun _ => rfl)
theorem WS.phase {N : Nat} {m : Int} {A : ab} (h : WS N m A) {v : Int} (h0 : 0 ≤ v) (h4 : v ≤ 4) : WS N m (ab_u A 8 1 v) := by
  obtain ⟨g1, g2, g3, g4, g5, g6, g7, g8⟩ := h
  refine ⟨by rw [u_ne (Or.inr (by omega))]; exact g1, g2.sc, fun s hs => (g3 s hs).same rfl (fun j => u_ne (Or.inl (by omega))), by rw [u_ne (Or.inr (by omega))]; exact g4, by rw [u_ne (Or.inr (by omega))]; exact g5, by rw [u_at]; omega, fun i hi => (g7 i hi).same (fun k hk => u_ne (Or.inl (by omega))), ?_⟩
  rw [open_same (u_ne (Or.inr (by omega))) (fun j => u_ne (Or.inl (by omega)))]
  exact g8
theorem WS.drop {N : Nat} {m : Int} {A : ab} (h : WS N m A) {i s : Nat} (hi : i < N) (hs : s < 2) (hsd : A.1 1 i = s) : WS N m (ab_drop A i) := by
  have hn := h.n
  have h' := h.tell (s := A.1 0 i) (t := 3) (o := i) (q := A.1 4 i) (p := ab_told A i)
  have k1 : ∀ k j, k < 9 → (¬ k = 3 ∧ ¬ k = 7 ∧ ¬ k = 4) ∨ ¬ j = i → (ab_drop A i).1 k j = A.1 k j := by
    intro k j hk h
    unfold ab_drop
    rw [u_ne (by omega), out_ne (by omega), tell_1i A (by omega)]
  have k3 : (ab_drop A i).1 3 i = 0 := by
    unfold ab_drop
    rw [u_ne (Or.inl (by omega)), out_1, if_pos ⟨Or.inl rfl, rfl⟩]
  have k7 : (ab_drop A i).1 7 i = 0 := by
    unfold ab_drop
    rw [u_ne (Or.inl (by omega)), out_1, if_pos ⟨Or.inr rfl, rfl⟩]
  obtain ⟨g1, g2, g3, g4, g5, g6, g7, g8⟩ := h'
  have hw : WFw N (ab_drop A i) := WFw.qty (g2.outs hs (by rw [tell_1i A (by omega)]; exact hsd)) (by omega) (by omega)
  refine ⟨?_, hw, fun t ht => ?_, ?_, ?_, ?_, fun j hj => ?_, ?_⟩
  · rw [k1 8 0 (by omega) (by omega)]; exact h.1
  · exact ((g3 t ht).out (i := i)).same rfl (fun j => u_ne (Or.inl (by omega)))
  · rw [k1 8 3 (by omega) (by omega)]; exact h.2.2.2.1
  · rw [k1 8 2 (by omega) (by omega)]; exact h.2.2.2.2.1
  · rw [k1 8 1 (by omega) (by omega)]; exact h.2.2.2.2.2.1
  · by_cases e : j = i
    · subst e
      have hj' := h.2.2.2.2.2.2.1 j hj
      unfold WFi at *
      rw [k3, k7, k1 2 j (by omega) (by omega), k1 5 j (by omega) (by omega)]
      exact ⟨by omega, fun _ => rfl, fun q => by omega, fun q => by omega, hj'.2.2.2.2⟩
    · exact (h.2.2.2.2.2.2.1 j hj).same (fun k hk => k1 k j (by omega) (Or.inr e))
  · rw [open_upd (A := A) (i := i) (k1 8 0 (by omega) (by omega)) (fun j hj => k1 3 j (by omega) (Or.inr hj)) (by omega), k3]
    have := h.2.2.2.2.2.2.2
    simp only [not_true_eq_false, if_false]
    split <;> omega
theorem WS.rest {N : Nat} {m : Int} {A : ab} (h : WS N m A) {i s : Nat} (hi : i < N) (hs : s < 2) (hsd : A.1 1 i = s) (hst : A.1 3 i = 0) (hk : A.1 2 i = 0 ∨ A.1 2 i = 5) (hq : 1 ≤ A.1 4 i) (hm : m ≤ 39) : WS N (m + 1) (ab_rest A i) := by
  have hn := h.n
  have hl := h.len hs
  obtain ⟨g1, g2, g3, g4, g5, g6, g7, g8⟩ := h
  have hp := (g7 i hi).2.2.2.2.1 (by omega)
  have hpk := (g2.2.1 i hi).2.2.2.2.2.1
  refine ⟨by rw [rst_ne (Or.inl (by omega))]; exact g1, g2.rest hi hs hsd (by omega) hp (by omega), fun t ht => (g3 t ht).rest hs hsd, by rw [rst_ne (Or.inl (by omega))]; exact g4, by rw [rst_ne (Or.inl (by omega))]; exact g5, by rw [rst_ne (Or.inl (by omega))]; exact g6, fun j hj => ?_, ?_⟩
  · by_cases e : j = i
    · subst e
      have hj' := g7 j hj
      unfold WFi at *
      rw [show (ab_rest A j).1 3 j = 1 by rw [rst_1, if_neg (by omega), if_pos ⟨rfl, rfl⟩], show (ab_rest A j).1 7 j = min (A.1 6 j) (A.1 4 j) by rw [rst_1, if_pos ⟨rfl, rfl⟩], rst_ne (k := 4) (Or.inl (by omega)), rst_ne (k := 2) (Or.inl (by omega)), rst_ne (k := 5) (Or.inl (by omega))]
      exact ⟨by omega, fun q => by omega, fun _ => ⟨by omega, by omega, hk⟩, fun q => by omega, hj'.2.2.2.2⟩
    · exact (g7 j hj).same (fun k hk => rst_ne (Or.inr e))
  · rw [open_upd (A := A) (i := i) (rst_ne (Or.inl (by omega))) (fun j hj => rst_ne (Or.inr hj)) (by omega), hst, show (ab_rest A i).1 3 i = 1 by rw [rst_1, if_neg (by omega), if_pos ⟨rfl, rfl⟩]]
    simp only [not_true_eq_false, if_false]
    rw [if_pos (by omega)]
    omega
/-- trade, before the resting order's part is set -/
def ab_t1 (A : ab) (b i : Nat) (v p : Int) : ab := ab_tell (ab_tell (ab_u (ab_u (ab_u A 8 2 p) 4 i (A.1 4 i - v)) 4 b (A.1 4 b - v)) (A.1 0 b) 2 b v p) (A.1 0 i) 2 i v p
theorem trade_eq (A : ab) (b i : Nat) : ab_trade A b i = if 0 < A.1 7 b - min (A.1 4 i) (A.1 7 b) then ab_u (ab_t1 A b i (min (A.1 4 i) (A.1 7 b)) (A.1 5 b)) 7 b (A.1 7 b - min (A.1 4 i) (A.1 7 b)) else if 0 < A.1 4 b - min (A.1 4 i) (A.1 7 b) then ab_rest (ab_out (ab_t1 A b i (min (A.1 4 i) (A.1 7 b)) (A.1 5 b)) b) b else ab_out (ab_t1 A b i (min (A.1 4 i) (A.1 7 b)) (A.1 5 b)) b := rfl
theorem t1_1 {A : ab} {b i : Nat} {v p : Int} {k j : Nat} (hk : k < 8) : (ab_t1 A b i v p).1 k j = if k = 4 ∧ j = b then A.1 4 b - v else if k = 4 ∧ j = i then A.1 4 i - v else A.1 k j := by
  unfold ab_t1
  rw [tell_1i _ (by omega), tell_1i _ (by omega), ab_u_get, ab_u_get, u_ne (k := 8) (Or.inl (by omega))]
theorem t1_8 {A : ab} {b i : Nat} {v p : Int} {j : Nat} : (ab_t1 A b i v p).1 8 j = if j = 2 then p else A.1 8 j := by
  unfold ab_t1
  rw [tell_1i _ (by omega), tell_1i _ (by omega), u_ne (Or.inl (by omega)), u_ne (Or.inl (by omega)), ab_u_get]
  by_cases h : j = 2
  · rw [if_pos ⟨rfl, h⟩, if_pos h]
  · rw [if_neg (fun g => h g.2), if_neg h]
theorem t1_w {N : Nat} {A : ab} (h : WFw N A) {b i : Nat} {v p : Int} (h1 : 0 ≤ A.1 4 i - v) (h2 : A.1 4 i - v ≤ 1000) (h3 : 0 ≤ A.1 4 b - v) (h4 : A.1 4 b - v ≤ 1000) : WFw N (ab_t1 A b i v p) := ((((h.sc).qty h1 h2).qty h3 h4).telli).telli
theorem WS.trade {N : Nat} {m : Int} {A : ab} (h : WS N m A) {b i s : Nat} (hm : m ≤ 40) (hi : i < N) (hst : A.1 3 i = 0) (hq : 1 ≤ A.1 4 i) (hs : s < 2) (hb : b ∈ A.2 s) : WS N m (ab_trade A b i) ∧ (ab_trade A b i).1 3 i = 0 ∧ (ab_trade A b i).1 4 i = A.1 4 i - min (A.1 4 i) (A.1 7 b) ∧ 1 ≤ min (A.1 4 i) (A.1 7 b) ∧ (∀ k, k < 8 → ¬ k = 3 → ¬ k = 4 → ¬ k = 7 → ∀ j, (ab_trade A b i).1 k j = A.1 k j) := by
  have hn := h.n
  have hlen := h.len hs
  obtain ⟨g1, g2, g3, g4, g5, g6, g7, g8⟩ := h
  obtain ⟨c0, c1, c2⟩ := g2.2.2 s hs
  obtain ⟨a1, a2, a3⟩ := (c1 b).mp hb
  have hib : ¬ i = b := fun e => by rw [e, a2] at hst; omega
  obtain ⟨wb1, wb2, wb3, wb4, wb5, wb6⟩ := g7 b a1
  have hb7 := wb3 a2
  obtain ⟨vb1, vb2, vb3, vb4, vb5, vb6, vb7⟩ := g2.2.1 b a1
  obtain ⟨vi1, vi2, vi3, vi4, vi5, vi6, vi7⟩ := g2.2.1 i hi
  have hpb := vb4 a2
  have hv1 : 1 ≤ min (A.1 4 i) (A.1 7 b) := by omega
  have hv2 : min (A.1 4 i) (A.1 7 b) ≤ A.1 4 i := by omega
  have hv3 : min (A.1 4 i) (A.1 7 b) ≤ A.1 7 b := by omega
  rw [trade_eq]
  generalize hv : min (A.1 4 i) (A.1 7 b) = v at *
  have hw1 := t1_w g2 (b := b) (i := i) (v := v) (p := A.1 5 b) (by omega) (by omega) (by omega) (by omega)
  have q0 : ∀ j, (ab_t1 A b i v (A.1 5 b)).1 0 j = A.1 0 j := fun j => by rw [t1_1 (by omega), if_neg (by omega), if_neg (by omega)]
  have q1 : ∀ j, (ab_t1 A b i v (A.1 5 b)).1 1 j = A.1 1 j := fun j => by rw [t1_1 (by omega), if_neg (by omega), if_neg (by omega)]
  have q2 : ∀ j, (ab_t1 A b i v (A.1 5 b)).1 2 j = A.1 2 j := fun j => by rw [t1_1 (by omega), if_neg (by omega), if_neg (by omega)]
  have q3 : ∀ j, (ab_t1 A b i v (A.1 5 b)).1 3 j = A.1 3 j := fun j => by rw [t1_1 (by omega), if_neg (by omega), if_neg (by omega)]
  have q5 : ∀ j, (ab_t1 A b i v (A.1 5 b)).1 5 j = A.1 5 j := fun j => by rw [t1_1 (by omega), if_neg (by omega), if_neg (by omega)]
  have q6 : ∀ j, (ab_t1 A b i v (A.1 5 b)).1 6 j = A.1 6 j := fun j => by rw [t1_1 (by omega), if_neg (by omega), if_neg (by omega)]
  have q7 : ∀ j, (ab_t1 A b i v (A.1 5 b)).1 7 j = A.1 7 j := fun j => by rw [t1_1 (by omega), if_neg (by omega), if_neg (by omega)]
  have q4i : (ab_t1 A b i v (A.1 5 b)).1 4 i = A.1 4 i - v := by rw [t1_1 (by omega), if_neg (by omega), if_pos ⟨rfl, rfl⟩]
  have q4b : (ab_t1 A b i v (A.1 5 b)).1 4 b = A.1 4 b - v := by rw [t1_1 (by omega), if_pos ⟨rfl, rfl⟩]
  have q4 : ∀ j, ¬ j = i → ¬ j = b → (ab_t1 A b i v (A.1 5 b)).1 4 j = A.1 4 j := fun j h1 h2 => by rw [t1_1 (by omega), if_neg (by omega), if_neg (by omega)]
  have hl1 : ∀ t, (ab_t1 A b i v (A.1 5 b)).2 t = A.2 t := fun _ => rfl
  have hs1 : ∀ t, t < 2 → Srt (ab_t1 A b i v (A.1 5 b)) t := fun t ht => (g3 t ht).same (hl1 t) q5
  have p80 : (ab_t1 A b i v (A.1 5 b)).1 8 0 = A.1 8 0 := by rw [t1_8, if_neg (by omega)]
  have p81 : (ab_t1 A b i v (A.1 5 b)).1 8 1 = A.1 8 1 := by rw [t1_8, if_neg (by omega)]
  have p82 : (ab_t1 A b i v (A.1 5 b)).1 8 2 = A.1 5 b := by rw [t1_8, if_pos rfl]
  have p83 : (ab_t1 A b i v (A.1 5 b)).1 8 3 = A.1 8 3 := by rw [t1_8, if_neg (by omega)]
  have hbm : b ∈ (ab_t1 A b i v (A.1 5 b)).2 s := hb
  generalize ab_t1 A b i v (A.1 5 b) = B at *
  have fin : ∀ C : ab, WFw N C → (∀ t, t < 2 → Srt C t) → (∀ q, C.1 8 q = B.1 8 q) → (∀ j, ¬ j = b → ∀ k, k < 8 → C.1 k j = B.1 k j) → (∀ k, k < 8 → ¬ k = 3 → ¬ k = 7 → C.1 k b = B.1 k b) → WFi C b → (C.1 3 b = 0 ∨ C.1 3 b = 1) → WS N m C ∧ C.1 3 i = 0 ∧ C.1 4 i = A.1 4 i - v ∧ 1 ≤ v ∧ (∀ k, k < 8 → ¬ k = 3 → ¬ k = 4 → ¬ k = 7 → ∀ j, C.1 k j = A.1 k j) := by
    intro C f1 f2 f3 f4 f5 f6 f7
    refine ⟨⟨by rw [f3, p80]; exact g1, f1, f2, by rw [f3, p83]; exact g4, by rw [f3, p82]; exact hpb, by rw [f3, p81]; exact g6, fun j hj => ?_, ?_⟩, by rw [f4 i hib 3 (by omega), q3]; exact hst, by rw [f4 i hib 4 (by omega), q4i], hv1, fun k k1 k2 k3 k4 j => ?_⟩
    · by_cases e : j = b
      · rw [e]; exact f6
      · by_cases e2 : j = i
        · subst e2
          have hj' := g7 j hj
          unfold WFi at *
          rw [f4 j e 3 (by omega), f4 j e 7 (by omega), f4 j e 2 (by omega), f4 j e 5 (by omega), q3, q7, q2, q5]
          exact ⟨hj'.1, hj'.2.1, fun q => by omega, fun q => by omega, hj'.2.2.2.2⟩
        · refine (g7 j hj).same (fun k hk => ?_)
          rw [f4 j e k hk]
          by_cases e4 : k = 4
          · rw [e4]; exact q4 j e2 e
          · rcases (show k = 0 ∨ k = 1 ∨ k = 2 ∨ k = 3 ∨ k = 5 ∨ k = 6 ∨ k = 7 by omega) with e5 | e5 | e5 | e5 | e5 | e5 | e5 <;> rw [e5]
            · exact q0 j
            · exact q1 j
            · exact q2 j
            · exact q3 j
            · exact q5 j
            · exact q6 j
            · exact q7 j
    · rw [open_upd (A := A) (i := b) (by rw [f3, p80]) (fun j hj => by rw [f4 j hj 3 (by omega), q3]) (by omega), a2]
      rw [if_pos (show ¬ (1 : Int) = 0 by omega)]
      split <;> omega
    · have hB : ∀ j, B.1 k j = A.1 k j := by
        intro j
        rcases (show k = 0 ∨ k = 1 ∨ k = 2 ∨ k = 5 ∨ k = 6 by omega) with e5 | e5 | e5 | e5 | e5 <;> rw [e5]
        · exact q0 j
        · exact q1 j
        · exact q2 j
        · exact q5 j
        · exact q6 j
      by_cases e : j = b
      · rw [e, f5 k k1 k2 k4, hB]
      · rw [f4 j e k k1, hB]
  by_cases c1' : 0 < A.1 7 b - v
  · rw [if_pos c1']
    refine fin _ (hw1.show (by omega) (by omega)) (fun t ht => (hs1 t ht).same rfl (fun j => u_ne (Or.inl (by omega)))) (fun q => u_ne (Or.inl (by omega))) (fun j hj k hk => u_ne (Or.inr hj)) (fun k hk h3 h7 => u_ne (Or.inl h7)) ?_ (Or.inr (by rw [u_ne (Or.inl (by omega)), q3]; exact a2))
    unfold WFi
    rw [u_ne (k' := 3) (Or.inl (by omega)), u_ne (k' := 4) (Or.inl (by omega)), u_ne (k' := 2) (Or.inl (by omega)), u_ne (k' := 5) (Or.inl (by omega)), u_at, q3, q4b, q2, q5, a2]
    exact ⟨by omega, fun q => absurd rfl q, fun _ => ⟨by omega, by omega, hb7.2.2⟩, fun q => by omega, wb5, wb6⟩
  · rw [if_neg c1']
    have o3 : (ab_out B b).1 3 b = 0 := by rw [out_1, if_pos ⟨Or.inl rfl, rfl⟩]
    have o7 : (ab_out B b).1 7 b = 0 := by rw [out_1, if_pos ⟨Or.inr rfl, rfl⟩]
    have hwo := hw1.out hs hbm
    by_cases c2' : 0 < A.1 4 b - v
    · rw [if_pos c2']
      have hsdo : (ab_out B b).1 1 b = s := by rw [out_ne (Or.inl (by omega)), q1]; exact a3
      have hlo : ((ab_out B b).2 s).length ≤ 39 := by
        have hsb : ab_sd B b = s := ab_sd_of (by rw [q1]; exact a3)
        rw [out_2 hsb, if_pos rfl, hl1 s]
        have := len_out c0 hb
        omega
      have hpo : 1 ≤ (ab_out B b).1 5 b ∧ (ab_out B b).1 5 b ≤ 999 := by rw [out_ne (Or.inl (by omega)), q5]; exact hpb
      refine fin _ (hwo.rest a1 hs hsdo (by rw [o3]; omega) hpo hlo) (fun t ht => ((hs1 t ht).out (i := b)).rest hs hsdo) (fun q => by rw [rst_ne (Or.inl (by omega)), out_ne (Or.inl (by omega))]) (fun j hj k hk => by rw [rst_ne (Or.inr hj), out_ne (Or.inr hj)]) (fun k hk h3 h7 => by rw [rst_ne (Or.inl ⟨h3, h7⟩), out_ne (Or.inl ⟨h3, h7⟩)]) ?_ (Or.inr (by rw [rst_1, if_neg (by omega), if_pos ⟨rfl, rfl⟩]))
      unfold WFi
      rw [show (ab_rest (ab_out B b) b).1 3 b = 1 by rw [rst_1, if_neg (by omega), if_pos ⟨rfl, rfl⟩], show (ab_rest (ab_out B b) b).1 7 b = min ((ab_out B b).1 6 b) ((ab_out B b).1 4 b) by rw [rst_1, if_pos ⟨rfl, rfl⟩], rst_ne (k := 4) (Or.inl (by omega)), rst_ne (k := 2) (Or.inl (by omega)), rst_ne (k := 5) (Or.inl (by omega)), out_ne (k := 6) (Or.inl (by omega)), out_ne (k := 4) (Or.inl (by omega)), out_ne (k := 2) (Or.inl (by omega)), out_ne (k := 5) (Or.inl (by omega)), q6, q4b, q2, q5]
      exact ⟨by omega, fun q => by omega, fun _ => ⟨by omega, by omega, hb7.2.2⟩, fun q => by omega, wb5, wb6⟩
    · rw [if_neg c2']
      refine fin _ hwo (fun t ht => (hs1 t ht).out) (fun q => out_ne (Or.inl (by omega))) (fun j hj k hk => out_ne (Or.inr hj)) (fun k hk h3 h7 => out_ne (Or.inl ⟨h3, h7⟩)) ?_ (Or.inl o3)
      unfold WFi
      rw [o3, o7, out_ne (k := 4) (Or.inl (by omega)), out_ne (k := 2) (Or.inl (by omega)), out_ne (k := 5) (Or.inl (by omega)), q4b, q2, q5]
      exact ⟨by omega, fun _ => rfl, fun q => by omega, fun q => by omega, wb5, wb6⟩
