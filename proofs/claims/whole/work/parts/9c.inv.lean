/-! 9c.inv: what holds of the world between calls -/
def RW (A B : ab) : Prop := (∀ k, k = 6 ∨ k = 9 ∨ k = 10 → ∀ j, B.1 k j = A.1 k j) ∧ (∀ j, B.1 2 j = A.1 2 j ∨ ¬ A.1 2 j = 5) ∧ B.1 8 0 = A.1 8 0 ∧ (B.1 8 1 = A.1 8 1 ∨ B.1 8 1 = 4)
theorem RW.refl {A : ab} : RW A A := ⟨fun _ _ _ => rfl, fun _ => Or.inl rfl, rfl, Or.inl rfl⟩
theorem RW.trans {A B C : ab} (h1 : RW A B) (h2 : RW B C) : RW A C := by
  refine ⟨fun k hk j => (h2.1 k hk j).trans (h1.1 k hk j), fun j => ?_, h2.2.2.1.trans h1.2.2.1, ?_⟩
  · have a := h1.2.1 j
    have b := h2.2.1 j
    omega
  · have a := h1.2.2.2
    have b := h2.2.2.2
    omega
theorem RW.u {A : ab} {k j : Nat} {v : Int} (h : ¬ k = 6 ∧ ¬ k = 9 ∧ ¬ k = 10 ∧ ¬ k = 2) (h8 : k = 8 → j = 2 ∨ j = 3 ∨ (j = 1 ∧ v = 4)) : RW A (ab_u A k j v) := by
  refine ⟨fun q hq i => u_ne (Or.inl (by omega)), fun i => Or.inl (u_ne (Or.inl (by omega))), u_ne (by omega), ?_⟩
  rw [ab_u_get]
  split
  · rename_i e
    have := h8 e.1.symm
    omega
  · exact Or.inl rfl
theorem RW.tell {A : ab} {s t o q p : Int} : RW A (ab_tell A s t o q p) := ⟨fun k hk j => tell_1i A (by omega) j, fun j => Or.inl (tell_1i A (by omega) j), tell_1i A (by omega) 0, Or.inl (tell_1i A (by omega) 1)⟩
theorem RW.out {A : ab} {i : Nat} : RW A (ab_out A i) := ⟨fun k hk j => out_ne (Or.inl (by omega)), fun j => Or.inl (out_ne (Or.inl (by omega))), out_ne (Or.inl (by omega)), Or.inl (out_ne (Or.inl (by omega)))⟩
theorem RW.rest {A : ab} {i : Nat} : RW A (ab_rest A i) := ⟨fun k hk j => rst_ne (Or.inl (by omega)), fun j => Or.inl (rst_ne (Or.inl (by omega))), rst_ne (Or.inl (by omega)), Or.inl (rst_ne (Or.inl (by omega)))⟩
theorem RW.drop {A : ab} {i : Nat} : RW A (ab_drop A i) := (RW.tell.trans RW.out).trans (RW.u (by omega) (by omega))
theorem RW.trade {A : ab} {b i : Nat} : RW A (ab_trade A b i) := by
  have h1 : ∀ v p, RW A (ab_t1 A b i v p) := fun v p => ((((RW.u (by omega) (fun _ => Or.inl rfl)).trans (RW.u (by omega) (by omega))).trans (RW.u (by omega) (by omega))).trans RW.tell).trans RW.tell
  rw [trade_eq]
  split
  · exact (h1 _ _).trans (RW.u (by omega) (by omega))
  · split
    · exact ((h1 _ _).trans RW.out).trans RW.rest
    · exact (h1 _ _).trans RW.out
theorem RW.loop {band : Int} {i : Nat} : ∀ (f : Nat) (A : ab), RW A (ab_loop band f A i) := by
  intro f
  induction f with
  | zero => exact fun A => RW.refl
  | succ f ih =>
    intro A
    unfold ab_loop
    split
    · split
      · exact RW.refl
      · split
        · exact RW.refl
        · split
          · exact RW.u (by omega) (fun _ => Or.inr (Or.inr ⟨rfl, rfl⟩))
          · split
            · exact RW.drop.trans (ih _)
            · exact RW.trade.trans (ih _)
    · exact RW.refl
theorem RW.settle {A : ab} {i : Nat} : RW A (ab_settle A i) := by
  unfold ab_settle
  split
  · exact RW.refl
  · split
    · exact RW.rest
    · exact RW.drop
theorem RW.match {band : Int} {A : ab} {i : Nat} : RW A (ab_match band A i) := (RW.loop 1040 A).trans RW.settle
theorem RW.in {band : Int} {A : ab} {i : Nat} : RW A (ab_in band A i) := by
  unfold ab_in
  split
  · exact RW.u (by omega) (by omega)
  · split
    · exact RW.match
    · exact RW.settle
theorem RW.stops {N : Nat} {band : Int} : ∀ (f : Nat) (A : ab) (B : Int), WS N 40 A → rcB A B → RW A (ab_stops band f A) := by
  intro f
  induction f with
  | zero => exact fun A B _ _ => RW.refl
  | succ f ih =>
    intro A B hW hB
    unfold ab_stops
    split
    · cases hs : ab_stop A with
      | none => exact RW.refl
      | some i =>
        dsimp only
        obtain ⟨hi, w1, w2⟩ := stop1_ws hW hs
        have hst := (stop_at hs).2
        have hk := ((hW.2.2.2.2.2.2.1 i hi).2.2.2.1 hst).1
        have r1 : RW A (ab_u (ab_u A 3 i 0) 2 i 1) := by
          refine (RW.u (A := A) (k := 3) (j := i) (v := 0) (by omega) (by omega)).trans ⟨fun k hk j => u_ne (Or.inl (by omega)), fun j => ?_, u_ne (Or.inl (by omega)), Or.inl (u_ne (Or.inl (by omega)))⟩
          by_cases e : j = i
          · refine Or.inr ?_
            rw [e, u_ne (Or.inl (by omega)), hk]
            omega
          · exact Or.inl (u_ne (Or.inr e))
        obtain ⟨m1, m2, -⟩ := match_ws (band := band) (show (39 : Int) ≤ 39 by omega) hi w1 w2 (hB.same (fun j => by rw [u_ne (Or.inl (by omega)), u_ne (Or.inl (by omega))]))
        exact (r1.trans RW.match).trans (ih _ _ m1 m2)
    · exact RW.refl
theorem RW.fill1 {A : ab} {i : Nat} {v p : Int} : RW A (ab_fill1 A i v p) := by
  rw [fill_eq]
  split
  · exact ((RW.u (by omega) (by omega)).trans RW.tell).trans RW.out
  · exact ((RW.u (by omega) (by omega)).trans RW.tell).trans (RW.u (by omega) (by omega))
theorem RW.fill {s : Nat} {p : Int} : ∀ (f : Nat) (A : ab) (left : Int), RW A (ab_fill s p f A left) := by
  intro f
  induction f with
  | zero => exact fun A _ => RW.refl
  | succ f ih =>
    intro A left
    unfold ab_fill
    split
    · split
      · exact RW.refl
      · exact RW.fill1.trans (ih _ _)
    · exact RW.refl
theorem RW.auction {A : ab} : RW A (ab_auction A) := by
  unfold ab_auction
  dsimp only
  split
  · exact RW.refl
  · exact (((RW.fill _ _ _).trans (RW.fill _ _ _)).trans (RW.u (by omega) (fun _ => Or.inl rfl))).trans (RW.u (by omega) (fun _ => Or.inr (Or.inl rfl)))
theorem RW.all {A : ab} : ∀ k, RW A (ab_all A k) := by
  intro k
  induction k with
  | zero => exact RW.refl
  | succ k ih =>
    unfold ab_all
    split
    · exact ih
    · exact ih.trans RW.drop
/-- all below k are closed -/
theorem all_0 {N : Nat} {m B : Int} {A : ab} (hW : WS N m A) (hB : rcB A B) : ∀ k : Nat, k ≤ N → ∀ i, i < k → (ab_all A k).1 3 i = 0 := by
  intro k
  induction k with
  | zero => intro _ i hi; omega
  | succ k ih =>
    intro hk i hi
    obtain ⟨w, -⟩ := all_ws hW hB k (by omega)
    unfold ab_all
    by_cases c : (ab_all A k).1 3 k = 0
    · rw [if_pos c]
      by_cases e : i = k
      · rw [e]; exact c
      · exact ih (by omega) i (by omega)
    · rw [if_neg c]
      unfold ab_drop
      rw [u_ne (Or.inl (by omega)), out_1]
      by_cases e : i = k
      · rw [if_pos ⟨Or.inl rfl, e⟩]
      · rw [if_neg (fun g => e g.2), tell_1i _ (by omega)]
        exact ih (by omega) i (by omega)
theorem open_0 {A : ab} (h : ∀ i, i < ab_n A → A.1 3 i = 0) : ab_open A ≤ 0 := by
  unfold ab_open
  have : (List.range (ab_n A)).countP (fun i => decide (¬ A.1 3 i = 0)) = 0 := by
    rw [List.countP_eq_zero]
    intro i hi
    have := h i (List.mem_range.mp hi)
    simp [this]
  omega
theorem open_1 {N : Nat} {A : ab} {i : Nat} (hn : ab_n A = N) (hi : i < N) (hst : ¬ A.1 3 i = 0) : 1 ≤ ab_open A := by
  have h := len_le_count (P := fun j => decide (¬ A.1 3 j = 0)) N [i] (by simp) (fun x hx => by
    have : x = i := by simpa using hx
    rw [this]
    exact ⟨hi, decide_eq_true hst⟩)
  unfold ab_open
  rw [hn]
  simp only [List.length_singleton] at h
  omega
theorem open_nn {A : ab} : 0 ≤ ab_open A := by unfold ab_open; omega
theorem WA.le {c c' : Int} {A : ab} (h : WA c A) (hc : c ≤ c') : WA c' A := ⟨h.1, h.2.1.le (by omega), fun s hs => by have := h.2.2.1 s hs; omega, h.2.2.2.1, h.2.2.2.2.1, h.2.2.2.2.2⟩
def FDs (F : sk_S) : Prop := ∀ j, j < 64 → (F 1 j = 0 ∨ F 1 j = 1) ∧ 0 ≤ F 2 j ∧ F 2 j < 1000
theorem FDs.msg {F : sk_S} (h : FDs F) {s p v : Int} (hs : s = 0 ∨ s = 1) (hp : 0 ≤ p) (hp2 : p < 1000) : FDs (fd_msg F s p v) := by
  intro j hj
  obtain ⟨a1, a2, a3⟩ := h j hj
  unfold fd_msg
  rw [sk_u_ne (k := 0) (by omega), sk_u_ne (k := 3) (by omega), sk_u_ne (k := 2) (by omega), sk_u_get, sk_u_ne (k := 0) (by omega), sk_u_ne (k := 3) (by omega), sk_u_get, sk_u_ne (k := 1) (by omega)]
  refine ⟨?_, ?_⟩
  · split
    · exact hs
    · exact a1
  · split
    · exact ⟨hp, hp2⟩
    · exact ⟨a2, a3⟩
theorem FDs.to {old new : Nat → Int} {s : Int} {F : sk_S} (h : FDs F) (hs : s = 0 ∨ s = 1) : ∀ k, k ≤ 1000 → FDs (fd_to old new s F k) := by
  intro k
  induction k with
  | zero => exact fun _ => h
  | succ k ih =>
    intro hk
    unfold fd_to
    split
    · exact ih (by omega)
    · exact (ih (by omega)).msg hs (by omega) (by omega)
theorem WFd.pub {c : Int} {F G : sk_S} {old new : Nat → Nat → Int} (h : WFd c F G) : WFd (c + 1) (fd_pub old new F) G := by
  obtain ⟨h1, h2, h3⟩ := h
  have h4 := fd_pub_cnt (old := old) (new := new) (F := F)
  refine ⟨by omega, ?_, by omega⟩
  exact (FDs.to h2 (Or.inl rfl) 1000 (by omega)).to (Or.inr rfl) 1000 (by omega)
theorem WFd.le {c c' : Int} {F G : sk_S} (h : WFd c F G) (hc : c ≤ c') : WFd c' F G := ⟨by have := h.1; omega, h.2⟩
theorem WW.le {c c' : Int} {W : wd} (h : WW c W) (hc : c ≤ c') : WW c' W := ⟨h.1.le hc, h.2.1.le hc, h.2.2.le hc⟩
theorem wa_stops {N : Nat} {c B band : Int} {A : ab} (hS : WS N 40 A) (hB : rcB A B) (hB2 : B + 83240 ≤ 100000 * (c + 1)) (h9 : ∀ s, s < 4 → 0 ≤ A.1 9 s ∧ A.1 9 s ≤ c + 2) (h10 : ∀ s, s < 4 → rg (A.1 10 s)) (h6 : ∀ i, i < N → ¬ A.1 2 i = 5 → A.1 6 i = 1000) (hph : A.1 8 1 = 0 → ab_open A ≤ 0) : WA (c + 1) (ab_stops band 40 A) := by
  obtain ⟨s1, s2⟩ := stops_ws (band := band) 40 A B hS hB
  have hr := RW.stops (band := band) 40 A B hS hB
  have hn := s1.n
  refine ⟨by rw [hn]; exact s1, s2.le (by omega), fun s hs => ?_, fun s hs => ?_, fun i hi hk => ?_, fun h0 => ?_⟩
  · rw [hr.1 9 (by omega)]
    have := h9 s hs
    omega
  · rw [hr.1 10 (by omega)]
    exact h10 s hs
  · rw [hr.1 6 (by omega)]
    refine h6 i (by omega) ?_
    have := hr.2.1 i
    omega
  · have h4 := hr.2.2.2
    have h1 : A.1 8 1 = 0 := by omega
    have e : ab_stops band 40 A = A := by
      unfold ab_stops
      rw [if_neg (by omega)]
    rw [e]
    have := hph h1
    have := open_nn (A := A)
    omega
theorem ww_fin {N : Nat} {c B band x : Int} {W : wd} {A : ab} (hW : WW c W) (hS : WS N 40 A) (hB : rcB A B) (hB2 : B + 83240 ≤ 100000 * (c + 1)) (h9 : ∀ s, s < 4 → 0 ≤ A.1 9 s ∧ A.1 9 s ≤ c + 2) (h10 : ∀ s, s < 4 → rg (A.1 10 s)) (h6 : ∀ i, i < N → ¬ A.1 2 i = 5 → A.1 6 i = 1000) (hph : A.1 8 1 = 0 → ab_open A ≤ 0) : WW (c + 1) (wd_fin band W A x).2 :=
  ⟨wa_stops hS hB hB2 h9 h10 h6 hph, hW.2.1.le (by omega), hW.2.2.pub⟩
/-- a market that heard a message, then changed -/
theorem ww_msg {N : Nat} {c B band x v : Int} {W : wd} {A A1 : ab} {t : Nat} (hW : WW c W) (_ht : t < 4) (e1 : A1 = ab_u W.1 9 t v) (hv : 0 ≤ v ∧ v ≤ c + 2) (hr : RW A1 A) (hN : N = ab_n W.1) (hS : WS N 40 A) (hB : rcB A B) (hB2 : B + 83240 ≤ 100000 * (c + 1)) (hph : A.1 8 1 = 0 → ab_open A ≤ 0) : WW (c + 1) (wd_fin band W A x).2 := by
  subst hN
  refine ww_fin hW hS hB hB2 (fun s hs => ?_) (fun s hs => ?_) (fun i hi hk => ?_) hph
  · rw [hr.1 9 (by omega), e1, ab_u_get]
    have := hW.1.2.2.1 s hs
    split
    · exact hv
    · omega
  · rw [hr.1 10 (by omega), e1, u_ne (Or.inl (by omega))]
    exact hW.1.2.2.2.1 s hs
  · rw [hr.1 6 (by omega), e1, u_ne (Or.inl (by omega))]
    refine hW.1.2.2.2.2.1 i hi ?_
    have := hr.2.1 i
    rw [e1, u_ne (Or.inl (by omega))] at this
    omega
theorem ph_hear {c : Int} {A : ab} {t : Nat} {v : Int} (h : WA c A) : (ab_u A 9 t v).1 8 1 = 0 → ab_open (ab_u A 9 t v) ≤ 0 := by
  intro h0
  rw [u_ne (Or.inl (by omega))] at h0
  rw [open_same (A := A) (u_ne (Or.inl (by omega))) (fun j => u_ne (Or.inl (by omega)))]
  have := h.2.2.2.2.2 h0
  omega
theorem ww_rej {c band x v : Int} {W : wd} {t : Nat} (hW : WW c W) (ht : t < 4) (hv : 0 ≤ v ∧ v ≤ c + 2) (hc0 : 0 ≤ c) : WW (c + 1) (wd_fin band W (ab_rej (ab_u W.1 9 t v) t) x).2 := by
  obtain ⟨w1, w2, w3⟩ := hear_ws hW.1 ht (v := v)
  refine ww_msg hW ht rfl hv RW.tell rfl w1.tell w2.tell (by omega) (fun h0 => ?_)
  have h := ph_hear (t := t) (v := v) hW.1
  unfold ab_rej at h0 ⊢
  rw [tell_1i _ (by omega)] at h0
  rw [open_same (A := ab_u W.1 9 t v) (tell_1i _ (by omega) 0) (fun j => tell_1i _ (by omega) j)]
  exact h h0
theorem ww_order {band s n w q p c : Int} {W : wd} (hW : WW c W) (hc0 : 0 ≤ c) (hp : rg p) : WW (c + 1) (wd_order band W s n w q p).2 := by
  unfold wd_order
  by_cases c0 : (ab_hear W.1 s n).1 = 0
  · rw [if_pos c0]
    obtain ⟨hs4, e2⟩ := hear_0 c0
    rw [e2]
    obtain ⟨t, ht, rfl⟩ : ∃ t : Nat, t < 4 ∧ s = t := ⟨s.toNat, by omega, by omega⟩
    simp only [Int.toNat_natCast]
    have h9 := hW.1.2.2.1 t ht
    obtain ⟨w1, w2, w3⟩ := hear_ws hW.1 ht (v := W.1.1 9 t + 1)
    by_cases ok : ab_ok (ab_u W.1 9 t (W.1.1 9 t + 1)) t w q p = true
    · rw [if_pos ok]
      obtain ⟨o1, o2⟩ := order_ws (band := band) w1 ht ok hp (by rw [w3]; exact hW.1.2.2.2.1 t ht) w2
      have hok := (ok_iff _ _ _ _ _).mp ok
      have hn := w1.1
      have e3 : ab_n (ab_u W.1 9 t (W.1.1 9 t + 1)) = ab_n W.1 := w1.n
      generalize hA1 : ab_u W.1 9 t (W.1.1 9 t + 1) = A1 at *
      have hr : RW (ab_acc A1 t w q p) (ab_order band A1 t w q p) := RW.tell.trans RW.in
      have a8 := acc_hi (s := t) (w := w) (q := q) (p := p) hn (k := 8) (j := 1) (by omega) (by omega)
      refine ww_fin hW o1 o2 (by omega) (fun s hs => ?_) (fun s hs => ?_) (fun i hi hk => ?_) (fun h0 => ?_)
      · rw [hr.1 9 (by omega), acc_hi hn (by omega) (by omega), ← hA1, ab_u_get]
        have := hW.1.2.2.1 s hs
        split <;> omega
      · rw [hr.1 10 (by omega), acc_hi hn (by omega) (by omega), w3]
        exact hW.1.2.2.2.1 s hs
      · rw [hr.1 6 (by omega)]
        have hk2 := hr.2.1 i
        by_cases e : i = ab_n W.1
        · obtain ⟨n0, n1, n2, n3, n4, n5, n6, n7⟩ := acc_new (s := t) (w := w) (q := q) (p := p) hn
          rw [e] at hk2 hk ⊢
          rw [n2] at hk2
          rw [n6, if_neg (by omega)]
        · rw [acc_1 hn (by omega) e]
          rw [acc_1 hn (by omega) e] at hk2
          have e6 : ∀ k, k < 8 → A1.1 k i = W.1.1 k i := fun k hk => by rw [← hA1]; exact u_ne (Or.inl (by omega))
          rw [e6 6 (by omega)]
          rw [e6 2 (by omega)] at hk2
          refine hW.1.2.2.2.2.1 i (by omega) ?_
          omega
      · have h4 := hr.2.2.2
        rw [a8] at h4
        have h5 := of_decide_eq_true hok.2.2.2.1
        have h6 : A1.1 8 1 = 0 := by omega
        rw [h6] at h5
        exact absurd h5 (by simp [ab_call])
    · rw [if_neg ok]
      exact ww_rej hW ht (by omega) hc0
  · rw [if_neg c0]
    exact hW.le (by omega)
theorem ww_cancel {band s n o c : Int} {W : wd} (hW : WW c W) (hc0 : 0 ≤ c) : WW (c + 1) (wd_cancel band W s n o).2 := by
  unfold wd_cancel
  by_cases c0 : (ab_hear W.1 s n).1 = 0
  · rw [if_pos c0]
    obtain ⟨hs4, e2⟩ := hear_0 c0
    rw [e2]
    obtain ⟨t, ht, rfl⟩ : ∃ t : Nat, t < 4 ∧ s = t := ⟨s.toNat, by omega, by omega⟩
    simp only [Int.toNat_natCast]
    have h9 := hW.1.2.2.1 t ht
    obtain ⟨w1, w2, w3⟩ := hear_ws hW.1 ht (v := W.1.1 9 t + 1)
    by_cases ok : ab_mayC (ab_u W.1 9 t (W.1.1 9 t + 1)) (ab_n W.1) t o = true
    · rw [if_pos ok]
      have ok' := of_decide_eq_true ok
      have hi : o.toNat < ab_n W.1 := by omega
      obtain ⟨u, hu, hsd⟩ := w1.2.1.side hi
      refine ww_msg hW ht rfl (by omega) RW.drop rfl (w1.drop hi hu hsd) (drop_rc w2 (w1.2.1.2.1 _ hi).1.1) (by omega) (fun h0 => ?_)
      have h4 := (RW.drop (A := ab_u W.1 9 t (W.1.1 9 t + 1)) (i := o.toNat)).2.2.2
      have h5 := ph_hear (t := t) (v := W.1.1 9 t + 1) hW.1 (by omega)
      have h6 := open_1 w1.n hi ok'.2.2.2
      omega
    · rw [if_neg ok]
      exact ww_rej hW ht (by omega) hc0
  · rw [if_neg c0]
    exact hW.le (by omega)
theorem RW.repl {band : Int} {A : ab} {i : Nat} {q p : Int} : RW A (ab_repl band A i q p) := by
  rw [repl_eq]
  split
  · exact (RW.tell.trans (RW.u (by omega) (by omega))).trans (RW.u (by omega) (by omega))
  · exact (((RW.tell.trans RW.out).trans (RW.u (by omega) (by omega))).trans (RW.u (by omega) (by omega))).trans RW.in
theorem ww_repl {band s n o q p c : Int} {W : wd} (hW : WW c W) (hc0 : 0 ≤ c) : WW (c + 1) (wd_repl band W s n o q p).2 := by
  unfold wd_repl
  by_cases c0 : (ab_hear W.1 s n).1 = 0
  · rw [if_pos c0]
    obtain ⟨hs4, e2⟩ := hear_0 c0
    rw [e2]
    obtain ⟨t, ht, rfl⟩ : ∃ t : Nat, t < 4 ∧ s = t := ⟨s.toNat, by omega, by omega⟩
    simp only [Int.toNat_natCast]
    have h9 := hW.1.2.2.1 t ht
    obtain ⟨w1, w2, w3⟩ := hear_ws hW.1 ht (v := W.1.1 9 t + 1)
    by_cases ok : ab_mayR (ab_u W.1 9 t (W.1.1 9 t + 1)) (ab_n W.1) t o q p = true
    · rw [if_pos ok]
      have ok' := of_decide_eq_true ok
      have hi : o.toNat < ab_n W.1 := by omega
      obtain ⟨o1, o2⟩ := repl_ws (band := band) w1 hi ok'.2.2.2.1 ok'.2.2.2.2.1 ok'.2.2.2.2.2.1 w2
      refine ww_msg hW ht rfl (by omega) RW.repl rfl o1 o2 (by omega) (fun h0 => ?_)
      have h4 := (RW.repl (band := band) (A := ab_u W.1 9 t (W.1.1 9 t + 1)) (i := o.toNat) (q := q) (p := p)).2.2.2
      have h5 := ph_hear (t := t) (v := W.1.1 9 t + 1) hW.1 (by omega)
      have h6 := open_1 w1.n hi (show ¬ (ab_u W.1 9 t (W.1.1 9 t + 1)).1 3 o.toNat = 0 by omega)
      omega
    · rw [if_neg ok]
      exact ww_rej hW ht (by omega) hc0
  · rw [if_neg c0]
    exact hW.le (by omega)
theorem ww_phase {band v c : Int} {W : wd} (hW : WW c W) (_hc0 : 0 ≤ c) : WW (c + 1) (wd_phase band W v).2 := by
  unfold wd_phase
  by_cases ok : ab_may (W.1.1 8 1) v = true
  · rw [if_pos ok]
    have hv4 := may_v ok
    obtain ⟨o1, o2⟩ := step_ws hW.1.1 hW.1.2.1 hv4.1 hv4.2
    have hn := o1.n
    -- rows: as if the phase had not changed
    have key : (∀ k, k = 6 ∨ k = 9 ∨ k = 10 → ∀ j, (ab_step W.1 v).1 k j = W.1.1 k j) ∧ (∀ j, (ab_step W.1 v).1 2 j = W.1.1 2 j ∨ ¬ W.1.1 2 j = 5) := by
      unfold ab_step
      dsimp only
      have r1 : RW W.1 (if ab_call (W.1.1 8 1) = true then ab_auction W.1 else W.1) := by
        split
        · exact RW.auction
        · exact RW.refl
      generalize (if ab_call (W.1.1 8 1) = true then ab_auction W.1 else W.1) = A1 at r1
      have r2 : (∀ k, k = 6 ∨ k = 9 ∨ k = 10 → ∀ j, (ab_u A1 8 1 v).1 k j = W.1.1 k j) ∧ (∀ j, (ab_u A1 8 1 v).1 2 j = W.1.1 2 j ∨ ¬ W.1.1 2 j = 5) := ⟨fun k hk j => by rw [u_ne (Or.inl (by omega))]; exact r1.1 k hk j, fun j => by rw [u_ne (Or.inl (by omega))]; exact r1.2.1 j⟩
      split
      · have r3 := RW.all (A := ab_u A1 8 1 v) (ab_n (ab_u A1 8 1 v))
        refine ⟨fun k hk j => (r3.1 k hk j).trans (r2.1 k hk j), fun j => ?_⟩
        have a := r2.2 j
        have b := r3.2.1 j
        omega
      · exact r2
    refine ww_fin hW o1 o2 (by omega) (fun s hs => ?_) (fun s hs => ?_) (fun i hi hk => ?_) (fun h0 => ?_)
    · rw [key.1 9 (by omega)]
      have := hW.1.2.2.1 s hs
      omega
    · rw [key.1 10 (by omega)]
      exact hW.1.2.2.2.1 s hs
    · rw [key.1 6 (by omega)]
      refine hW.1.2.2.2.2.1 i hi ?_
      have := key.2 i
      omega
    · have h1 : WS (ab_n W.1) 40 (if ab_call (W.1.1 8 1) = true then ab_auction W.1 else W.1) ∧ rcB (if ab_call (W.1.1 8 1) = true then ab_auction W.1 else W.1) (100000 * c + 80) := by
        split
        · exact auction_ws hW.1.1 hW.1.2.1
        · exact ⟨hW.1.1, hW.1.2.1.le (by omega)⟩
      unfold ab_step at h0 ⊢
      dsimp only at h0 ⊢
      generalize (if ab_call (W.1.1 8 1) = true then ab_auction W.1 else W.1) = A1 at h0 h1 ⊢
      have w := h1.1.phase hv4.1 hv4.2
      have wb : rcB (ab_u A1 8 1 v) (100000 * c + 80) := h1.2.same (fun j => u_ne (Or.inl (by omega)))
      by_cases e : v = 0
      · rw [if_pos e] at h0 ⊢
        have hn2 := w.n
        obtain ⟨x1, -⟩ := all_ws w wb (ab_n W.1) (Nat.le_refl _)
        rw [hn2]
        refine open_0 (fun i hi => ?_)
        rw [x1.n] at hi
        exact all_0 w wb (ab_n W.1) (Nat.le_refl _) i hi
      · rw [if_neg e, u_at] at h0
        exact absurd h0 e
  · rw [if_neg ok]
    exact hW.le (by omega)
theorem ww_extra {s v c : Int} {W : wd} (hW : WW c W) (hv : rg v) : WW (c + 1) (wd_extra W s v).2 := by
  unfold wd_extra
  by_cases k : 0 ≤ s ∧ s < 4
  · rw [if_pos k]
    have hn : ab_n (ab_u W.1 10 s.toNat v) = ab_n W.1 := by unfold ab_n; rw [u_ne (Or.inl (by omega))]
    have h := hW.1.le (c' := c + 1) (by omega)
    refine ⟨⟨by show WS (ab_n (ab_u W.1 10 s.toNat v)) 40 _; rw [hn]; exact h.1.hear (by omega), h.2.1.same (fun j => u_ne (Or.inl (by omega))), fun t ht => ?_, fun t ht => ?_, fun i hi => ?_, fun h0 => ?_⟩, hW.2.1.le (by omega), hW.2.2.le (by omega)⟩
    · show 0 ≤ (ab_u W.1 10 s.toNat v).1 9 t ∧ (ab_u W.1 10 s.toNat v).1 9 t ≤ _
      rw [u_ne (Or.inl (by omega))]
      exact h.2.2.1 t ht
    · show rg ((ab_u W.1 10 s.toNat v).1 10 t)
      rw [ab_u_get]
      split
      · exact hv
      · exact h.2.2.2.1 t ht
    · show ¬ (ab_u W.1 10 s.toNat v).1 2 i = 5 → (ab_u W.1 10 s.toNat v).1 6 i = 1000
      rw [u_ne (k' := 2) (Or.inl (by omega)), u_ne (k' := 6) (Or.inl (by omega))]
      exact h.2.2.2.2.1 i (by rw [← hn]; exact hi)
    · show ab_open (ab_u W.1 10 s.toNat v) = 0
      have h0' : (ab_u W.1 10 s.toNat v).1 8 1 = 0 := h0
      rw [u_ne (Or.inl (by omega))] at h0'
      rw [open_same (A := W.1) (u_ne (Or.inl (by omega))) (fun j => u_ne (Or.inl (by omega)))]
      exact h.2.2.2.2.2 h0'
  · rw [if_neg k]
    exact hW.le (by omega)
theorem ww_save {c : Int} {W : wd} (hW : WW c W) : WW (c + 1) (wd_save W).2 := ⟨hW.1.le (by omega), hW.1.le (by omega), hW.2.2.le (by omega)⟩
theorem ww_crash {c : Int} {W : wd} (hW : WW c W) : WW (c + 1) (wd_crash W).2 := ⟨hW.2.1.le (by omega), hW.2.1.le (by omega), hW.2.2.pub⟩
theorem ww_take {x c : Int} {W : wd} (hW : WW c W) : WW (c + 1) (wd_take W x).2 := by
  have h := hW.le (c' := c + 1) (by omega)
  unfold wd_take
  split
  · rename_i k
    split
    · rename_i e
      refine ⟨h.1, h.2.1, h.2.2.1, h.2.2.2.1, ?_⟩
      have := h.2.2.2.2
      dsimp only
      rw [sk_u_at]
      omega
    · split
      · exact h
      · exact h
  · exact h
theorem ww_refresh {c : Int} {W : wd} (hW : WW c W) : WW (c + 1) (wd_refresh W).2 := by
  have h := hW.le (c' := c + 1) (by omega)
  refine ⟨h.1, h.2.1, h.2.2.1, h.2.2.2.1, ?_⟩
  have := h.2.2.1
  have e : (wd_refresh W).2.2.2.2 0 0 = W.2.2.1 0 0 := rfl
  rw [e]
  exact ⟨this.1, Int.le_refl _⟩
