/-! 9g.ref4: the reference: match, comeIn, stops -/
theorem trade_len {A : ab} {b i s : Nat} (hn : (A.2 s).Nodup) (hb : b ∈ A.2 s) (hsd : A.1 1 b = s) : ((ab_trade A b i).2 s).length ≤ (A.2 s).length := by
  have w1 : (ab_t1 A b i (min (A.1 4 i) (A.1 7 b)) (A.1 5 b)).1 1 b = s := by rw [t1_1 (by omega), if_neg (by omega), if_neg (by omega)]; exact hsd
  have hl := len_out hn hb
  have e2 : (ab_t1 A b i (min (A.1 4 i) (A.1 7 b)) (A.1 5 b)).2 s = A.2 s := rfl
  rw [trade_eq]
  split
  · exact Nat.le_refl _
  · split
    · rw [rst_2 (ab_sd_of (by rw [out_ne (Or.inl (by omega))]; exact w1)), if_pos rfl, len_ins, out_2 (ab_sd_of w1), if_pos rfl, e2]
      omega
    · rw [out_2 (ab_sd_of w1), if_pos rfl, e2]
      omega
theorem drop_len {A : ab} {b s : Nat} (hn : (A.2 s).Nodup) (hb : b ∈ A.2 s) (hsd : A.1 1 b = s) : ((ab_drop A b).2 s).length + 1 = (A.2 s).length := by
  have hl := len_out hn hb
  have e : (ab_drop A b).2 s = (A.2 s).filter (fun j => decide (¬ j = b)) := by
    unfold ab_drop
    rw [ab_u_2, out_2 (ab_sd_of (by rw [tell_1i _ (by omega)]; exact hsd)), if_pos rfl]
    rfl
  rw [e]
  omega
theorem leave_same {N : Nat} {m : Int} {A : ab} {i : Nat} (hW : WS N m A) (hi : i < N) (hst : A.1 3 i = 0) (hq : A.1 4 i = 0) : ab_u (ab_out A i) 4 i 0 = A := by
  obtain ⟨s, hs, hsd⟩ := hW.2.1.side hi
  have hni : ¬ i ∈ A.2 s := fun hm => by
    have := ((hW.2.1.2.2 s hs).2.1 i).mp hm
    omega
  have h7 := (hW.2.2.2.2.2.2.1 i hi).2.1 (by omega)
  rw [drop_out hsd hni h7, ab_u_same hst, ab_u_same hq]
theorem rp_set {scr : Nat × (Nat → Int32)} {d N i : Nat} {m b B : Int} {S S0 : sk_S} {A : ab} (hM : MI N b S A) (hW : WS N m A) (hi : i < N) (hst : A.1 3 i = 0) (hB : rcB A B) (hB2 : B < 2147483000) (hb : b < 2147483000) (f0 : MF S0 S) {P : sk_S → Prop} (hP : ∀ S', MI N (b + 1) S' (ab_settle A i) → MF S0 S' → P S') :
    (¬ S 71 i = 0 → ((S 70 i = 0 → EE scr (d + 1) 46 0 [some (.ref 66), some (vi i)] S (pV fun S4 => pV P none S4)) ∧ (¬ S 70 i = 0 → ((¬ S 70 i = 5 → EE scr (d + 1) 41 0 [some (.ref 66), some (vi i)] S (pV fun S4 => pV P none S4)) ∧ (S 70 i = 5 → EE scr (d + 1) 46 0 [some (.ref 66), some (vi i)] S (pV fun S4 => pV P none S4)))))) ∧ (S 71 i = 0 → EE scr (d + 1) 40 0 [some (.ref 66), some (vi i)] S (pV fun S4 => pV P none S4)) := by
  have hN := hW.2.1.1
  obtain ⟨s, hs, hsd⟩ := hW.2.1.side hi
  have e4 : S 71 i = A.1 4 i := hM.1.c (c := 4) (by omega) hi
  have e2 : S 70 i = A.1 2 i := hM.1.c (c := 2) (by omega) hi
  rw [e4, e2]
  have hrest : ¬ A.1 4 i = 0 → (A.1 2 i = 0 ∨ A.1 2 i = 5) → EE scr (d + 1) 46 0 [some (.ref 66), some (vi i)] S (pV fun S4 => pV P none S4) := by
    intro g1 g2
    refine (rp_rest hM hW.2.1 hi hs hsd (by omega) hb).V fun S4 _ h4 => ⟨rfl, hP S4 ?_ (f0.trans h4.2)⟩
    unfold ab_settle
    rw [if_neg g1, if_pos g2]
    exact h4.1
  refine ⟨fun g1 => ⟨fun g2 => hrest g1 (Or.inl g2), fun g2 => ⟨fun g3 => ?_, fun g3 => hrest g1 (Or.inr g3)⟩⟩, fun g1 => ?_⟩
  · refine (rp_drop hM hW hi hB hB2).V fun S4 _ h4 => ⟨rfl, hP S4 ?_ (f0.trans h4.2)⟩
    unfold ab_settle
    rw [if_neg g1, if_neg (by omega)]
    exact h4.1.le (by omega)
  · refine (rp_leave (by omega)).V fun S4 _ h4 => ⟨rfl, hP S4 ?_ ?_⟩
    · subst h4
      have h := hM.leave (i := i)
      rw [leave_same hW hi hst g1] at h
      unfold ab_settle
      rw [if_pos g1]
      exact h.le (by omega)
    · subst h4
      exact f0.trans (MF.leave (by omega))
theorem rp_halt {scr : Nat × (Nat → Int32)} {d N i : Nat} {m b B : Int} {S S0 : sk_S} {A : ab} {l3 : Option Value} (hM : MI N b S A) (hW : WS N m A) (hi : i < N) (hst : A.1 3 i = 0) (hB : rcB A B) (hB2 : B < 2147483000) (hb : b < 2147483000) (f0 : MF S0 S) {P : sk_S → Prop} (hP : ∀ S', MI N (b + 1) S' (ab_settle A i) → MF S0 S' → P S') :
    EE scr (d + 2) 49 24 [some (.ref 66), some (vi i), some (vi 0), l3] S (pV P) := by
  have hN := hW.2.1.1
  refine st_49_24 (rg_n (by omega)) rg_0 ⟨fun _ => ⟨by omega, by omega, ?_⟩, fun g => absurd rfl g⟩
  simp only [Int.toNat_natCast]
  exact rp_set hM hW hi hst hB hB2 hb f0 hP
theorem rp_loop {scr : Nat × (Nat → Int32)} {d N i s : Nat} {m band : Int} (hm : m ≤ 40) (hi : i < N) (hs : s < 2) : ∀ (f : Nat) (S S0 : sk_S) (A : ab) (b B : Int) (l3 : Option Value) (P : sk_S → Prop), MI N b S A → WS N m A → A.1 3 i = 0 → A.1 1 i = s → S 66 0 = band → rcB A B → B + 2 * f < 2147480000 → b + f < 2147480000 → A.1 4 i + ((A.2 (1 - s)).length : Int) ≤ f → MF S0 S → (∀ S', MI N (b + f + 1) S' (ab_settle (ab_loop band f A i) i) → MF S0 S' → P S') →
    EE scr (d + 3) 49 24 [some (.ref 66), some (vi i), some (vi 1), l3] S (pV P) := by
  intro f
  induction f with
  | zero =>
    intro S S0 A b B l3 P hM hW hst hsd hbd hB hB2 hb2 hmz f0 hP
    have hN := hW.2.1.1
    have e4 : S 71 i = A.1 4 i := hM.1.c (c := 4) (by omega) hi
    refine st_49_24 (rg_n (by omega)) (rg_b (by omega) (by omega)) ⟨fun g => by omega, fun _ => ⟨by omega, by omega, fun _ => ?_, fun g => ?_⟩⟩
    · simp only [Int.toNat_natCast]
      exact rp_set hM hW hi hst hB (by omega) (by omega) f0 (fun S' h1 h2 => hP S' (h1.le (by omega)) h2)
    · simp only [Int.toNat_natCast, e4] at g
      omega
  | succ f ih =>
    intro S S0 A b B l3 P hM hW hst hsd hbd hB hB2 hb2 hmz f0 hP
    have hN := hW.2.1.1
    have e4 : S 71 i = A.1 4 i := hM.1.c (c := 4) (by omega) hi
    have e1 : S 69 i = s := (hM.1.c (c := 1) (by omega) hi).trans hsd
    have es : (1 : Int) - (s : Int) = ((1 - s : Nat) : Int) := by omega
    have hs1 : 1 - s < 2 := by omega
    have esd : ab_sd A i = s := ab_sd_of hsd
    refine st_49_24 (rg_n (by omega)) (rg_b (by omega) (by omega)) ⟨fun g => by omega, fun _ => ⟨by omega, by omega, fun g => ?_, fun g => ?_⟩⟩
    · simp only [Int.toNat_natCast] at g ⊢
      rw [e4] at g
      refine rp_set hM hW hi hst hB (by omega) (by omega) f0 (fun S' h1 h2 => hP S' ?_ h2)
      unfold ab_loop
      rw [if_neg (by omega)]
      exact h1.le (by omega)
    · simp only [Int.toNat_natCast] at g ⊢
      rw [e4] at g
      rw [e1, es]
      refine (rp_behind hM.1 hM.2.1 hW hs1 (k := 0) (x := -1) (Or.inl ⟨rfl, rfl⟩)).I fun y S49 _ _ hy _ => ?_
      obtain ⟨rfl, rfl⟩ := hy
      unfold ab_loop at hP
      rw [if_pos (by omega), esd] at hP
      cases hl : A.2 (1 - s) with
      | nil =>
        rw [hl] at hP
        refine ⟨fun _ => ?_, fun q => absurd (show lnI [] 0 < 0 by unfold lnI; decide) q⟩
        exact rp_halt hM hW hi hst hB (by omega) (by omega) f0 (fun S' h1 h2 => hP S' (h1.le (by omega)) h2)
      | cons a l =>
        rw [hl] at hP
        dsimp only at hP
        have ea : lnI (a :: l) 0 = a := rfl
        rw [ea]
        have hba : a ∈ A.2 (1 - s) := by rw [hl]; exact List.mem_cons_self
        obtain ⟨c0, c1, c2⟩ := hW.2.1.2.2 (1 - s) hs1
        obtain ⟨a1, a2, a3⟩ := (c1 a).mp hba
        have hia : ¬ i = a := fun e => by rw [e, a2] at hst; omega
        have hpa := (hW.2.1.2.1 a a1).2.2.2.1 a2
        refine ⟨fun q => by omega, fun _ => (rp_meets hM.1 hW hi a1).I fun y S55 _ _ hy _ => ?_⟩
        obtain ⟨rfl, rfl⟩ := hy
        by_cases cm : ab_meets A a i = true
        · rw [if_pos cm]
          rw [if_neg (show ¬ ab_meets A a i = false by rw [cm]; decide)] at hP
          have e5 : S55 73 a = A.1 5 a := hM.1.c (c := 5) (by omega) a1
          have e0a : S55 68 a = A.1 0 a := hM.1.c (c := 0) (by omega) a1
          have e0i : S55 68 i = A.1 0 i := hM.1.c (c := 0) (by omega) hi
          refine ⟨fun q => by omega, fun _ => ⟨by omega, by omega, ?_⟩⟩
          simp only [Int.toNat_natCast, e5]
          refine (rp_wild hM.1 hbd hpa hW.2.2.2.1).I fun y S61 _ _ hy _ => ?_
          obtain ⟨rfl, rfl⟩ := hy
          rw [e0a, e0i]
          by_cases cw : ab_wild band A (A.1 5 a) = true
          · rw [if_pos cw]
            rw [if_pos cw] at hP
            refine ⟨fun q => by omega, fun _ S78 q78 => ?_⟩
            refine rp_halt (A := ab_u A 8 1 4) (by rw [q78]; exact hM.sc (by omega)) (hW.phase (by omega) (by omega)) hi (by rw [u_ne (Or.inl (by omega))]; exact hst) (hB.same (fun j => u_ne (Or.inl (by omega)))) (by omega) (by omega) (f0.trans (by rw [q78]; exact MF.u (by omega))) (fun S' h1 h2 => hP S' (h1.le (by omega)) h2)
          · rw [if_neg cw]
            rw [if_neg cw] at hP
            refine ⟨fun _ => ⟨fun q => ?_, fun q => ?_⟩, fun q => absurd rfl q⟩
            · rw [if_neg q] at hP
              obtain ⟨t1, t2, t3, t4, t5⟩ := hW.trade (b := a) hm hi hst (by omega) hs1 hba
              refine (rp_trade hM hW hm hi hst (by omega) hs1 hba hB (by omega) (by omega)).V fun S68 _ h68 => ?_
              have hlen := trade_len (i := i) c0 hba a3
              rw [hl] at hmz
              exact ih S68 S0 _ (b + 1) (B + 2) _ P h68.1 t1 t2 (by rw [t5 1 (by omega) (by omega) (by omega) (by omega)]; exact hsd) (by rw [h68.2.2.1 0 (by omega) (by omega)]; exact hbd) (trade_rc hB (hW.2.1.2.1 a a1).1.1 (hW.2.1.2.1 i hi).1.1) (by omega) (by omega) (by rw [t3]; rw [hl] at hlen; omega) (f0.trans h68.2) (fun S' h1 h2 => hP S' (h1.le (by omega)) h2)
            · rw [if_pos q] at hP
              refine (rp_drop hM hW a1 hB (by omega)).V fun S73 _ h73 => ?_
              have hlen := drop_len c0 hba a3
              rw [hl] at hmz hlen
              have hd : ∀ k, k < 8 → (ab_drop A a).1 k i = A.1 k i := by
                intro k hk
                unfold ab_drop
                rw [u_ne (Or.inr hia), out_ne (Or.inr hia), tell_1i _ (by omega)]
              exact ih S73 S0 _ b (B + 1) _ P h73.1 (hW.drop a1 hs1 a3) (by rw [hd 3 (by omega)]; exact hst) (by rw [hd 1 (by omega)]; exact hsd) (by rw [h73.2.2.1 0 (by omega) (by omega)]; exact hbd) (drop_rc hB (hW.2.1.2.1 a a1).1.1) (by omega) (by omega) (by rw [hd 4 (by omega)]; omega) (f0.trans h73.2) (fun S' h1 h2 => hP S' (h1.le (by omega)) h2)
        · rw [if_neg cm]
          rw [if_pos (show ab_meets A a i = false by simpa using cm)] at hP
          refine ⟨fun _ => ?_, fun q => absurd rfl q⟩
          exact rp_halt hM hW hi hst hB (by omega) (by omega) f0 (fun S' h1 h2 => hP S' (h1.le (by omega)) h2)
theorem rp_match {scr : Nat × (Nat → Int32)} {d N i : Nat} {m band b B : Int} {S : sk_S} {A : ab} (hm : m ≤ 40) (hi : i < N) (hM : MI N b S A) (hW : WS N m A) (hst : A.1 3 i = 0) (hbd : S 66 0 = band) (hB : rcB A B) (hB2 : B < 2147000000) (hb : b < 2147000000) :
    EE scr (d + 3) 49 0 [some (.ref 66), some (vi i), none, none] S (pV fun S' => MI N (b + 1041) S' (if ¬ A.1 2 i = 3 ∨ A.1 4 i ≤ ab_sum band A i (A.2 (1 - ab_sd A i)) then ab_match band A i else ab_settle A i) ∧ MF S S') := by
  have hN := hW.2.1.1
  obtain ⟨s, hs, hsd⟩ := hW.2.1.side hi
  have e2 : S 70 i = A.1 2 i := hM.1.c (c := 2) (by omega) hi
  have hs1 : 1 - s < 2 := by omega
  have h4 := (hW.2.1.2.1 i hi).2.2.2.2.1
  have hl := (hW.2.1.2.2 (1 - s) hs1).2.2
  have go : (¬ A.1 2 i = 3 ∨ A.1 4 i ≤ ab_sum band A i (A.2 (1 - ab_sd A i))) → EE scr (d + 3) 49 24 [some (.ref 66), some (vi i), some (vi 1), none] S (pV fun S' => MI N (b + 1041) S' (if ¬ A.1 2 i = 3 ∨ A.1 4 i ≤ ab_sum band A i (A.2 (1 - ab_sd A i)) then ab_match band A i else ab_settle A i) ∧ MF S S') := by
    intro h
    rw [if_pos h]
    exact rp_loop hm hi hs 1040 S S A b B none _ hM hW hst hsd hbd hB (by omega) (by omega) (by omega) MF.refl (fun S' h1 h2 => ⟨h1.le (by omega), h2⟩)
  refine st_49_0 (rg_n (by omega)) ?_
  simp only [Int.toNat_natCast, e2]
  refine ⟨by omega, by omega, fun g => go (Or.inl g), fun g => ?_⟩
  refine (rp_enough hM.1 hM.2.1 hW hi hbd).I fun y S2 _ _ hy _ => ?_
  obtain ⟨rfl, rfl⟩ := hy
  by_cases c : A.1 4 i ≤ ab_sum band A i (A.2 (1 - ab_sd A i))
  · rw [if_pos c]
    exact ⟨fun q => by omega, fun _ => go (Or.inr c)⟩
  · rw [if_neg c, if_neg (fun h => h.elim (fun q => q g) c)]
    exact ⟨fun _ => rp_halt hM hW hi hst hB (by omega) (by omega) MF.refl (fun S' h1 h2 => ⟨h1.le (by omega), h2⟩), fun q => absurd rfl q⟩
theorem rp_comeIn {scr : Nat × (Nat → Int32)} {d N i : Nat} {m band b B : Int} {S : sk_S} {A : ab} (hm : m ≤ 40) (hi : i < N) (hM : MI N b S A) (hW : WS N m A) (hst : A.1 3 i = 0) (hbd : S 66 0 = band) (hB : rcB A B) (hB2 : B < 2147000000) (hb : b < 2147000000) (hph : ¬ A.1 8 1 = 0) (hkc : ab_call (A.1 8 1) = true → A.1 2 i = 0 ∨ A.1 2 i = 5 ∨ A.1 2 i = 4) (hq : 1 ≤ A.1 4 i) :
    EE scr (d + 4) 50 0 [some (.ref 66), some (vi i)] S (pV fun S' => MI N (b + 1041) S' (ab_in band A i) ∧ MF S S') := by
  have hN := hW.2.1.1
  obtain ⟨s, hs, hsd⟩ := hW.2.1.side hi
  have e2 : S 70 i = A.1 2 i := hM.1.c (c := 2) (by omega) hi
  refine st_50_0 (rg_n (by omega)) ?_
  simp only [Int.toNat_natCast, e2]
  unfold ab_in
  refine ⟨by omega, by omega, fun g => ?_, fun g S18 q18 => ?_⟩
  · rw [if_neg g]
    refine (rp_isCall hM.1).I fun y S2 _ _ hy _ => ?_
    obtain ⟨rfl, rfl⟩ := hy
    have hp4 := hW.2.2.2.2.2.1
    by_cases c : ab_call (A.1 8 1) = true
    · rw [if_pos c]
      refine ⟨fun q => by omega, fun _ => ?_⟩
      have hk := hkc c
      have c' := of_decide_eq_true c
      rw [if_neg (by omega)]
      refine (rp_rest hM hW.2.1 hi hs hsd (by omega) (by omega)).V fun S13 _ h13 => ⟨rfl, ?_, h13.2⟩
      unfold ab_settle
      rw [if_neg (by omega), if_pos (by omega)]
      exact h13.1.le (by omega)
    · rw [if_neg c]
      refine ⟨fun _ => ?_, fun q => absurd rfl q⟩
      have c' : ¬ (A.1 8 1 = 1 ∨ A.1 8 1 = 3 ∨ A.1 8 1 = 4) := fun h => c (decide_eq_true h)
      have h2 : A.1 8 1 = 2 := by omega
      refine (rp_match hm hi hM hW hst hbd hB hB2 hb).V fun S8 _ h8 => ⟨rfl, ?_, h8.2⟩
      have e := h8.1
      by_cases cc : ¬ A.1 2 i = 3 ∨ A.1 4 i ≤ ab_sum band A i (A.2 (1 - ab_sd A i))
      · rw [if_pos cc] at e
        rw [if_pos ⟨h2, cc⟩]
        exact e
      · rw [if_neg cc] at e
        rw [if_neg (fun q => cc q.2)]
        exact e
  · rw [if_pos g, q18]
    exact ⟨rfl, (hM.col (c := 3) (by omega) (by omega) rfl).le (by omega), MF.u (by omega)⟩
def stI (A : ab) : Int := fstI (ab_due A) (ab_n A) (ab_n A) 0
theorem stI_none {A : ab} (hs : ab_stop A = none) : stI A = -1 := by
  have h := stop_fst A
  rw [hs] at h
  exact h.symm
theorem stI_some {A : ab} {i : Nat} (hs : ab_stop A = some i) : stI A = i := by
  have h := stop_fst A
  rw [hs] at h
  exact h.symm
theorem rp_setOff {scr : Nat × (Nat → Int32)} {d N : Nat} {S : sk_S} {A : ab} (hR : RM 0 N S A) (hn : A.1 8 0 = N) (hN : N ≤ 200) : EE scr d 51 0 [some (.ref 66), none] S (pI fun x S' => S' = S ∧ x = stI A) := by
  have en : ab_n A = N := by unfold ab_n; rw [hn, Int.toNat_natCast]
  have e3 : S 67 3 = N := by
    have := hR.1.1
    rw [show 16 * 0 + 3 = 3 by omega] at this
    rw [this, hn]
  have e1 : S 67 1 = A.1 8 2 := hR.1.2.2.1
  unfold stI
  rw [en]
  have loop : ∀ f k : Nat, k + f = N → EE scr d 51 2 [some (.ref 66), some (vi k)] S (pI fun x S' => S' = S ∧ x = fstI (ab_due A) N f k) := by
    intro f
    induction f with
    | zero =>
      intro k hk
      refine st_51_2 (rg_n (by omega)) ?_
      rw [e3]
      exact ⟨fun _ => ⟨_, rfl, rfl, rfl⟩, fun g => by omega⟩
    | succ f ih =>
      intro k hk
      have e72 : S 72 k = A.1 3 k := hR.c (c := 3) (by omega) (by omega)
      have e69 : S 69 k = A.1 1 k := hR.c (c := 1) (by omega) (by omega)
      have e73 : S 73 k = A.1 5 k := hR.c (c := 5) (by omega) (by omega)
      refine st_51_2 (rg_n (by omega)) ?_
      simp only [Int.toNat_natCast, e3, e72, e69, e73, e1]
      unfold fstI
      rw [if_pos (by omega)]
      have hkk : ((k : Int) + 1) = ((k + 1 : Nat) : Int) := by omega
      rw [hkk]
      have next := ih (k + 1) (by omega)
      refine ⟨fun g => by omega, fun _ => ⟨by omega, by omega, fun g => ?_, fun g => ⟨fun g2 => ⟨fun g3 => ?_, fun g3 => ⟨_, rfl, rfl, ?_⟩⟩, fun g2 => ⟨fun g3 => ?_, fun g3 => ⟨_, rfl, rfl, ?_⟩⟩⟩⟩⟩
      · rw [if_neg (by unfold ab_due; simp [g])]
        exact next
      · rw [if_neg (by unfold ab_due; simp [g, g2]; omega)]
        exact next
      · rw [if_pos (by unfold ab_due; simp [g, g2]; omega)]
      · rw [if_neg (by unfold ab_due; simp [g, g2]; omega)]
        exact next
      · rw [if_pos (by unfold ab_due; simp [g, g2]; omega)]
  exact st_51_0 (loop N 0 (by omega))
/-- nobody falls asleep -/
def D2 (A B : ab) : Prop := ∀ j, B.1 3 j = 2 → A.1 3 j = 2
theorem D2.trans {A B C : ab} (h1 : D2 A B) (h2 : D2 B C) : D2 A C := fun j h => h1 j (h2 j h)
theorem D2.same {A B : ab} (h : ∀ j, B.1 3 j = A.1 3 j) : D2 A B := fun j h' => by rw [← h j]; exact h'
theorem D2.tell {A : ab} {s t o q p : Int} : D2 A (ab_tell A s t o q p) := D2.same (fun j => tell_1i _ (by omega) j)
theorem D2.out {A : ab} {i : Nat} : D2 A (ab_out A i) := fun j h => by
  rw [out_1] at h
  split at h
  · omega
  · exact h
theorem D2.rest {A : ab} {i : Nat} : D2 A (ab_rest A i) := fun j h => by
  rw [rst_1, if_neg (by omega)] at h
  split at h
  · omega
  · exact h
theorem D2.drop {A : ab} {i : Nat} : D2 A (ab_drop A i) := (D2.tell.trans D2.out).trans (D2.same (fun j => u_ne (Or.inl (by omega))))
theorem D2.trade {A : ab} {b i : Nat} : D2 A (ab_trade A b i) := by
  have h1 : ∀ v p, D2 A (ab_t1 A b i v p) := fun v p => D2.same (fun j => by rw [t1_1 (by omega), if_neg (by omega), if_neg (by omega)])
  rw [trade_eq]
  split
  · exact (h1 _ _).trans (D2.same (fun j => u_ne (Or.inl (by omega))))
  · split
    · exact ((h1 _ _).trans D2.out).trans D2.rest
    · exact (h1 _ _).trans D2.out
theorem D2.loop {band : Int} {i : Nat} : ∀ (f : Nat) (A : ab), D2 A (ab_loop band f A i) := by
  intro f
  induction f with
  | zero => exact fun A => D2.same (fun _ => rfl)
  | succ f ih =>
    intro A
    unfold ab_loop
    split
    · split
      · exact D2.same (fun _ => rfl)
      · split
        · exact D2.same (fun _ => rfl)
        · split
          · exact D2.same (fun j => u_ne (Or.inl (by omega)))
          · split
            · exact D2.drop.trans (ih _)
            · exact D2.trade.trans (ih _)
    · exact D2.same (fun _ => rfl)
theorem D2.match {band : Int} {A : ab} {i : Nat} : D2 A (ab_match band A i) := by
  refine (D2.loop (band := band) (i := i) 1040 A).trans (C := ab_match band A i) ?_
  unfold ab_match ab_settle
  split
  · exact D2.same (fun _ => rfl)
  · split
    · exact D2.rest
    · exact D2.drop
def ab_dorm (A : ab) : Nat := (List.range (ab_n A)).countP fun i => decide (A.1 3 i = 2)
theorem D2.dorm {A B : ab} (h : D2 A B) (hn : ab_n B = ab_n A) : ab_dorm B ≤ ab_dorm A := by
  unfold ab_dorm
  rw [hn]
  exact List.countP_mono_left fun j _ hj => decide_eq_true (h j (of_decide_eq_true hj))
theorem rp_stops {scr : Nat × (Nat → Int32)} {d N : Nat} {band : Int} : ∀ (f : Nat) (S S0 : sk_S) (A : ab) (b B : Int), MI N b S A → WS N 40 A → S 66 0 = band → rcB A B → B + 2081 * f < 2147000000 → b + 1041 * f < 2147000000 → ab_dorm A ≤ f → MF S0 S →
    ((¬ S 67 0 = 2 → EE scr (d + 4) 52 19 [some (.ref 66), some (vi (-1))] S (pV fun S' => MI N (b + 1041 * f) S' (ab_stops band f A) ∧ MF S0 S')) ∧ (S 67 0 = 2 → EE scr (d + 3) 51 0 [some (.ref 66), none] S (pI fun y S2 => rg y → EE scr (d + 4) 52 19 [some (.ref 66), some (vi y)] S2 (pV fun S' => MI N (b + 1041 * f) S' (ab_stops band f A) ∧ MF S0 S')))) := by
  intro f
  induction f with
  | zero =>
    intro S S0 A b B hM hW hbd hB hB2 hb2 hd f0
    have hN := hW.2.1.1
    have fin : EE scr (d + 4) 52 19 [some (.ref 66), some (vi (-1))] S (pV fun S' => MI N (b + 1041 * (0 : Nat)) S' (ab_stops band 0 A) ∧ MF S0 S') :=
      st_52_19 (rg_b (by omega) (by omega)) ⟨fun _ => ⟨rfl, hM.le (by omega), f0⟩, fun g => by omega⟩
    refine ⟨fun _ => fin, fun _ => (rp_setOff hM.1 hW.1 hN).I fun y S2 _ _ hy _ => ?_⟩
    obtain ⟨rfl, hy⟩ := hy
    cases hs : ab_stop A with
    | none =>
      rw [stI_none hs] at hy
      rw [hy]
      exact fin
    | some i =>
      obtain ⟨h1, h2⟩ := stop_at hs
      have h := len_le_count (P := fun j => decide (A.1 3 j = 2)) (ab_n A) [i] (by simp) (fun x hx => by
        have : x = i := by simpa using hx
        rw [this]
        exact ⟨h1, decide_eq_true h2⟩)
      unfold ab_dorm at hd
      simp only [List.length_singleton] at h
      omega
  | succ f ih =>
    intro S S0 A b B hM hW hbd hB hB2 hb2 hd f0
    have hN := hW.2.1.1
    have e0 : S 67 0 = A.1 8 1 := hM.1.1.2.1
    rw [e0]
    have fin : ab_stops band (f + 1) A = A → EE scr (d + 4) 52 19 [some (.ref 66), some (vi (-1))] S (pV fun S' => MI N (b + 1041 * (f + 1 : Nat)) S' (ab_stops band (f + 1) A) ∧ MF S0 S') := fun e =>
      st_52_19 (rg_b (by omega) (by omega)) ⟨fun _ => ⟨rfl, by rw [e]; exact hM.le (by omega), f0⟩, fun g => by omega⟩
    refine ⟨fun g => fin (by unfold ab_stops; rw [if_neg g]), fun g => (rp_setOff hM.1 hW.1 hN).I fun y S2 _ _ hy _ => ?_⟩
    obtain ⟨rfl, hy⟩ := hy
    cases hs : ab_stop A with
    | none =>
      rw [stI_none hs] at hy
      rw [hy]
      exact fin (by unfold ab_stops; rw [if_pos g, hs])
    | some i =>
      rw [stI_some hs] at hy
      subst hy
      obtain ⟨h1, h2, h3⟩ := stop1_ws hW hs
      have hst := (stop_at hs).2
      have es : ab_stops band (f + 1) A = ab_stops band f (ab_match band (ab_u (ab_u A 3 i 0) 2 i 1) i) := by
        conv => lhs; unfold ab_stops
        rw [if_pos g, hs]
      rw [es]
      refine st_52_19 (rg_n (by omega)) ⟨fun q => by omega, fun _ => ⟨by omega, by omega, fun S3 q3 S5 q5 => ?_⟩⟩
      simp only [Int.toNat_natCast] at q3 q5
      have m5 : MI N b S5 (ab_u (ab_u A 3 i 0) 2 i 1) := by
        rw [ab_u_comm (by omega), q5, q3]
        exact (hM.col (c := 2) (by omega) (by omega) rfl).col (c := 3) (by omega) (by omega) rfl
      have f5 : MF S2 S5 := by
        rw [q5, q3]
        exact (MF.u (by omega)).trans (MF.u (by omega))
      have hB5 : rcB (ab_u (ab_u A 3 i 0) 2 i 1) B := hB.same (fun j => by rw [u_ne (Or.inl (by omega)), u_ne (Or.inl (by omega))])
      refine (rp_match (band := band) (show (39 : Int) ≤ 40 by omega) h1 m5 h2 h3 (by rw [f5.2.1 0 (by omega) (by omega)]; exact hbd) hB5 (by omega) (by omega)).V fun S8 _ h8 => ?_
      obtain ⟨m8, f8⟩ := h8
      have ek : ¬ (ab_u (ab_u A 3 i 0) 2 i 1).1 2 i = 3 := by rw [u_at]; omega
      rw [if_pos (Or.inl ek)] at m8
      obtain ⟨t1, t2, -⟩ := match_ws (band := band) (show (39 : Int) ≤ 39 by omega) h1 h2 h3 hB5
      have hdm : ab_dorm (ab_match band (ab_u (ab_u A 3 i 0) 2 i 1) i) ≤ f := by
        have d1 := (D2.match (band := band) (A := ab_u (ab_u A 3 i 0) 2 i 1) (i := i)).dorm (by rw [t1.n, h2.n])
        have d2 : (ab_dorm (ab_u (ab_u A 3 i 0) 2 i 1) : Int) = ab_dorm A - 1 := by
          unfold ab_dorm
          rw [h2.n, hW.n]
          rw [count_upd (P := fun j => decide ((ab_u (ab_u A 3 i 0) 2 i 1).1 3 j = 2)) (Q := fun j => decide (A.1 3 j = 2)) (i := i) (fun x hx => by
            rw [u_ne (k := 2) (Or.inl (by omega)), u_ne (Or.inr hx)]) N, if_pos h1, h3, hst]
          simp
          omega
        omega
      have f8' := (f0.trans f5).trans f8
      have e66 : S8 66 0 = band := by rw [f8.2.1 0 (by omega) (by omega), f5.2.1 0 (by omega) (by omega)]; exact hbd
      have h := ih S8 S0 _ (b + 1041) (B + 2081) m8 (t1.le (by omega)) e66 t2 (by omega) (by omega) hdm f8'
      have eb : b + 1041 + 1041 * (f : Int) = b + 1041 * ((f + 1 : Nat) : Int) := by omega
      rw [eb] at h
      exact h
theorem rp_allStops {scr : Nat × (Nat → Int32)} {d N : Nat} {band b B : Int} {S : sk_S} {A : ab} (hM : MI N b S A) (hW : WS N 40 A) (hbd : S 66 0 = band) (hB : rcB A B) (hB2 : B < 2140000000) (hb : b < 2140000000) :
    EE scr (d + 4) 52 0 [some (.ref 66), none] S (pV fun S' => MI N (b + 41640) S' (ab_stops band 40 A) ∧ MF S S') := by
  have hd : ab_dorm A ≤ 40 := by
    have h1 := hW.2.2.2.2.2.2.2
    have h2 : ab_dorm A ≤ (List.range (ab_n A)).countP (fun i => decide (¬ A.1 3 i = 0)) := List.countP_mono_left fun j _ hj => decide_eq_true (by have := of_decide_eq_true hj; omega)
    unfold ab_open at h1
    omega
  exact st_52_0 (rp_stops 40 S S A b B hM hW hbd hB (by omega) (by omega) hd MF.refl)
