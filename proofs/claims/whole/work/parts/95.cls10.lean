/-! 95.cls10: the class: accept, mayCancel, mayReplace, replaceOrder -/
theorem RC.ext {N : Nat} {S : sk_S} {A : ab} (h : RC 0 N S A) (h1 : ∀ c, c < 8 → S (11 + c) N = A.1 c N) : RC 0 (N + 1) S A := by
  obtain ⟨h0, h5, h6, h7, h8⟩ := h
  refine ⟨h0, fun c hc i hi => ?_, h6, h7, h8⟩
  by_cases e : i = N
  · rw [e]
    have := h1 c hc
    rw [show 11 + 0 + c = 11 + c by omega]
    exact this
  · exact h5 c hc i (by omega)
def accS (S : sk_S) (N : Nat) (s w q pv pk : Int) : sk_S := sk_u (sk_u (sk_u (sk_u (sk_u (sk_u (sk_u (sk_u (sk_u S 10 0 ((N : Int) + 1)) 11 N s) 12 N (w % 2)) 13 N (w / 2)) 14 N 0) 15 N q) 16 N pv) 17 N pk) 18 N 0
theorem acc_eq {A : ab} {N s : Nat} {w q p : Int} (hn : A.1 8 0 = N) : ab_acc A s w q p = ab_u (ab_u (ab_u (ab_u (ab_u (ab_u (ab_u (ab_u (ab_u A 8 0 ((N : Int) + 1)) 0 N s) 1 N (w % 2)) 2 N (w / 2)) 3 N 0) 4 N q) 5 N (if w / 2 = 4 then A.1 10 s else p)) 6 N (if w / 2 = 5 then A.1 10 s else 1000)) 7 N 0 := by
  unfold ab_acc ab_n
  rw [hn]
  simp only [Int.toNat_natCast]
theorem acc_1 {A : ab} {N s : Nat} {w q p : Int} (hn : A.1 8 0 = N) {k j : Nat} (hk : k < 8) (hj : ¬ j = N) : (ab_acc A s w q p).1 k j = A.1 k j := by
  rw [acc_eq hn, u_ne (Or.inr hj), u_ne (Or.inr hj), u_ne (Or.inr hj), u_ne (Or.inr hj), u_ne (Or.inr hj), u_ne (Or.inr hj), u_ne (Or.inr hj), u_ne (Or.inr hj), u_ne (Or.inl (by omega))]
theorem acc_hi {A : ab} {N s : Nat} {w q p : Int} (hn : A.1 8 0 = N) {k j : Nat} (hk : 8 ≤ k) (h : ¬ (k = 8 ∧ j = 0)) : (ab_acc A s w q p).1 k j = A.1 k j := by
  rw [acc_eq hn, u_ne (Or.inl (by omega)), u_ne (Or.inl (by omega)), u_ne (Or.inl (by omega)), u_ne (Or.inl (by omega)), u_ne (Or.inl (by omega)), u_ne (Or.inl (by omega)), u_ne (Or.inl (by omega)), u_ne (Or.inl (by omega)), u_ne (by omega)]
theorem acc_80 {A : ab} {N s : Nat} {w q p : Int} (hn : A.1 8 0 = N) : (ab_acc A s w q p).1 8 0 = ((N + 1 : Nat) : Int) := by
  rw [acc_eq hn, u_ne (Or.inl (by omega)), u_ne (Or.inl (by omega)), u_ne (Or.inl (by omega)), u_ne (Or.inl (by omega)), u_ne (Or.inl (by omega)), u_ne (Or.inl (by omega)), u_ne (Or.inl (by omega)), u_ne (Or.inl (by omega)), u_at]
  omega
theorem acc_new {A : ab} {N s : Nat} {w q p : Int} (hn : A.1 8 0 = N) : (ab_acc A s w q p).1 0 N = s ∧ (ab_acc A s w q p).1 1 N = w % 2 ∧ (ab_acc A s w q p).1 2 N = w / 2 ∧ (ab_acc A s w q p).1 3 N = 0 ∧ (ab_acc A s w q p).1 4 N = q ∧ (ab_acc A s w q p).1 5 N = (if w / 2 = 4 then A.1 10 s else p) ∧ (ab_acc A s w q p).1 6 N = (if w / 2 = 5 then A.1 10 s else 1000) ∧ (ab_acc A s w q p).1 7 N = 0 := by
  rw [acc_eq hn]
  refine ⟨?_, ?_, ?_, ?_, ?_, ?_, ?_, ?_⟩ <;> simp [ab_u_get]
theorem acc_rel {N s : Nat} {w q p : Int} {S : sk_S} {A : ab} (hR : RC 0 N S A) (hn : A.1 8 0 = N) : RC 0 (N + 1) (accS S N s w q (if w / 2 = 4 then A.1 10 s else p) (if w / 2 = 5 then A.1 10 s else 1000)) (ab_acc A s w q p) := by
  have h : RC 0 N (accS S N s w q (if w / 2 = 4 then A.1 10 s else p) (if w / 2 = 5 then A.1 10 s else 1000)) (ab_acc A s w q p) := by
    rw [acc_eq hn]
    unfold accS
    exact (((((((((hR.sc (q := 0) (k := 10) (j := 0) (by omega)).col (c := 0) (by omega) (by omega)).col (c := 1) (by omega) (by omega)).col (c := 2) (by omega) (by omega)).col (c := 3) (by omega) (by omega)).col (c := 4) (by omega) (by omega)).col (c := 5) (by omega) (by omega)).col (c := 6) (by omega) (by omega)).col (c := 7) (by omega) (by omega))
  refine h.ext fun c hc => ?_
  obtain ⟨n0, n1, n2, n3, n4, n5, n6, n7⟩ := acc_new (s := s) (w := w) (q := q) (p := p) hn
  unfold accS
  rcases (show c = 0 ∨ c = 1 ∨ c = 2 ∨ c = 3 ∨ c = 4 ∨ c = 5 ∨ c = 6 ∨ c = 7 by omega) with e | e | e | e | e | e | e | e <;> subst e
  · rw [n0]; simp [sk_u_get]
  · rw [n1]; simp [sk_u_get]
  · rw [n2]; simp [sk_u_get]
  · rw [n3]; simp [sk_u_get]
  · rw [n4]; simp [sk_u_get]
  · rw [n5]; simp [sk_u_get]
  · rw [n6]; simp [sk_u_get]
  · rw [n7]; simp [sk_u_get]
theorem acc_ws {N s : Nat} {m w q p : Int} {A : ab} (hW : WS N m A) (hs : s < 4) (hok : ab_ok A s w q p = true) (hp : rg p) (hx : rg (A.1 10 s)) : WS (N + 1) m (ab_acc A s w q p) := by
  have hn := hW.1
  have ok := (ok_iff A s w q p).mp hok
  rw [Int.toNat_natCast] at ok
  obtain ⟨k1, k2, k3, k4, k5, k6⟩ := ok
  have fit : (w / 2 = 4 → 1 ≤ A.1 10 s ∧ A.1 10 s ≤ 999) ∧ (w / 2 = 5 → 1 ≤ A.1 10 s ∧ A.1 10 s ≤ q ∧ q ≤ 10 * A.1 10 s) := by
    unfold ab_fit at k3
    rw [Bool.and_eq_true, decide_eq_true_eq, decide_eq_true_eq] at k3
    exact k3
  obtain ⟨n0, n1, n2, n3, n4, n5, n6, n7⟩ := acc_new (s := s) (w := w) (q := q) (p := p) hn
  obtain ⟨g1, g2, g3, g4, g5, g6, g7, g8⟩ := hW
  obtain ⟨w0, w1, w2⟩ := g2
  have o1 : ∀ k j, k < 8 → ¬ j = N → (ab_acc A s w q p).1 k j = A.1 k j := fun k j h1 h2 => acc_1 hn h1 h2
  have hl : ∀ t, (ab_acc A s w q p).2 t = A.2 t := fun t => by rw [acc_eq hn]; rfl
  refine ⟨acc_80 hn, ⟨by omega, fun i hi => ?_, fun t ht => ?_⟩, fun t ht => ?_, by rw [acc_hi hn (by omega) (by omega)]; exact g4, by rw [acc_hi hn (by omega) (by omega)]; exact g5, by rw [acc_hi hn (by omega) (by omega)]; exact g6, fun i hi => ?_, ?_⟩
  · by_cases e : i = N
    · subst e
      rw [n0, n1, n2, n3, n4, n5, n6, n7]
      refine ⟨by omega, by omega, by omega, fun q => by omega, by omega, ?_, by omega⟩
      split
      · rename_i h; have := fit.2 h; omega
      · omega
    · rw [o1 0 i (by omega) e, o1 1 i (by omega) e, o1 7 i (by omega) e, o1 3 i (by omega) e, o1 5 i (by omega) e, o1 4 i (by omega) e, o1 6 i (by omega) e, o1 2 i (by omega) e]
      exact w1 i (by omega)
  · rw [hl t]
    obtain ⟨c1, c2, c3⟩ := w2 t ht
    refine ⟨c1, fun i => ?_, c3⟩
    rw [c2 i]
    by_cases e : i = N
    · subst e
      rw [n3]
      constructor
      · intro q; omega
      · intro q; omega
    · rw [o1 3 i (by omega) e, o1 1 i (by omega) e]
      constructor
      · intro q; exact ⟨by omega, q.2⟩
      · intro q; exact ⟨by omega, q.2⟩
  · have h := g3 t ht
    unfold Srt at *
    rw [hl t]
    refine h.imp_of_mem ?_
    intro a b ha hb hab
    have ha' := ((w2 t ht).2.1 a).mp ha
    have hb' := ((w2 t ht).2.1 b).mp hb
    rw [o1 5 a (by omega) (by omega), o1 5 b (by omega) (by omega)]
    exact hab
  · by_cases e : i = N
    · subst e
      unfold WFi
      rw [n2, n3, n4, n5, n7]
      refine ⟨by omega, fun _ => rfl, fun q => by omega, fun q => by omega, fun q => ?_, ?_⟩
      · split
        · rename_i h; have := fit.1 h; omega
        · omega
      · split
        · exact hx
        · exact hp
    · exact (g7 i (by omega)).same (fun k hk => o1 k i hk e)
  · have e1 : ab_n (ab_acc A s w q p) = N + 1 := by unfold ab_n; rw [acc_80 hn, Int.toNat_natCast]
    have e2 : ab_n A = N := by unfold ab_n; rw [hn, Int.toNat_natCast]
    have e3 : ab_open (ab_acc A s w q p) = ab_open A := by
      unfold ab_open
      rw [e1, e2, List.range_succ, List.countP_append, show [N].countP (fun i => decide (¬ (ab_acc A s w q p).1 3 i = 0)) = 0 by simp [n3], Nat.add_zero]
      congr 1
      refine List.countP_congr fun i hi => ?_
      have hi' := List.mem_range.mp hi
      rw [o1 3 i (by omega) (by omega)]
    rw [e3]
    exact g8
theorem order_ws {N s : Nat} {w q p band B : Int} {A : ab} (hW : WS N 40 A) (hs : s < 4) (hok : ab_ok A s w q p = true) (hp : rg p) (hx : rg (A.1 10 s)) (hB : rcB A B) : WS (N + 1) 40 (ab_order band A s w q p) ∧ rcB (ab_order band A s w q p) (B + 2082) := by
  have hn := hW.1
  have e2 : ab_n A = N := hW.n
  have ok := (ok_iff A s w q p).mp hok
  have hW39 : WS N 39 A := ⟨hW.1, hW.2.1, hW.2.2.1, hW.2.2.2.1, hW.2.2.2.2.1, hW.2.2.2.2.2.1, hW.2.2.2.2.2.2.1, by omega⟩
  have h1 := acc_ws hW39 hs hok hp hx
  obtain ⟨n0, n1, n2, n3, n4, n5, n6, n7⟩ := acc_new (s := s) (w := w) (q := q) (p := p) hn
  have hB1 : rcB (ab_acc A s w q p) B := hB.same (fun j => acc_hi hn (by omega) (by omega))
  unfold ab_order
  dsimp only
  rw [e2]
  obtain ⟨r1, r2⟩ := in_ws (band := band) (i := N) (show (39 : Int) ≤ 39 by omega) (by omega) (h1.tell (s := s) (t := 1) (o := N) (q := q) (p := ab_told (ab_acc A s w q p) N)) (by rw [tell_1i _ (by omega)]; exact n3) (by rw [tell_1i _ (by omega), n4]; omega) (hB1.tell)
  exact ⟨r1.le (by omega), r2.le (by omega)⟩
theorem sp_accept {scr : Nat × (Nat → Int32)} {d N s : Nat} {w q p band B : Int} {S : sk_S} {A : ab} (hC : CI N S A) (hW : WS N 40 A) (hs : s < 4) (hok : ab_ok A s w q p = true) (hp : rg p) (hbd : S 1 0 = band) (hB : rcB A B) (hB2 : B < 2147000000) :
    EE scr (d + 5) 114 0 [some (.ref 1), some (vi s), some (vi w), some (vi q), some (vi p), none, none, none] S (pI fun x S' => x = N ∧ CI (N + 1) S' (ab_order band A s w q p) ∧ Fr 2 31 S S') := by
  have hn := hW.1
  have hR := hC.1
  have e2 : ab_n A = N := hW.n
  have ok := (ok_iff A s w q p).mp hok
  have hN : N < 200 := by have := ok.2.2.2.2.1; omega
  have e10 : S 10 0 = N := hR.1.1.trans hn
  have e25 : S 25 s = A.1 10 s := hR.2.2.2.1 1 (by omega) s hs
  refine Ev.good fun hS => ?_
  have hx : rg (A.1 10 s) := by rw [← e25]; exact hS _ _
  have hW39 : WS N 39 A := ⟨hW.1, hW.2.1, hW.2.2.1, hW.2.2.2.1, hW.2.2.2.2.1, hW.2.2.2.2.2.1, hW.2.2.2.2.2.2.1, by omega⟩
  have h1 := acc_ws hW39 hs hok hp hx
  obtain ⟨n0, n1, n2, n3, n4, n5, n6, n7⟩ := acc_new (s := s) (w := w) (q := q) (p := p) hn
  have hB1 : rcB (ab_acc A s w q p) B := hB.same (fun j => acc_hi hn (by omega) (by omega))
  have tail : ∀ T : sk_S, T = accS S N s w q (if w / 2 = 4 then A.1 10 s else p) (if w / 2 = 5 then A.1 10 s else 1000) → EE scr (d + 4) 139 0 [some (.ref 1), some (vi N)] T (pI fun y31 S30 => rg y31 → EE scr (d + 4) 140 0 [some (.ref 1), some (vi N), some (vi 1), some (vi q), some (vi y31)] S30 (pV fun S35 => EE scr (d + 4) 123 0 [some (.ref 1), some (vi N), none] S35 (pV fun S40 => pI (fun x S' => x = N ∧ CI (N + 1) S' (ab_order band A s w q p) ∧ Fr 2 31 S S') (some (N : Int)) S40))) := by
    intro T hT
    have hRT : RC 0 (N + 1) T (ab_acc A s w q p) := by rw [hT]; exact acc_rel hR hn
    have frT : Fr 10 18 S T := by
      rw [hT]
      unfold accS
      exact ((((((((Fr.u (by omega) (by omega)).trans (Fr.u (by omega) (by omega))).trans (Fr.u (by omega) (by omega))).trans (Fr.u (by omega) (by omega))).trans (Fr.u (by omega) (by omega))).trans (Fr.u (by omega) (by omega))).trans (Fr.u (by omega) (by omega))).trans (Fr.u (by omega) (by omega))).trans (Fr.u (by omega) (by omega))
    have hCT : CI (N + 1) T (ab_acc A s w q p) := by
      refine ⟨hRT, fun t ht x hx => ?_, hC.2.2.frame fun k hk => frT k (by omega)⟩
      rw [frT (4 + t) (by omega), hC.2.1 t ht x hx]
      unfold ab_lev
      have hl : (ab_acc A s w q p).2 t = A.2 t := by rw [acc_eq hn]; rfl
      rw [hl]
      refine sum_congr fun j hj => ?_
      have hj' := ((hW.2.1.2.2 t ht).2.1 j).mp hj
      rw [acc_1 hn (by omega) (by omega), acc_1 hn (by omega) (by omega)]
    refine (sp_told hRT (by omega) (by omega)).I fun y S30 _ _ hy _ => ?_
    obtain ⟨rfl, rfl⟩ := hy
    have hbs := hB1 s hs
    refine (sp_tellOwner (s := s) hRT (by omega) (by omega) hs n0 hbs.1 (by omega) (rg_b (by omega) (by omega)) (rg_b (by omega) (by omega)) (told_rg h1 (by omega))).V fun S35 _ hk => ?_
    obtain ⟨k1, k2⟩ := hk
    have hC35 := hCT.tell k1 k2
    refine (sp_comeIn (band := band) (show (39 : Int) ≤ 39 by omega) (by omega) hC35 h1.tell (by rw [tell_1i _ (by omega)]; exact n3) (by rw [k2 1 (by omega), frT 1 (by omega)]; exact hbd) hB1.tell (by omega)).V fun S40 _ hk2 => ?_
    refine ⟨_, rfl, rfl, ?_, fun k hk => by rw [hk2.2 k hk, k2 k (by omega), frT k (by omega)]⟩
    unfold ab_order
    dsimp only
    rw [e2]
    exact hk2.1
  refine st_114_0 (rg_n (by omega)) (rg_b (by omega) (by omega)) (rg_b (by omega) (by omega)) hp ?_
  simp only [e10, Int.toNat_natCast, e25]
  refine ⟨by omega, by omega, by omega, rg_b (by omega) (by omega), fun S1 q1 => ⟨by omega, by omega, fun S4 q4 S7 q7 S10 q10 S13 q13 S16 q16 => ⟨fun g S20 q20 => ⟨fun g2 S24 q24 S27 q27 => tail S27 ?_, fun g2 S45 q45 S48 q48 => tail S48 ?_⟩, fun g S66 q66 => ⟨fun g2 S70 q70 S73 q73 => tail S73 ?_, fun g2 S91 q91 S94 q94 => by omega⟩⟩⟩⟩
  · rw [if_neg g, if_neg g2, q27, q24, q20, q16, q13, q10, q7, q4, q1]
    rfl
  · rw [if_neg g, if_pos g2, q48, q45, q20, q16, q13, q10, q7, q4, q1]
    rfl
  · rw [if_pos g, if_neg g2, q73, q70, q66, q16, q13, q10, q7, q4, q1]
    rfl
theorem sp_has {scr : Nat × (Nat → Int32)} {d N : Nat} {S : sk_S} {A : ab} {o : Int} (hR : RC 0 N S A) (hn : A.1 8 0 = N) (ho : rg o) : EE scr d 93 0 [some (.ref 10), some (vi o)] S (pI fun x S' => S' = S ∧ x = if 0 ≤ o ∧ o < N then 1 else 0) := by
  have e10 : S 10 0 = N := hR.1.1.trans hn
  refine st_93_0 ho ?_
  rw [e10]
  refine ⟨fun g => ⟨_, rfl, rfl, by rw [if_neg (by omega)]⟩, fun g => ⟨fun g2 => ⟨_, rfl, rfl, by rw [if_neg (by omega)]⟩, fun g2 => ⟨_, rfl, rfl, by rw [if_pos (by omega)]⟩⟩⟩
theorem sp_isOf {scr : Nat × (Nat → Int32)} {d N s : Nat} {S : sk_S} {A : ab} {o : Int} (hR : RC 0 N S A) (hn : A.1 8 0 = N) (hN : N ≤ 200) (hs : s < 4) (ho : rg o) : EE scr (d + 1) 94 0 [some (.ref 10), some (vi s), some (vi o)] S (pI fun x S' => S' = S ∧ x = if 0 ≤ o ∧ o < N ∧ A.1 0 o.toNat = s then 1 else 0) := by
  refine st_94_0 (rg_n (by omega)) ho ?_
  refine (sp_has hR hn ho).I fun x S1 _ _ hx _ => ?_
  obtain ⟨rfl, rfl⟩ := hx
  by_cases c : 0 ≤ o ∧ o < N
  · rw [if_pos c]
    have e11 : S1 11 o.toNat = A.1 0 o.toNat := hR.2.1 0 (by omega) o.toNat (by omega)
    rw [e11]
    exact ⟨fun g => by omega, fun _ => ⟨by omega, by omega, fun g => ⟨_, rfl, rfl, by rw [if_neg (by omega)]⟩, fun g => ⟨_, rfl, rfl, by rw [if_pos (by omega)]⟩⟩⟩
  · rw [if_neg c]
    exact ⟨fun _ => ⟨_, rfl, rfl, by rw [if_neg (by omega)]⟩, fun g => absurd rfl g⟩
def ab_mayC (A : ab) (N s : Nat) (o : Int) : Bool := decide (0 ≤ o ∧ o < N ∧ A.1 0 o.toNat = s ∧ ¬ A.1 3 o.toNat = 0)
theorem sp_mayCancel {scr : Nat × (Nat → Int32)} {d N s : Nat} {S : sk_S} {A : ab} {o : Int} (hR : RC 0 N S A) (hn : A.1 8 0 = N) (hN : N ≤ 200) (hs : s < 4) (ho : rg o) : EE scr (d + 2) 115 0 [some (.ref 1), some (vi s), some (vi o)] S (pI fun x S' => S' = S ∧ x = if ab_mayC A N s o = true then 1 else 0) := by
  unfold ab_mayC
  simp only [decide_eq_true_eq]
  refine st_115_0 (rg_n (by omega)) ho ?_
  refine (sp_isOf hR hn hN hs ho).I fun x S1 _ _ hx _ => ?_
  obtain ⟨rfl, rfl⟩ := hx
  by_cases c : 0 ≤ o ∧ o < N ∧ A.1 0 o.toNat = s
  · rw [if_pos c]
    have e14 : S1 14 o.toNat = A.1 3 o.toNat := hR.2.1 3 (by omega) o.toNat (by omega)
    rw [e14]
    exact ⟨fun g => by omega, fun _ => ⟨by omega, by omega, fun g => ⟨_, rfl, rfl, by rw [if_neg (by omega)]⟩, fun g => ⟨_, rfl, rfl, by rw [if_pos (by omega)]⟩⟩⟩
  · rw [if_neg c]
    exact ⟨fun _ => ⟨_, rfl, rfl, by rw [if_neg (by omega)]⟩, fun g => absurd rfl g⟩
def ab_mayR (A : ab) (N s : Nat) (o q p : Int) : Bool := decide (0 ≤ o ∧ o < N ∧ A.1 0 o.toNat = s ∧ A.1 3 o.toNat = 1 ∧ (1 ≤ q ∧ q ≤ 1000) ∧ (1 ≤ p ∧ p ≤ 999) ∧ q ≤ 10 * A.1 6 o.toNat)
theorem sp_mayReplace {scr : Nat × (Nat → Int32)} {d N s : Nat} {m : Int} {S : sk_S} {A : ab} {o q p : Int} (hR : RC 0 N S A) (hW : WS N m A) (hs : s < 4) (ho : rg o) (hq : rg q) (hp : rg p) : EE scr (d + 2) 117 0 [some (.ref 1), some (vi s), some (vi o), some (vi q), some (vi p)] S (pI fun x S' => S' = S ∧ x = if ab_mayR A N s o q p = true then 1 else 0) := by
  have hN := hW.2.1.1
  unfold ab_mayR
  simp only [decide_eq_true_eq]
  refine st_117_0 (rg_n (by omega)) ho hq hp ?_
  refine (sp_isOf hR hW.1 hN hs ho).I fun x S1 _ _ hx _ => ?_
  obtain ⟨rfl, rfl⟩ := hx
  by_cases c : 0 ≤ o ∧ o < N ∧ A.1 0 o.toNat = s
  · rw [if_pos c]
    have e14 : S1 14 o.toNat = A.1 3 o.toNat := hR.2.1 3 (by omega) o.toNat (by omega)
    have e17 : S1 17 o.toNat = A.1 6 o.toNat := hR.2.1 6 (by omega) o.toNat (by omega)
    have hpk := (hW.2.1.2.1 o.toNat (by omega)).2.2.2.2.2.1
    rw [e14]
    refine ⟨fun g => by omega, fun _ => ⟨by omega, by omega, fun g => ⟨_, rfl, rfl, by rw [if_neg (by omega)]⟩, fun g => (sp_isQty hq).I fun y S8 _ _ hy _ => ?_⟩⟩
    obtain ⟨rfl, rfl⟩ := hy
    by_cases c2 : 1 ≤ q ∧ q ≤ 1000
    · rw [if_pos c2]
      refine ⟨fun g => by omega, fun _ => (sp_isPrice hp).I fun z S14 _ _ hz _ => ?_⟩
      obtain ⟨rfl, rfl⟩ := hz
      by_cases c3 : 1 ≤ p ∧ p ≤ 999
      · rw [if_pos c3, e17]
        refine ⟨fun g => by omega, fun _ => (sp_peak (by omega) (by omega) hq).I fun u S20 _ _ hu _ => ?_⟩
        obtain ⟨rfl, rfl⟩ := hu
        by_cases c4 : q ≤ 10 * A.1 6 o.toNat
        · rw [if_pos c4]
          exact ⟨fun g => by omega, fun _ => ⟨_, rfl, rfl, by rw [if_pos (by omega)]⟩⟩
        · rw [if_neg c4]
          exact ⟨fun _ => ⟨_, rfl, rfl, by rw [if_neg (by omega)]⟩, fun g => absurd rfl g⟩
      · rw [if_neg c3]
        exact ⟨fun _ => ⟨_, rfl, rfl, by rw [if_neg (by omega)]⟩, fun g => absurd rfl g⟩
    · rw [if_neg c2]
      exact ⟨fun _ => ⟨_, rfl, rfl, by rw [if_neg (by omega)]⟩, fun g => absurd rfl g⟩
  · rw [if_neg c]
    exact ⟨fun _ => ⟨_, rfl, rfl, by rw [if_neg (by omega)]⟩, fun g => absurd rfl g⟩
