/-! 9d.ref1: the reference: leaves; ranks and lines -/
theorem rp_in {scr : Nat × (Nat → Int32)} {d : Nat} {S : sk_S} {v lo hi : Int} (h1 : rg v) (h2 : rg lo) (h3 : rg hi) : EE scr d 34 0 [some (vi v), some (vi lo), some (vi hi)] S (pI fun x S' => S' = S ∧ x = if lo ≤ v ∧ v ≤ hi then 1 else 0) := by
  refine st_34_0 h1 h2 h3 ⟨fun h => ⟨_, rfl, rfl, ?_⟩, fun h => ⟨fun g => ⟨_, rfl, rfl, ?_⟩, fun g => ⟨_, rfl, rfl, ?_⟩⟩⟩
  · rw [if_neg (by omega)]
  · rw [if_neg (by omega)]
  · rw [if_pos (by omega)]
theorem rp_least {scr : Nat × (Nat → Int32)} {d : Nat} {S : sk_S} {x y : Int} (h1 : rg x) (h2 : rg y) : EE scr d 33 0 [some (vi x), some (vi y)] S (pI fun z S' => S' = S ∧ z = min x y) := by
  refine st_33_0 h1 h2 ⟨fun h => ⟨_, rfl, rfl, ?_⟩, fun h => ⟨_, rfl, rfl, ?_⟩⟩
  · omega
  · omega
theorem rp_apart {scr : Nat × (Nat → Int32)} {d : Nat} {S : sk_S} {x y : Int} (h1 : rg x) (h2 : rg y) (h3 : rg (x - y)) (h4 : rg (y - x)) : EE scr d 54 0 [some (vi x), some (vi y)] S (pI fun z S' => S' = S ∧ z = max (x - y) (y - x)) := by
  refine st_54_0 h1 h2 ⟨fun h => ⟨h4, ⟨_, rfl, rfl, ?_⟩⟩, fun h => ⟨h3, ⟨_, rfl, rfl, ?_⟩⟩⟩
  · omega
  · omega
theorem RM.lines {k N : Nat} {S : sk_S} {A B : ab} (h : RM k N S A) (hf : ∀ q j, B.1 q j = A.1 q j) : RM k N S B := by
  obtain ⟨⟨h1, h2, h3, h4⟩, h5, h7, h8⟩ := h
  refine ⟨⟨by rw [hf]; exact h1, by rw [hf]; exact h2, by rw [hf]; exact h3, by rw [hf]; exact h4⟩, fun c hc i hi => by rw [hf]; exact h5 c hc i hi, fun r hr s hs => by rw [hf]; exact h7 r hr s hs, fun s hs j hj => by rw [hf]; exact h8 s hs j hj⟩
/-- what an operation on the market leaves -/
def MF (S S' : sk_S) : Prop := (∀ k, (k < 66 ∨ 79 < k) → S' k = S k) ∧ (∀ j, ¬ j = 11 → ¬ (15 ≤ j ∧ j ≤ 17) → S' 66 j = S 66 j) ∧ (∀ j, 16 ≤ j → S' 67 j = S 67 j) ∧ (∀ k, 68 ≤ k → k ≤ 76 → ∀ j, 200 ≤ j → S' k j = S k j) ∧ (∀ j, 512 ≤ j → S' 77 j = S 77 j) ∧ S 66 11 ≤ S' 66 11
theorem MF.refl {S : sk_S} : MF S S := ⟨fun _ _ => rfl, fun _ _ _ => rfl, fun _ _ => rfl, fun _ _ _ _ _ => rfl, fun _ _ => rfl, Int.le_refl _⟩
theorem MF.trans {S S1 S2 : sk_S} (h1 : MF S S1) (h2 : MF S1 S2) : MF S S2 :=
  ⟨fun k hk => (h2.1 k hk).trans (h1.1 k hk), fun j a b => (h2.2.1 j a b).trans (h1.2.1 j a b), fun j a => (h2.2.2.1 j a).trans (h1.2.2.1 j a), fun k a b j c => (h2.2.2.2.1 k a b j c).trans (h1.2.2.2.1 k a b j c), fun j a => (h2.2.2.2.2.1 j a).trans (h1.2.2.2.2.1 j a), Int.le_trans h1.2.2.2.2.2 h2.2.2.2.2.2⟩
theorem MF.u {S : sk_S} {k j : Nat} {v : Int} (h : (k = 66 ∧ 15 ≤ j ∧ j ≤ 17) ∨ (k = 67 ∧ j < 16) ∨ (68 ≤ k ∧ k ≤ 76 ∧ j < 200) ∨ (k = 77 ∧ j < 512) ∨ k = 78 ∨ k = 79) : MF S (sk_u S k j v) := by
  refine ⟨fun q hq => sk_u_ne (by omega), fun i a b => ?_, fun i a => ?_, fun q a b i c => ?_, fun i a => ?_, ?_⟩
  · rw [sk_u_get, if_neg (by omega)]
  · rw [sk_u_get, if_neg (by omega)]
  · rw [sk_u_get, if_neg (by omega)]
  · rw [sk_u_get, if_neg (by omega)]
  · rw [sk_u_get, if_neg (by omega)]
    exact Int.le_refl _
theorem MF.rank {S : sk_S} {v : Int} (h : S 66 11 ≤ v) : MF S (sk_u S 66 11 v) := by
  refine ⟨fun q hq => sk_u_ne (by omega), fun i a b => ?_, fun i a => ?_, fun q a b i c => ?_, fun i a => ?_, ?_⟩
  · rw [sk_u_get, if_neg (by omega)]
  · rw [sk_u_get, if_neg (by omega)]
  · rw [sk_u_get, if_neg (by omega)]
  · rw [sk_u_get, if_neg (by omega)]
  · rw [sk_u_at]
    exact h
/-- before: a better price, or the same and a lower rank -/
def Rr (S : sk_S) (k : Nat) (A : ab) (s x y : Nat) : Bool := ab_bt s (A.1 5 x) (A.1 5 y) || decide (A.1 5 x = A.1 5 y ∧ S 76 (200 * k + x) < S 76 (200 * k + y))
def RK (k : Nat) (S : sk_S) (A : ab) : Prop := ∀ s, s < 2 → (A.2 s).Pairwise (fun i j => Rr S k A s i j = true) ∧ ∀ i ∈ A.2 s, S 76 (200 * k + i) ≤ S 66 11
theorem Rr_irr {S : sk_S} {k : Nat} {A : ab} {s x : Nat} : Rr S k A s x x = false := by
  unfold Rr ab_bt
  split <;> simp
theorem Rr_asym {S : sk_S} {k : Nat} {A : ab} {s x y : Nat} (h : Rr S k A s x y = true) : Rr S k A s y x = false := by
  unfold Rr ab_bt at *
  split at h
  · rename_i e
    rw [if_pos e]
    simp only [Bool.or_eq_true, decide_eq_true_eq, Bool.or_eq_false_iff, decide_eq_false_iff_not] at *
    omega
  · rename_i e
    rw [if_neg e]
    simp only [Bool.or_eq_true, decide_eq_true_eq, Bool.or_eq_false_iff, decide_eq_false_iff_not] at *
    omega
theorem pw_lt {l : List Nat} {R : Nat → Nat → Prop} (h : l.Pairwise R) {a b x y : Nat} (ha : l[a]? = some x) (hb : l[b]? = some y) (hab : a < b) : R x y := by
  obtain ⟨a1, a2⟩ := List.getElem?_eq_some_iff.mp ha
  obtain ⟨b1, b2⟩ := List.getElem?_eq_some_iff.mp hb
  have := List.pairwise_iff_getElem.mp h a b a1 b1 hab
  rw [a2, b2] at this
  exact this
theorem RK.at {k : Nat} {S : sk_S} {A : ab} (h : RK k S A) {s a b x y : Nat} (hs : s < 2) (ha : (A.2 s)[a]? = some x) (hb : (A.2 s)[b]? = some y) : (Rr S k A s x y = true) ↔ a < b := by
  constructor
  · intro hr
    rcases Nat.lt_trichotomy a b with e | e | e
    · exact e
    · rw [e, hb] at ha
      cases ha
      rw [Rr_irr] at hr
      exact absurd hr (by decide)
    · have h2 := Rr_asym (pw_lt (h s hs).1 hb ha e)
      rw [h2] at hr
      exact absurd hr (by decide)
  · exact fun e => pw_lt (h s hs).1 ha hb e
theorem RK.frame {k : Nat} {S S' : sk_S} {A : ab} (h : RK k S A) (h76 : ∀ i, i < 200 → S' 76 (200 * k + i) = S 76 (200 * k + i)) (h66 : S 66 11 ≤ S' 66 11) (hm : ∀ s, s < 2 → ∀ i ∈ A.2 s, i < 200) : RK k S' A := by
  intro s hs
  obtain ⟨h1, h2⟩ := h s hs
  refine ⟨List.Pairwise.imp_of_mem (fun {a b} ha hb hr => ?_) h1, fun i hi => ?_⟩
  · unfold Rr at *
    rw [h76 a (hm s hs a ha), h76 b (hm s hs b hb)]
    exact hr
  · rw [h76 i (hm s hs i hi)]
    have := h2 i hi
    omega
/-- the same lines, prices -/
theorem RK.same {k : Nat} {S : sk_S} {A B : ab} (h : RK k S A) (h2 : ∀ s, B.2 s = A.2 s) (h5 : ∀ j, B.1 5 j = A.1 5 j) : RK k S B := by
  intro s hs
  rw [h2 s]
  refine ⟨(h s hs).1.imp (fun {a b} hr => ?_), (h s hs).2⟩
  unfold Rr at *
  rw [h5, h5]
  exact hr
theorem RK.out {k : Nat} {S : sk_S} {A : ab} (h : RK k S A) {i : Nat} : RK k S (ab_out A i) := by
  intro s hs
  obtain ⟨h1, h2⟩ := h s hs
  have e5 : ∀ j, (ab_out A i).1 5 j = A.1 5 j := fun j => out_ne (Or.inl (by omega))
  have key : ∀ l : List Nat, l.Sublist (A.2 s) → l.Pairwise (fun i_1 j => Rr S k (ab_out A i) s i_1 j = true) ∧ ∀ j ∈ l, S 76 (200 * k + j) ≤ S 66 11 := by
    intro l hl
    refine ⟨(h1.sublist hl).imp (fun {a b} hr => ?_), fun j hj => h2 j (hl.subset hj)⟩
    unfold Rr at *
    rw [e5, e5]
    exact hr
  rw [out_2 rfl]
  split
  · rename_i e
    rw [← e]
    exact key _ List.filter_sublist
  · exact key _ (List.Sublist.refl _)
theorem bt_tr {s : Nat} {p q r : Int} (h1 : ab_bt s p q = true) (h2 : ab_bt s q r = true ∨ q = r) : ab_bt s p r = true := by
  unfold ab_bt at *
  split at h1
  · rename_i e
    rw [if_pos e] at h2 ⊢
    simp only [decide_eq_true_eq] at *
    omega
  · rename_i e
    rw [if_neg e] at h2 ⊢
    simp only [decide_eq_true_eq] at *
    omega
theorem bt_or {s : Nat} {p q : Int} (h : ¬ ab_bt s p q = true) : ab_bt s q p = true ∨ q = p := by
  unfold ab_bt at *
  split at h
  · rename_i e
    rw [if_pos e]
    simp only [decide_eq_true_eq] at *
    omega
  · rename_i e
    rw [if_neg e]
    simp only [decide_eq_true_eq] at *
    omega
theorem Rr_or {S : sk_S} {k : Nat} {A : ab} {s x y : Nat} (h : Rr S k A s x y = true) : ab_bt s (A.1 5 x) (A.1 5 y) = true ∨ A.1 5 x = A.1 5 y := by
  unfold Rr at h
  rw [Bool.or_eq_true, decide_eq_true_eq] at h
  exact h.imp id (fun g => g.1)
theorem rk_ins {S S' : sk_S} {A : ab} {i s : Nat} (hsd : A.1 1 i = s) (h76 : ∀ j, ¬ j = i → S' 76 (200 * 0 + j) = S 76 (200 * 0 + j)) : ∀ l : List Nat, ¬ i ∈ l → l.Pairwise (fun a b => Rr S 0 A s a b = true) → (∀ j ∈ l, S 76 (200 * 0 + j) < S' 76 (200 * 0 + i)) → (ab_ins A i l).Pairwise (fun a b => Rr S' 0 A s a b = true) := by
  intro l
  induction l with
  | nil => intro _ _ _; exact List.pairwise_singleton _ _
  | cons j l ih =>
    intro hni hp hr
    have hji : ¬ j = i := fun e => hni (e ▸ List.mem_cons_self)
    have hli : ∀ y ∈ l, ¬ y = i := fun y hy e => hni (e ▸ List.mem_cons_of_mem _ hy)
    have hp' := List.pairwise_cons.mp hp
    have mv : ∀ a b, ¬ a = i → ¬ b = i → Rr S 0 A s a b = true → Rr S' 0 A s a b = true := by
      intro a b ha hb h
      unfold Rr at *
      rw [h76 a ha, h76 b hb]
      exact h
    unfold ab_ins
    rw [hsd]
    by_cases c : ab_bt s (A.1 5 i) (A.1 5 j) = true
    · rw [if_pos c]
      refine List.pairwise_cons.mpr ⟨fun y hy => ?_, List.pairwise_cons.mpr ⟨fun y hy => mv j y hji (hli y hy) (hp'.1 y hy), ?_⟩⟩
      · unfold Rr
        rw [Bool.or_eq_true]
        rcases List.mem_cons.mp hy with e | e
        · rw [e]
          exact Or.inl c
        · exact Or.inl (bt_tr c (Rr_or (hp'.1 y e)))
      · exact List.Pairwise.imp_of_mem (fun {a b} ha hb h => mv a b (hli a ha) (hli b hb) h) hp'.2
    · rw [if_neg c]
      refine List.pairwise_cons.mpr ⟨fun y hy => ?_, ih (fun h => hni (List.mem_cons_of_mem _ h)) hp'.2 (fun y hy => hr y (List.mem_cons_of_mem _ hy))⟩
      rcases mem_ins.mp hy with e | e
      · rw [e]
        unfold Rr
        rw [Bool.or_eq_true, decide_eq_true_eq]
        rcases bt_or c with g | g
        · exact Or.inl g
        · refine Or.inr ⟨g, ?_⟩
          rw [h76 j hji]
          exact hr j List.mem_cons_self
      · exact mv j y hji (hli y e) (hp'.1 y e)
/-- the reference's market -/
def MI (N : Nat) (b : Int) (S : sk_S) (A : ab) : Prop := RM 0 N S A ∧ RK 0 S A ∧ (0 ≤ S 66 11 ∧ S 66 11 ≤ b)
theorem MI.le {N : Nat} {b b' : Int} {S : sk_S} {A : ab} (h : MI N b S A) (hb : b ≤ b') : MI N b' S A := ⟨h.1, h.2.1, h.2.2.1, Int.le_trans h.2.2.2 hb⟩
theorem RM.c {N : Nat} {S : sk_S} {A : ab} (h : RM 0 N S A) {c i : Nat} (hc : c < 8) (hi : i < N) : S (mcol c) i = A.1 c i := by
  have := h.2.1 c hc i hi
  rw [Nat.mul_zero, Nat.zero_add] at this
  exact this
theorem rp_told {scr : Nat × (Nat → Int32)} {d N : Nat} {S : sk_S} {A : ab} {i : Nat} (hR : RM 0 N S A) (hi : i < N) (hN : N ≤ 200) : EE scr d 39 0 [some (.ref 66), some (vi i)] S (pI fun x S' => S' = S ∧ x = ab_told A i) := by
  have e2 : S 70 i = A.1 2 i := hR.c (c := 2) (by omega) hi
  have e5 : S 73 i = A.1 5 i := hR.c (c := 5) (by omega) hi
  refine st_39_0 (rg_n (by omega)) ?_
  simp only [Int.toNat_natCast, e2, e5]
  unfold ab_told
  refine ⟨by omega, by omega, fun g => ⟨_, rfl, rfl, ?_⟩, fun g => ⟨fun g2 => ⟨_, rfl, rfl, ?_⟩, fun g2 => ⟨_, rfl, rfl, ?_⟩⟩⟩
  · rw [if_pos (Or.inl g)]
  · rw [if_neg (by omega)]
  · rw [if_pos (Or.inr g2)]
theorem rp_tell {scr : Nat × (Nat → Int32)} {d N s : Nat} {b : Int} {S : sk_S} {A : ab} {t o q p : Int} (hM : MI N b S A) (hs : s < 4) (h0 : 0 ≤ A.1 11 s) (h1 : A.1 11 s < 2147483647) (rt : rg t) (ro : rg o) (rq : rg q) (rp : rg p) :
    EE scr d 38 0 [some (.ref 66), some (vi s), some (vi t), some (vi o), some (vi q), some (vi p), none] S (pV fun S' => MI N b S' (ab_tell A s t o q p) ∧ MF S S' ∧ (∀ k, ¬ k = 67 → ¬ k = 77 → S' k = S k) ∧ ∀ j, j < 12 → S' 67 j = S 67 j) := by
  obtain ⟨hR, hK, hb⟩ := hM
  have e1 : S 67 (12 + s) = A.1 11 s := by
    have := hR.2.2.1 2 (by omega) s hs
    rw [show 16 * 0 + 4 + 4 * 2 + s = 12 + s by omega] at this
    exact this
  refine st_38_0 (rg_n (by omega)) rt ro rq rp ?_
  have es : ((12 + (s : Int))).toNat = 12 + s := by omega
  simp only [es, e1]
  refine ⟨by omega, by omega, h0, by omega, by omega, fun S1 q1 => ⟨by omega, by omega, fun S4 q4 => ⟨by omega, by omega, fun S7 q7 => ⟨by omega, by omega, fun S10 q10 => ?_⟩⟩⟩⟩
  have e2 : S10 67 (12 + s) = A.1 11 s := by
    rw [q10, sk_u_ne (by omega), q7, sk_u_ne (by omega), q4, sk_u_ne (by omega), q1, sk_u_ne (by omega)]
    exact e1
  rw [e2]
  refine ⟨rg_b (by omega) (by omega), fun S13 q13 => ⟨rfl, ⟨?_, ?_, ?_⟩, ?_, fun k k1 k2 => ?_, fun j hj => ?_⟩⟩
  · have h := ((((hR.rep (t := s) (i := (A.1 11 s % 32 * 4).toNat) (j := (128 * (s : Int) + 4 * (A.1 11 s % 32)).toNat) (v := t) hs (by omega) (by omega)).rep (t := s) (i := (A.1 11 s % 32 * 4 + 1).toNat) (j := (128 * (s : Int) + 4 * (A.1 11 s % 32) + 1).toNat) (v := o) hs (by omega) (by omega)).rep (t := s) (i := (A.1 11 s % 32 * 4 + 2).toNat) (j := (128 * (s : Int) + 4 * (A.1 11 s % 32) + 2).toNat) (v := q) hs (by omega) (by omega)).rep (t := s) (i := (A.1 11 s % 32 * 4 + 3).toNat) (j := (128 * (s : Int) + 4 * (A.1 11 s % 32) + 3).toNat) (v := p) hs (by omega) (by omega)).ses (r := 2) (i := s) (j := 12 + s) (v := A.1 11 s + 1) (by omega) hs (by omega)
    rw [q13, q10, q7, q4, q1]
    simpa only [ab_tell, Int.toNat_natCast] using h
  · intro u hu
    have h := hK u hu
    have e76 : S13 76 = S 76 := by rw [q13, sk_u_ne (by omega), q10, sk_u_ne (by omega), q7, sk_u_ne (by omega), q4, sk_u_ne (by omega), q1, sk_u_ne (by omega)]
    have e66 : S13 66 = S 66 := by rw [q13, sk_u_ne (by omega), q10, sk_u_ne (by omega), q7, sk_u_ne (by omega), q4, sk_u_ne (by omega), q1, sk_u_ne (by omega)]
    rw [e76, e66]
    refine ⟨h.1.imp (fun {a b} hr => ?_), h.2⟩
    unfold Rr at *
    rw [tell_1i _ (by omega), tell_1i _ (by omega), e76]
    exact hr
  · rw [q13, sk_u_ne (by omega), q10, sk_u_ne (by omega), q7, sk_u_ne (by omega), q4, sk_u_ne (by omega), q1, sk_u_ne (by omega)]
    exact hb
  · rw [q13, q10, q7, q4, q1]
    exact ((((MF.u (by omega)).trans (MF.u (by omega))).trans (MF.u (by omega))).trans (MF.u (by omega))).trans (MF.u (by omega))
  · rw [q13, sk_u_ne k1, q10, sk_u_ne k2, q7, sk_u_ne k2, q4, sk_u_ne k2, q1, sk_u_ne k2]
  · rw [q13, sk_u_nj (by omega), q10, sk_u_ne (by omega), q7, sk_u_ne (by omega), q4, sk_u_ne (by omega), q1, sk_u_ne (by omega)]
