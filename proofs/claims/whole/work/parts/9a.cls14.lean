/-! 9a.cls14: the class: levels moved, save, crash -/
def ab_part (A : ab) (s k : Nat) (p : Int) : Int := (((A.2 s).take k).map fun i => if A.1 5 i = p then A.1 7 i else 0).sum
theorem part_succ {A : ab} {s k x : Nat} {p : Int} (h : (A.2 s)[k]? = some x) : ab_part A s (k + 1) p = ab_part A s k p + (if A.1 5 x = p then A.1 7 x else 0) := by
  unfold ab_part
  rw [(take_drop_at h).1, List.map_append, List.sum_append]
  simp
theorem part_all {A : ab} {s : Nat} {p : Int} : ab_part A s (A.2 s).length p = ab_lev A s p := by
  unfold ab_part ab_lev
  rw [List.take_length]
theorem part_bd {N : Nat} {A : ab} (h : WFw N A) {s : Nat} (hs : s < 2) (k : Nat) (p : Int) : 0 ≤ ab_part A s k p ∧ ab_part A s k p ≤ 40000 := by
  obtain ⟨-, h1, h2⟩ := h
  obtain ⟨-, g1, g2⟩ := h2 s hs
  have h3 := lev_le (A := A) (l := (A.2 s).take k) (p := p) (fun i hi => (h1 i ((g1 i).mp (List.mem_of_mem_take hi)).1).2.2.1)
  have h4 : ((A.2 s).take k).length ≤ (A.2 s).length := by rw [List.length_take]; omega
  unfold ab_part
  omega
theorem sp_mvSide {scr : Nat × (Nat → Int32)} {d N s : Nat} {x1 : Int} {S : sk_S} {A : ab} {L : Nat → Nat → Int} {Post : Option Int → sk_S → Prop} (hs : s < 2) (sg : x1 = 1 ∨ x1 = -1) (hR : RC 0 N S A) (hw : WFw N A) (hb : ∀ t, t < 2 → ∀ p, p < 1000 → -40000 ≤ L t p ∧ L t p ≤ 40000) (hL : ∀ t, t < 2 → ∀ p : Nat, p < 1000 → S (4 + t) p = L t p) (hv : LVr S)
    (kk : ∀ S' : sk_S, LVr S' → Fr 4 7 S S' → (∀ t, t < 2 → ∀ p : Nat, p < 1000 → S' (4 + t) p = L t p + (if t = s then x1 * ab_lev A s p else 0)) → ∀ l3 l4, EE scr (d + 1) 138 2 [some (.ref 1), some (vi x1), some (vi (s + 1)), l3, l4] S' Post) :
    ∀ l4, EE scr (d + 1) 138 9 [some (.ref 1), some (vi x1), some (vi s), some (vi 0), l4] S Post := by
  have hN := hw.1
  have eL : S 22 s = ((A.2 s).length : Int) := (hR.2.2.1 s hs).1
  have eE : ∀ j k : Nat, (A.2 s)[j]? = some k → S (20 + s) j = (k : Int) := (hR.2.2.1 s hs).2
  have hlen := (hw.2.2 s hs).2.2
  have rx : rg x1 := rg_b (by omega) (by omega)
  have loop : ∀ (f k : Nat) (T : sk_S) (l4 : Option Value), k + f = (A.2 s).length → LVr T → Fr 4 7 S T → (∀ t, t < 2 → ∀ p : Nat, p < 1000 → T (4 + t) p = L t p + (if t = s then x1 * ab_part A s k p else 0)) →
      EE scr (d + 1) 138 9 [some (.ref 1), some (vi x1), some (vi s), some (vi k), l4] T Post := by
    intro f
    induction f with
    | zero =>
      intro k T l4 hk hv' hf hT
      refine st_138_9 rx (rg_n (by omega)) (rg_n (by omega)) ?_
      simp only [Int.toNat_natCast]
      rw [hf 22 (by omega), eL]
      refine ⟨by omega, by omega, fun _ => kk T hv' hf (fun t ht p hp => ?_) _ _, fun g => by omega⟩
      rw [hT t ht p hp, ← part_all, show k = (A.2 s).length by omega]
    | succ f ih =>
      intro k T l4 hk hv' hf hT
      obtain ⟨x, hx⟩ : ∃ x, (A.2 s)[k]? = some x := ⟨_, List.getElem?_eq_getElem (by omega)⟩
      have hxm : x ∈ A.2 s := List.mem_of_getElem? hx
      obtain ⟨a1, a2, a3⟩ := ((hw.2.2 s hs).2.1 x).mp hxm
      obtain ⟨b1, b2, b3, b4, b5, b6, b7⟩ := hw.2.1 x a1
      have hpx := b4 a2
      have e20 : T (20 + s) k = (x : Int) := by rw [hf (20 + s) (by omega)]; exact eE k x hx
      have e16 : T 16 x = A.1 5 x := by rw [hf 16 (by omega)]; exact hR.2.1 5 (by omega) x a1
      have e18 : T 18 x = A.1 7 x := by rw [hf 18 (by omega)]; exact hR.2.1 7 (by omega) x a1
      obtain ⟨p, hp⟩ : ∃ p : Nat, A.1 5 x = p := ⟨(A.1 5 x).toNat, by omega⟩
      refine st_138_9 rx (rg_n (by omega)) (rg_n (by omega)) ?_
      simp only [Int.toNat_natCast, e20, e16, e18, hp]
      rw [hf 22 (by omega), eL]
      refine ⟨by omega, by omega, fun g => by omega, fun _ => ⟨by omega, by omega, by omega, by omega, ?_⟩⟩
      have hbd := part_bd hw hs k p
      have hTp := hT s hs p (by omega)
      rw [if_pos rfl] at hTp
      have hLp := hb s hs p (by omega)
      have hd1 : -1000 ≤ x1 * A.1 7 x ∧ x1 * A.1 7 x ≤ 1000 := by rcases sg with h | h <;> rw [h] <;> omega
      have hd2 : -40000 ≤ x1 * ab_part A s k p ∧ x1 * ab_part A s k p ≤ 40000 := by rcases sg with h | h <;> rw [h] <;> omega
      refine (sp_change hv' hs (by omega) (rg_b (by omega) (by omega)) (by rw [hTp]; exact rg_b (by omega) (by omega))).V fun S2 _ hk2 => ?_
      obtain ⟨c1, c2, c3⟩ := hk2
      refine ih (k + 1) S2 _ (by omega) c1 (hf.trans c2) (fun t ht q hq => ?_)
      rw [c3 t ht q, part_succ hx, Int.mul_add]
      by_cases e : t = s
      · subst e
        rw [if_pos rfl]
        by_cases e2 : q = p
        · subst e2
          rw [if_pos ⟨rfl, rfl⟩, if_pos hp, hTp]
          omega
        · rw [if_neg (fun g => e2 g.2), if_neg (by omega), hT t ht q hq, if_pos rfl]
          omega
      · rw [if_neg (fun g => e g.1), if_neg e, hT t ht q hq, if_neg e]
  intro l4
  refine loop (A.2 s).length 0 S l4 (by omega) hv Fr.refl (fun t ht p hp => ?_)
  rw [hL t ht p hp]
  have : ab_part A s 0 p = 0 := by unfold ab_part; simp
  rw [this]
  split <;> omega
theorem sp_move {scr : Nat × (Nat → Int32)} {d N : Nat} {x1 : Int} {S : sk_S} {A : ab} {L : Nat → Nat → Int} (sg : x1 = 1 ∨ x1 = -1) (hR : RC 0 N S A) (hw : WFw N A) (hb : ∀ t, t < 2 → ∀ p, p < 1000 → -40000 ≤ L t p ∧ L t p ≤ 40000) (hb2 : ∀ t, t < 2 → ∀ p : Nat, p < 1000 → -40000 ≤ L t p + x1 * ab_lev A t p ∧ L t p + x1 * ab_lev A t p ≤ 40000) (hL : ∀ t, t < 2 → ∀ p : Nat, p < 1000 → S (4 + t) p = L t p) (hv : LVr S) :
    EE scr (d + 1) 138 0 [some (.ref 1), some (vi x1), none, none, none] S (pV fun S' => LVr S' ∧ Fr 4 7 S S' ∧ ∀ t, t < 2 → ∀ p : Nat, p < 1000 → S' (4 + t) p = L t p + x1 * ab_lev A t p) := by
  have rx : rg x1 := rg_b (by omega) (by omega)
  refine st_138_0 rx (st_138_2 rx (rg_n (n := 0) (by omega)) ⟨fun g => absurd g (by decide), fun _ => ?_⟩)
  refine sp_mvSide (s := 0) (L := L) (by omega) sg hR hw hb hL hv (fun S1 v1 f1 t1 l3 l4 => ?_) _
  refine st_138_2 rx (rg_n (n := 1) (by omega)) ⟨fun g => absurd g (by decide), fun _ => ?_⟩
  have hR1 : RC 0 N S1 A := hR.frame (fun k _ _ => f1 k (by omega))
  refine sp_mvSide (s := 1) (L := fun t p => L t p + (if t = 0 then x1 * ab_lev A 0 p else 0)) (by omega) sg hR1 hw (fun t ht p hp => ?_) t1 v1 (fun S2 v2 f2 t2 l3 l4 => ?_) _
  · have g1 := hb t ht p hp
    have g2 := hb2 t ht p hp
    split
    · rename_i e
      subst e
      exact g2
    · omega
  · refine st_138_2 rx (rg_n (n := 2) (by omega)) ⟨fun _ => ⟨rfl, v2, f1.trans f2, fun t ht p hp => ?_⟩, fun g => absurd (by decide) g⟩
    rw [t2 t ht p hp]
    rcases (show t = 0 ∨ t = 1 by omega) with e | e <;> subst e
    · rw [if_pos rfl, if_neg (by omega)]
      omega
    · rw [if_neg (by omega), if_pos rfl]
      omega
theorem sp_again {scr : Nat × (Nat → Int32)} {d N M : Nat} {m : Int} {S : sk_S} {A B : ab} (hC : CI N S A) (hw : WFw N A) (hR : RC 23 M S B) (hB : WS M m B) :
    EE scr (d + 3) 122 0 [some (.ref 1), some (.ref 32)] S (pV fun S' => CI M S' B ∧ Fr 2 31 S S') := by
  refine st_122_0 ?_
  refine (sp_move (L := ab_lv A) (Or.inr rfl) hC.1 hw (fun t ht p hp => by have := hw.lev ht p; unfold ab_lv; omega) (fun t ht p hp => by unfold ab_lv; omega) (fun t ht p hp => hC.2.1 t ht p hp) hC.2.2).V fun S1 _ h1 => ?_
  obtain ⟨v1, f1, t1⟩ := h1
  refine (sp_copyb (hR.frame fun k _ _ => f1 k (by omega)) hB.1 hB.2.1.1 (fun s hs => (hB.2.1.2.2 s hs).2.2)).V fun S6 _ h6 => ?_
  obtain ⟨r6, f6⟩ := h6
  have f6' : Fr 9 31 S1 S6 := f6
  have v6 : LVr S6 := v1.frame fun k hk => f6' k (by omega)
  refine (sp_move (L := fun _ _ => 0) (Or.inl rfl) r6 hB.2.1 (fun t ht p hp => by omega) (fun t ht p hp => by have := hB.2.1.lev ht p; omega) (fun t ht p hp => ?_) v6).V fun S11 _ h11 => ?_
  · rw [f6' (4 + t) (by omega), t1 t ht p hp]
    unfold ab_lv
    omega
  · obtain ⟨v11, f11, t11⟩ := h11
    refine ⟨rfl, ⟨r6.frame fun k _ _ => f11 k (by omega), fun t ht p hp => ?_, v11⟩, fun k hk => by rw [f11 k (by omega), f6' k (by omega), f1 k (by omega)]⟩
    rw [t11 t ht p hp]
    omega
theorem cx_save {scr : Nat × (Nat → Int32)} {d : Nat} {band c : Int} {W : wd} {S : sk_S} (hX : CX band W S) (hW : WW c W) :
    EE scr (d + 3) 7 0 [some (.ref 0)] S (pI fun x S' => x = (wd_save W).1 ∧ CX band (wd_save W).2 S' ∧ FA S S') := by
  obtain ⟨hA, -, hF⟩ := hW
  refine st_7_0 ?_
  refine (sp_copya hX.1.1 hA.1.1 hA.1.2.1.1 (fun s hs => (hA.1.2.1.2.2 s hs).2.2)).V fun S1 _ h1 => ?_
  obtain ⟨r1, f1⟩ := h1
  have f1' : Fr 32 54 S S1 := f1
  refine ⟨_, rfl, r1.1.1, ⟨?_, hX.2.1.frame (f1' 60 (by omega)) (f1' 61 (by omega)), r1, hX.2.2.2.1.frame (fun k _ _ => f1' k (by omega)), hX.2.2.2.2.1.frame (fun k _ _ => f1' k (by omega)), by rw [f1' 1 (by omega)]; exact hX.2.2.2.2.2⟩, fun k hk => f1' k (by omega)⟩
  exact hX.1.cells (hX.1.1.frame fun k _ _ => f1' k (by omega)) (fun k hk => f1' k (by omega)) (fun _ => rfl) (fun _ => rfl) (fun _ => rfl)
theorem cx_crash {scr : Nat × (Nat → Int32)} {d : Nat} {band c : Int} {W : wd} {S : sk_S} (hX : CX band W S) (hW : WW c W) (hc : c ≤ 600) :
    EE scr (d + 4) 8 0 [some (.ref 0)] S (pI fun x S' => x = (wd_crash W).1 ∧ CX band (wd_crash W).2 S' ∧ FA S S') := by
  obtain ⟨hA, hA2, hF⟩ := hW
  have hF0 := hF.1
  refine st_8_0 ?_
  refine (sp_again hX.1 hA.1.2.1 hX.2.2.1 hA2.1).V fun S1 _ h1 => ?_
  obtain ⟨c1, f1⟩ := h1
  refine (sp_tellAll c1 (hX.2.1.frame (f1 60 (by omega)) (f1 61 (by omega))) (hX.2.2.2.1.frame fun k _ _ => f1 k (by omega)) hF0.1 (by omega)).V fun S6 _ h6 => ?_
  obtain ⟨x1, x2, x3, x4⟩ := h6
  have hf : ∀ k, (k < 2 ∨ (31 < k ∧ k < 55) ∨ 61 < k) → S6 k = S k := fun k hk => by rw [x4 k (by omega) (by omega) (by omega), f1 k (by omega)]
  exact ⟨_, rfl, x1.1.1.1, ⟨x1, x2, hX.2.2.1.frame (fun k _ _ => hf k (by omega)), x3, hX.2.2.2.2.1.frame (fun k _ _ => hf k (by omega)), by rw [hf 1 (by omega)]; exact hX.2.2.2.2.2⟩, fun k hk => hf k (by omega)⟩
