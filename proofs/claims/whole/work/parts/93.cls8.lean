/-! 93.cls8: the class: an auction is held; all is cancelled; a step of the phase -/
theorem fill_eq (A : ab) (i : Nat) (v p : Int) : ab_fill1 A i v p = if A.1 4 i - v = 0 then ab_out (ab_tell (ab_u A 4 i (A.1 4 i - v)) (A.1 0 i) 2 i v p) i else ab_u (ab_tell (ab_u A 4 i (A.1 4 i - v)) (A.1 0 i) 2 i v p) 7 i (min (A.1 6 i) (A.1 4 i - v)) := rfl
theorem fill1_ws {N : Nat} {m B : Int} {A : ab} (h : WS N m A) {i s : Nat} {v p : Int} (hs : s < 2) (hi : i ∈ A.2 s) (hv : 1 ≤ v) (hv2 : v ≤ A.1 4 i) (hB : rcB A B) : WS N m (ab_fill1 A i v p) ∧ rcB (ab_fill1 A i v p) (B + 1) := by
  have hn := h.n
  obtain ⟨g1, g2, g3, g4, g5, g6, g7, g8⟩ := h
  obtain ⟨c0, c1, c2⟩ := g2.2.2 s hs
  obtain ⟨a1, a2, a3⟩ := (c1 i).mp hi
  obtain ⟨w1, w2, w3, w4, w5, w6⟩ := g7 i a1
  have hw3 := w3 a2
  obtain ⟨b1, b2, b3, b4, b5, b6, b7⟩ := g2.2.1 i a1
  have hB1 : rcB (ab_tell (ab_u A 4 i (A.1 4 i - v)) (A.1 0 i) 2 i v p) (B + 1) := (hB.same (fun j => u_ne (Or.inl (by omega)))).telli b1.1
  have hw := ((g2.qty (i := i) (v := A.1 4 i - v) (by omega) (by omega)).telli (s := A.1 0 i) (t := 2) (o := i) (q := v) (p := p))
  have r1 : ∀ k j, k < 11 → ¬ (k = 4 ∧ j = i) → (ab_tell (ab_u A 4 i (A.1 4 i - v)) (A.1 0 i) 2 i v p).1 k j = A.1 k j := fun k j hk hne => by rw [tell_1i _ hk, u_ne (by omega)]
  have r4 : (ab_tell (ab_u A 4 i (A.1 4 i - v)) (A.1 0 i) 2 i v p).1 4 i = A.1 4 i - v := by rw [tell_1i _ (by omega), u_at]
  have hl : ∀ t, (ab_tell (ab_u A 4 i (A.1 4 i - v)) (A.1 0 i) 2 i v p).2 t = A.2 t := fun _ => rfl
  have hsr : ∀ t, t < 2 → Srt (ab_tell (ab_u A 4 i (A.1 4 i - v)) (A.1 0 i) 2 i v p) t := fun t ht => (g3 t ht).same (hl t) (fun j => r1 5 j (by omega) (by omega))
  have him : i ∈ (ab_tell (ab_u A 4 i (A.1 4 i - v)) (A.1 0 i) 2 i v p).2 s := hi
  rw [fill_eq]
  generalize ab_tell (ab_u A 4 i (A.1 4 i - v)) (A.1 0 i) 2 i v p = C at *
  by_cases c : A.1 4 i - v = 0
  · rw [if_pos c]
    have o3 : (ab_out C i).1 3 i = 0 := by rw [out_1, if_pos ⟨Or.inl rfl, rfl⟩]
    have o7 : (ab_out C i).1 7 i = 0 := by rw [out_1, if_pos ⟨Or.inr rfl, rfl⟩]
    refine ⟨⟨by rw [out_ne (Or.inl (by omega)), r1 8 0 (by omega) (by omega)]; exact g1, hw.out hs him, fun t ht => (hsr t ht).out, by rw [out_ne (Or.inl (by omega)), r1 8 3 (by omega) (by omega)]; exact g4, by rw [out_ne (Or.inl (by omega)), r1 8 2 (by omega) (by omega)]; exact g5, by rw [out_ne (Or.inl (by omega)), r1 8 1 (by omega) (by omega)]; exact g6, fun j hj => ?_, ?_⟩, hB1.same (fun j => out_ne (Or.inl (by omega)))⟩
    · by_cases e : j = i
      · subst e
        unfold WFi
        rw [o3, o7, out_ne (k := 4) (Or.inl (by omega)), out_ne (k := 2) (Or.inl (by omega)), out_ne (k := 5) (Or.inl (by omega)), r1 2 j (by omega) (by omega), r1 5 j (by omega) (by omega)]
        exact ⟨by omega, fun _ => rfl, fun q => by omega, fun q => by omega, w5, w6⟩
      · exact (g7 j hj).same (fun k hk => by rw [out_ne (Or.inr e), r1 k j (by omega) (by omega)])
    · rw [open_upd (A := A) (i := i) (by rw [out_ne (Or.inl (by omega)), r1 8 0 (by omega) (by omega)]) (fun j hj => by rw [out_ne (Or.inr hj), r1 3 j (by omega) (by omega)]) (by omega), o3, a2]
      simp only [not_true_eq_false, if_false]
      rw [if_pos (by omega)]
      omega
  · rw [if_neg c]
    refine ⟨⟨by rw [u_ne (Or.inl (by omega)), r1 8 0 (by omega) (by omega)]; exact g1, hw.show (by omega) (by omega), fun t ht => (hsr t ht).same rfl (fun j => u_ne (Or.inl (by omega))), by rw [u_ne (Or.inl (by omega)), r1 8 3 (by omega) (by omega)]; exact g4, by rw [u_ne (Or.inl (by omega)), r1 8 2 (by omega) (by omega)]; exact g5, by rw [u_ne (Or.inl (by omega)), r1 8 1 (by omega) (by omega)]; exact g6, fun j hj => ?_, ?_⟩, hB1.same (fun j => u_ne (Or.inl (by omega)))⟩
    · by_cases e : j = i
      · subst e
        unfold WFi
        rw [u_at, u_ne (k' := 3) (Or.inl (by omega)), u_ne (k' := 4) (Or.inl (by omega)), u_ne (k' := 2) (Or.inl (by omega)), u_ne (k' := 5) (Or.inl (by omega)), r1 3 j (by omega) (by omega), r4, r1 2 j (by omega) (by omega), r1 5 j (by omega) (by omega), a2]
        exact ⟨by omega, fun q => absurd rfl q, fun _ => ⟨by omega, by omega, hw3.2.2⟩, fun q => by omega, w5, w6⟩
      · exact (g7 j hj).same (fun k hk => by rw [u_ne (Or.inr e), r1 k j (by omega) (by omega)])
    · rw [open_same (A := A) (by rw [u_ne (Or.inl (by omega)), r1 8 0 (by omega) (by omega)]) (fun j => by rw [u_ne (Or.inl (by omega)), r1 3 j (by omega) (by omega)])]
      exact g8
theorem fill_ws {N s : Nat} {p : Int} (hs : s < 2) : ∀ (f : Nat) (A : ab) (left m B : Int), WS N m A → rcB A B → WS N m (ab_fill s p f A left) ∧ rcB (ab_fill s p f A left) (B + f) := by
  intro f
  induction f with
  | zero => intro A left m B h hB; exact ⟨h, hB.le (by omega)⟩
  | succ f ih =>
    intro A left m B h hB
    unfold ab_fill
    by_cases c : 0 < left
    · rw [if_pos c]
      cases hl : A.2 s with
      | nil => exact ⟨h, hB.le (by omega)⟩
      | cons i l =>
        have hi : i ∈ A.2 s := by rw [hl]; exact List.mem_cons_self
        have h1 := ((h.2.1.2.2 s hs).2.1 i).mp hi
        have h2 := (h.2.2.2.2.2.2.1 i h1.1).2.2.1 h1.2.1
        obtain ⟨r1, r2⟩ := fill1_ws (p := p) (v := min left (A.1 4 i)) h hs hi (by omega) (by omega) hB
        obtain ⟨t1, t2⟩ := ih _ (left - min left (A.1 4 i)) m (B + 1) r1 r2
        exact ⟨t1, t2.le (by omega)⟩
    · rw [if_neg c]
      exact ⟨h, hB.le (by omega)⟩
theorem sp_fill {scr : Nat × (Nat → Int32)} {d N s : Nat} {p m : Int} (hs : s < 2) (hp : rg p) : ∀ (f turn : Nat) (S : sk_S) (A : ab) (left B : Int) (l4 l5 : Option Value), turn + f = 40 → CI N S A → WS N m A → S 8 0 = p → 0 ≤ left → left ≤ 100000 → rcB A B → B + f < 2147483000 →
    EE scr (d + 3) 129 10 [some (.ref 1), some (vi s), some (vi left), some (vi turn), l4, l5] S (pV fun S' => CI N S' (ab_fill s p f A left) ∧ Fr 2 31 S S' ∧ S' 8 = S 8) := by
  intro f
  induction f with
  | zero =>
    intro turn S A left B l4 l5 hf hC hW h8 hl0 hl1 hB hB2
    refine st_129_10 (rg_n (by omega)) (rg_b (by omega) (by omega)) (rg_n (by omega)) ?_
    exact ⟨fun _ => ⟨rfl, hC, Fr.refl, rfl⟩, fun g => by omega⟩
  | succ f ih =>
    intro turn S A left B l4 l5 hf hC hW h8 hl0 hl1 hB hB2
    have hN := hW.2.1.1
    refine st_129_10 (rg_n (by omega)) (rg_b (by omega) (by omega)) (rg_n (by omega)) ?_
    unfold ab_fill
    refine ⟨fun g => by omega, fun _ => ⟨fun g => ?_, fun g => ?_⟩⟩
    · rw [if_neg (by omega)]
      exact ⟨rfl, hC, Fr.refl, rfl⟩
    · rw [if_pos (by omega)]
      refine (sp_best hC.1 hs).I fun x S3 _ _ hx _ => ?_
      obtain ⟨rfl, hx⟩ := hx
      cases hl : A.2 s with
      | nil =>
        rw [hl] at hx
        dsimp only at hx ⊢
        exact ⟨fun q => absurd hx q, fun _ => ⟨rfl, hC, Fr.refl, rfl⟩⟩
      | cons i l =>
        rw [hl] at hx
        dsimp only at hx ⊢
        subst hx
        have hi : i ∈ A.2 s := by rw [hl]; exact List.mem_cons_self
        obtain ⟨a1, a2, a3⟩ := ((hW.2.1.2.2 s hs).2.1 i).mp hi
        have hw3 := (hW.2.2.2.2.2.2.1 i a1).2.2.1 a2
        obtain ⟨b1, b2, b3, b4, b5, b6, b7⟩ := hW.2.1.2.1 i a1
        obtain ⟨o, ho, eo⟩ := hW.2.1.own a1
        have e15 : S3 15 i = A.1 4 i := hC.1.2.1 4 (by omega) i a1
        have e17 : S3 17 i = A.1 6 i := hC.1.2.1 6 (by omega) i a1
        refine ⟨fun _ => ?_, fun q => by omega⟩
        simp only [Int.toNat_natCast, e15]
        generalize hv : min left (A.1 4 i) = v
        have hv1 : 1 ≤ v ∧ v ≤ A.1 4 i ∧ v ≤ left := by omega
        refine ⟨by omega, by omega, rg_b (by omega) (by omega), fun S9 q9 => ?_⟩
        have hR9 : RC 0 N S9 (ab_u A 4 i (A.1 4 i - v)) := by rw [q9]; exact hC.1.col (by omega) (by omega)
        have hC9 : CI N S9 (ab_u A 4 i (A.1 4 i - v)) := hC.cells hR9 (fun k hk => by rw [q9, sk_u_ne (by omega)]) (fun _ => rfl) (fun j => u_ne (Or.inl (by omega))) (fun j => u_ne (Or.inl (by omega)))
        have h89 : S9 8 = S3 8 := by rw [q9, sk_u_ne (by omega)]
        have hbo := hB o ho
        rw [h89, h8]
        refine (sp_tellOwner (s := o) hR9 a1 hN ho (by rw [u_ne (Or.inl (by omega))]; exact eo) (by rw [u_ne (Or.inl (by omega))]; exact hbo.1) (by rw [u_ne (Or.inl (by omega))]; omega) (rg_b (by omega) (by omega)) (rg_b (by omega) (by omega)) hp).V fun S12 _ hk => ?_
        obtain ⟨k1, k2⟩ := hk
        have hC12 := hC9.tell k1 k2
        have hw12 : WFw N (ab_tell (ab_u A 4 i (A.1 4 i - v)) o 2 i v p) := (hW.2.1.qty (by omega) (by omega)).telli
        have f15 : S12 15 i = A.1 4 i - v := by rw [k2 15 (by omega), q9, sk_u_at]
        have f17 : S12 17 i = A.1 6 i := by rw [k2 17 (by omega), q9, sk_u_ne (by omega)]; exact e17
        have f8 : S12 8 = S3 8 := by rw [k2 8 (by omega), h89]
        have fr12 : Fr 2 31 S3 S12 := fun k hk => by rw [k2 k (by omega), q9, sk_u_ne (by omega)]
        have him : i ∈ (ab_tell (ab_u A 4 i (A.1 4 i - v)) o 2 i v p).2 s := hi
        obtain ⟨r1, r2⟩ := fill1_ws (p := p) (v := v) hW hs hi (by omega) (by omega) hB
        have ef : ab_fill1 A i v p = if A.1 4 i - v = 0 then ab_out (ab_tell (ab_u A 4 i (A.1 4 i - v)) o 2 i v p) i else ab_u (ab_tell (ab_u A 4 i (A.1 4 i - v)) o 2 i v p) 7 i (min (A.1 6 i) (A.1 4 i - v)) := by rw [fill_eq, eo]
        rw [f15, f17]
        refine ⟨fun g2 => ?_, fun g2 => ?_⟩
        · rw [if_neg g2] at ef
          refine (sp_show hC12 hw12 hs him (by omega) (by omega)).V fun S18 _ hk3 => ?_
          rw [← ef] at hk3
          have h := ih (turn + 1) S18 (ab_fill1 A i v p) (left - v) (B + 1) (some (vi i)) (some (vi v)) (by omega) hk3.1 r1 (by rw [hk3.2.2, f8]; exact h8) (by omega) (by omega) r2 (by omega)
          exact h.V fun S' _ hq => ⟨hq.1, (fr12.trans hk3.2.1).trans hq.2.1, by rw [hq.2.2, hk3.2.2, f8]⟩
        · rw [if_pos g2] at ef
          refine (sp_takeOut hC12 hw12 hs him).V fun S23 _ hk3 => ?_
          rw [← ef] at hk3
          have h := ih (turn + 1) S23 (ab_fill1 A i v p) (left - v) (B + 1) (some (vi i)) (some (vi v)) (by omega) hk3.1 r1 (by rw [hk3.2.2, f8]; exact h8) (by omega) (by omega) r2 (by omega)
          exact h.V fun S' _ hq => ⟨hq.1, (fr12.trans hk3.2.1).trans hq.2.1, by rw [hq.2.2, hk3.2.2, f8]⟩
theorem dem_bd {N : Nat} {m : Int} {A : ab} (hW : WS N m A) (p : Int) : 0 ≤ ab_dem A p ∧ ab_dem A p ≤ 40000 ∧ 0 ≤ ab_sup A p ∧ ab_sup A p ≤ 40000 := by
  have hqty : ∀ j, j < N → 0 ≤ A.1 4 j ∧ A.1 4 j ≤ 1000 := fun j hj => (hW.2.1.2.1 j hj).2.2.2.2.1
  have key : ∀ (P : Nat → Prop) [DecidablePred P] (l : List Nat), (∀ j ∈ l, j < N) → 0 ≤ (l.map fun i => if P i then A.1 4 i else 0).sum ∧ (l.map fun i => if P i then A.1 4 i else 0).sum ≤ 1000 * l.length := by
    intro P _ l
    induction l with
    | nil => intro _; simp
    | cons a l ih =>
      intro hl
      have h1 := ih (fun j hj => hl j (List.mem_cons_of_mem _ hj))
      have h2 := hqty a (hl a List.mem_cons_self)
      rw [List.map_cons, List.sum_cons, List.length_cons]
      split <;> omega
  obtain ⟨c0, c1, c2⟩ := hW.2.1.2.2 0 (by omega)
  obtain ⟨e0, e1, e2⟩ := hW.2.1.2.2 1 (by omega)
  have h1 := key (fun i => p ≤ A.1 5 i) (A.2 0) (fun j hj => ((c1 j).mp hj).1)
  have h2 := key (fun i => A.1 5 i ≤ p) (A.2 1) (fun j hj => ((e1 j).mp hj).1)
  unfold ab_dem ab_sup
  omega
theorem weigh_bd {N : Nat} {m : Int} {A : ab} (hW : WS N m A) : ∀ k : Nat, 0 ≤ (ab_wto A k).2.1 ∧ (ab_wto A k).2.1 ≤ 40000 ∧ 0 ≤ (ab_wto A k).2.2 ∧ (ab_wto A k).2.2 ≤ 40000 ∧ (0 < (ab_wto A k).2.1 → 1 ≤ (ab_wto A k).1) := by
  intro k
  induction k with
  | zero => exact ⟨by show (0 : Int) ≤ 0; omega, by show (0 : Int) ≤ 40000; omega, by show (0 : Int) ≤ 0; omega, by show (0 : Int) ≤ 40000; omega, fun h => by exact absurd h (by show ¬ (0 : Int) < 0; omega)⟩
  | succ k ih =>
    have hb := dem_bd hW ((k : Int) + 1)
    unfold ab_wto ab_w1
    dsimp only
    split
    · rename_i g
      exact ⟨by dsimp only; omega, by dsimp only; omega, by dsimp only; omega, by dsimp only; omega, fun _ => by dsimp only; omega⟩
    · exact ih
theorem last_ws {N : Nat} {m v : Int} {A : ab} (h : WS N m A) (h1 : 1 ≤ v) (h2 : v ≤ 999) : WS N m (ab_u A 8 2 v) := by
  obtain ⟨g1, g2, g3, g4, g5, g6, g7, g8⟩ := h
  refine ⟨by rw [u_ne (Or.inr (by omega))]; exact g1, g2.sc, fun s hs => (g3 s hs).same rfl (fun j => u_ne (Or.inl (by omega))), by rw [u_ne (Or.inr (by omega))]; exact g4, by rw [u_at]; omega, by rw [u_ne (Or.inr (by omega))]; exact g6, fun i hi => (g7 i hi).same (fun k hk => u_ne (Or.inl (by omega))), ?_⟩
  rw [open_same (u_ne (Or.inr (by omega))) (fun j => u_ne (Or.inl (by omega)))]
  exact g8
theorem ref_ws {N : Nat} {m v : Int} {A : ab} (h : WS N m A) (h1 : 1 ≤ v) (h2 : v ≤ 999) : WS N m (ab_u A 8 3 v) := by
  obtain ⟨g1, g2, g3, g4, g5, g6, g7, g8⟩ := h
  refine ⟨by rw [u_ne (Or.inr (by omega))]; exact g1, g2.sc, fun s hs => (g3 s hs).same rfl (fun j => u_ne (Or.inl (by omega))), by rw [u_at]; omega, by rw [u_ne (Or.inr (by omega))]; exact g5, by rw [u_ne (Or.inr (by omega))]; exact g6, fun i hi => (g7 i hi).same (fun k hk => u_ne (Or.inl (by omega))), ?_⟩
  rw [open_same (u_ne (Or.inr (by omega))) (fun j => u_ne (Or.inl (by omega)))]
  exact g8
theorem auction_ws {N : Nat} {m B : Int} {A : ab} (hW : WS N m A) (hB : rcB A B) : WS N m (ab_auction A) ∧ rcB (ab_auction A) (B + 80) := by
  have hb := weigh_bd hW 999
  have hp := wto_price A 999
  unfold ab_auction
  dsimp only
  by_cases c : (ab_weigh A).2.1 = 0
  · rw [if_pos c]
    exact ⟨hW, hB.le (by omega)⟩
  · rw [if_neg c]
    have c' : ¬ (ab_wto A 999).2.1 = 0 := c
    have hp1 : 1 ≤ (ab_weigh A).1 := hb.2.2.2.2 (by omega)
    have hp2 : (ab_weigh A).1 ≤ 999 := hp.2
    obtain ⟨r1, r2⟩ := fill_ws (p := (ab_weigh A).1) (show 0 < 2 by omega) 40 A (ab_weigh A).2.1 m B hW hB
    obtain ⟨t1, t2⟩ := fill_ws (p := (ab_weigh A).1) (show 1 < 2 by omega) 40 _ (ab_weigh A).2.1 m _ r1 r2
    exact ⟨ref_ws (last_ws t1 hp1 hp2) hp1 hp2, (t2.le (by omega)).same (fun j => by rw [u_ne (Or.inl (by omega)), u_ne (Or.inl (by omega))])⟩
theorem sp_tin {scr : Nat × (Nat → Int32)} {d N s : Nat} {p m left B : Int} {S : sk_S} {A : ab} (hs : s < 2) (hp : rg p) (hC : CI N S A) (hW : WS N m A) (h80 : S 8 0 = p) (h81 : S 8 1 = left) (hl0 : 0 ≤ left) (hl1 : left ≤ 100000) (hB : rcB A B) (hB2 : B + 40 < 2147483000) :
    EE scr (d + 3) 129 0 [some (.ref 1), some (vi s), none, none, none, none] S (pV fun S' => CI N S' (ab_fill s p 40 A left) ∧ Fr 2 31 S S' ∧ S' 8 = S 8) := by
  refine st_129_0 (rg_n (by omega)) ?_
  rw [h81]
  exact sp_fill hs hp 40 0 S A left B none none rfl hC hW h80 hl0 hl1 hB (by omega)
theorem sp_auction {scr : Nat × (Nat → Int32)} {d N : Nat} {m B : Int} {S : sk_S} {A : ab} (hC : CI N S A) (hW : WS N m A) (hB : rcB A B) (hB2 : B < 2147000000) :
    EE scr (d + 4) 128 0 [some (.ref 1)] S (pV fun S' => CI N S' (ab_auction A) ∧ Fr 2 31 S S') := by
  have hb := weigh_bd hW 999
  have hpb := wto_price A 999
  have e92 : S 9 2 = A.1 8 3 := hC.1.1.2.2.2
  refine st_128_0 ?_
  rw [e92]
  refine (sp_find hC.1 hW).V fun S1 _ h1 => ?_
  obtain ⟨⟨w0, w1, w2⟩, fr1⟩ := h1
  have hC1 : CI N S1 A := ⟨hC.1.frame fun k k1 k2 => fr1 k (by omega), hC.2.1.frame (fun k hk => fr1 k (by omega)) (fun _ _ => rfl), hC.2.2.frame fun k hk => fr1 k (by omega)⟩
  unfold ab_auction
  dsimp only
  rw [w1]
  have hw1 : 0 ≤ (ab_weigh A).2.1 ∧ (ab_weigh A).2.1 ≤ 40000 := ⟨hb.1, hb.2.1⟩
  refine ⟨fun g => ?_, fun g => ?_⟩
  · rw [if_neg g]
    have hp1 : 1 ≤ (ab_weigh A).1 := hb.2.2.2.2 (by show 0 < (ab_weigh A).2.1; omega)
    have hp2 : (ab_weigh A).1 ≤ 999 := hpb.2
    have hrp : rg (ab_weigh A).1 := rg_b (by omega) (by omega)
    obtain ⟨r1, r2⟩ := fill_ws (p := (ab_weigh A).1) (show 0 < 2 by omega) 40 A (ab_weigh A).2.1 m B hW hB
    refine (sp_tin (s := 0) (by omega) hrp hC1 hW w0 w1 hw1.1 (by omega) hB (by omega)).V fun S7 _ h7 => ?_
    obtain ⟨c7, f7, g7⟩ := h7
    refine (sp_tin (s := 1) (by omega) hrp c7 r1 (by rw [g7]; exact w0) (by rw [g7]; exact w1) hw1.1 (by omega) r2 (by omega)).V fun S12 _ h12 => ?_
    obtain ⟨c12, f12, g12⟩ := h12
    intro S17 q17 S20 q20
    have h80 : S12 8 0 = (ab_weigh A).1 := by rw [g12, g7]; exact w0
    have h80' : S17 8 0 = (ab_weigh A).1 := by rw [q17, sk_u_ne (by omega)]; exact h80
    rw [h80] at q17
    rw [h80'] at q20
    refine ⟨rfl, ?_, fun k hk => by rw [q20, sk_u_ne (by omega), q17, sk_u_ne (by omega), f12 k hk, f7 k hk, fr1 k (by omega)]⟩
    rw [q20, q17]
    exact c12.cells ((c12.1.sc (q := 2) (by omega)).sc (q := 3) (by omega)) (fun k hk => by rw [sk_u_ne (by omega), sk_u_ne (by omega)]) (fun _ => rfl) (fun j => by rw [u_ne (Or.inl (by omega)), u_ne (Or.inl (by omega))]) (fun j => by rw [u_ne (Or.inl (by omega)), u_ne (Or.inl (by omega))])
  · rw [if_pos g]
    exact ⟨rfl, hC1, fr1.wide (by omega) (by omega)⟩
theorem all_ws {N : Nat} {m B : Int} {A : ab} (hW : WS N m A) (hB : rcB A B) : ∀ k : Nat, k ≤ N → WS N m (ab_all A k) ∧ rcB (ab_all A k) (B + k) := by
  intro k
  induction k with
  | zero => intro _; exact ⟨hW, hB.le (by omega)⟩
  | succ k ih =>
    intro hk
    obtain ⟨r1, r2⟩ := ih (by omega)
    unfold ab_all
    by_cases c : (ab_all A k).1 3 k = 0
    · rw [if_pos c]
      exact ⟨r1, r2.le (by omega)⟩
    · rw [if_neg c]
      obtain ⟨s, hs, hsd⟩ := r1.2.1.side (show k < N by omega)
      exact ⟨r1.drop (by omega) hs hsd, (drop_rc r2 (r1.2.1.2.1 k (by omega)).1.1).le (by omega)⟩
theorem sp_all {scr : Nat × (Nat → Int32)} {d N : Nat} {m B : Int} {S : sk_S} {A : ab} (hC : CI N S A) (hW : WS N m A) (hB : rcB A B) (hB2 : B < 2147000000) :
    EE scr (d + 3) 130 0 [some (.ref 1), none] S (pV fun S' => CI N S' (ab_all A N) ∧ Fr 2 31 S S') := by
  have hN := hW.2.1.1
  have loop : ∀ (f k : Nat) (T : sk_S), k + f = N → CI N T (ab_all A k) → Fr 2 31 S T → EE scr (d + 3) 130 2 [some (.ref 1), some (vi k)] T (pV fun S' => CI N S' (ab_all A N) ∧ Fr 2 31 S S') := by
    intro f
    induction f with
    | zero =>
      intro k T hk hT hf
      have e : T 10 0 = N := hT.1.1.1.trans (all_ws hW hB k (by omega)).1.1
      have hkN : k = N := by omega
      subst hkN
      refine st_130_2 (rg_n (by omega)) ?_
      rw [e]
      exact ⟨fun _ => ⟨rfl, hT, hf⟩, fun g => by omega⟩
    | succ f ih =>
      intro k T hk hT hf
      obtain ⟨r1, r2⟩ := all_ws hW hB k (by omega)
      have e : T 10 0 = N := hT.1.1.1.trans r1.1
      have e14 : T 14 k = (ab_all A k).1 3 k := hT.1.2.1 3 (by omega) k (by omega)
      refine st_130_2 (rg_n (by omega)) ?_
      simp only [Int.toNat_natCast, e, e14]
      refine ⟨fun g => by omega, fun _ => ⟨by omega, by omega, fun g => ?_, fun g => ?_⟩⟩
      · refine ih (k + 1) T (by omega) ?_ hf
        unfold ab_all
        rw [if_pos g]
        exact hT
      · obtain ⟨s, hs, hsd⟩ := r1.2.1.side (show k < N by omega)
        refine (sp_cancel hT r1.2.1 (by omega) hs hsd (r1.2.2.2.2.2.2.1 k (by omega)).2.1 r2 (by omega) (told_rg r1 (by omega))).V fun S3 _ h3 => ?_
        refine ih (k + 1) S3 (by omega) ?_ (hf.trans h3.2)
        unfold ab_all
        rw [if_neg g]
        exact h3.1
  exact st_130_0 (loop N 0 S (by omega) hC Fr.refl)
theorem sp_isCall {scr : Nat × (Nat → Int32)} {d : Nat} {S : sk_S} {k : Int} (hk : rg k) : EE scr d 25 0 [some (vi k)] S (pI fun x S' => S' = S ∧ x = if ab_call k = true then 1 else 0) := by
  unfold ab_call
  refine st_25_0 hk ⟨fun h => ⟨_, rfl, rfl, ?_⟩, fun h => ⟨fun h2 => ⟨_, rfl, rfl, ?_⟩, fun h2 => ⟨fun h3 => ⟨_, rfl, rfl, ?_⟩, fun h3 => ⟨_, rfl, rfl, ?_⟩⟩⟩⟩
  · rw [if_pos (decide_eq_true (by omega))]
  · rw [if_pos (decide_eq_true (by omega))]
  · rw [if_neg (by rw [decide_eq_true_eq]; omega)]
  · rw [if_pos (decide_eq_true (by omega))]
