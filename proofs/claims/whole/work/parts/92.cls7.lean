/-! 92.cls7: the class: findPrice -/
theorem sp_find {scr : Nat × (Nat → Int32)} {d N : Nat} {m : Int} {S : sk_S} {A : ab} (hR : RC 0 N S A) (hW : WS N m A) :
    EE scr (d + 3) 88 0 [some (.ref 8), some (.ref 10), some (vi (A.1 8 3)), none, none, none, none, none, none, none, none, none] S (pV fun S' => AU S' (ab_weigh A) ∧ Fr 8 8 S S') := by
  have hN := hW.2.1.1
  have hr := hW.2.2.2.1
  obtain ⟨c0, c1, c2⟩ := hW.2.1.2.2 0 (by omega)
  obtain ⟨e0, e1, e2⟩ := hW.2.1.2.2 1 (by omega)
  have hs0 := hW.2.2.1 0 (by omega)
  have hs1 := hW.2.2.1 1 (by omega)
  have hqty : ∀ j, j < N → 0 ≤ A.1 4 j ∧ A.1 4 j ≤ 1000 := fun j hj => (hW.2.1.2.1 j hj).2.2.2.2.1
  have hq1 : ∀ s, s < 2 → ∀ j ∈ A.2 s, 1 ≤ A.1 4 j := fun s hs j hj => by
    have h1 := ((hW.2.1.2.2 s hs).2.1 j).mp hj
    have h2 := (hW.2.2.2.2.2.2.1 j h1.1).2.2.1 h1.2.1
    omega
  have hpr : ∀ s, s < 2 → ∀ j ∈ A.2 s, 1 ≤ A.1 5 j ∧ A.1 5 j ≤ 999 := fun s hs j hj => by
    have h1 := ((hW.2.1.2.2 s hs).2.1 j).mp hj
    exact (hW.2.1.2.1 j h1.1).2.2.2.1 h1.2.1
  have hd0 : ∀ p, 0 ≤ ab_dem A p ∧ ab_dem A p ≤ 40000 := by
    intro p
    unfold ab_dem
    have : ∀ l : List Nat, (∀ j ∈ l, j < N) → 0 ≤ (l.map fun i => if p ≤ A.1 5 i then A.1 4 i else 0).sum ∧ (l.map fun i => if p ≤ A.1 5 i then A.1 4 i else 0).sum ≤ 1000 * l.length := by
      intro l
      induction l with
      | nil => intro _; simp
      | cons a l ih =>
        intro hl
        have h1 := ih (fun j hj => hl j (List.mem_cons_of_mem _ hj))
        have h2 := hqty a (hl a List.mem_cons_self)
        rw [List.map_cons, List.sum_cons, List.length_cons]
        split <;> omega
    have h := this (A.2 0) (fun j hj => ((c1 j).mp hj).1)
    omega
  have hu0 : ∀ p, 0 ≤ ab_sup A p ∧ ab_sup A p ≤ 40000 := by
    intro p
    unfold ab_sup
    have : ∀ l : List Nat, (∀ j ∈ l, j < N) → 0 ≤ (l.map fun i => if A.1 5 i ≤ p then A.1 4 i else 0).sum ∧ (l.map fun i => if A.1 5 i ≤ p then A.1 4 i else 0).sum ≤ 1000 * l.length := by
      intro l
      induction l with
      | nil => intro _; simp
      | cons a l ih =>
        intro hl
        have h1 := ih (fun j hj => hl j (List.mem_cons_of_mem _ hj))
        have h2 := hqty a (hl a List.mem_cons_self)
        rw [List.map_cons, List.sum_cons, List.length_cons]
        split <;> omega
    have h := this (A.2 1) (fun j hj => ((e1 j).mp hj).1)
    omega
  -- no buyer so high, no seller so low
  have hdz : ∀ p, (∀ j ∈ A.2 0, A.1 5 j < p) → ab_dem A p = 0 := fun p hp => by
    rw [dem_eq (k := 0) (fun j hj => by rw [List.take_zero] at hj; cases hj) (fun j hj => hp j (by rw [List.drop_zero] at hj; exact hj)), List.take_zero]
    rfl
  have huz : ∀ p, (∀ j ∈ A.2 1, p < A.1 5 j) → ab_sup A p = 0 := fun p hp => by
    rw [sup_eq (k := 0) (fun j hj => by rw [List.take_zero] at hj; cases hj) (fun j hj => hp j (by rw [List.drop_zero] at hj; exact hj)), List.take_zero]
    rfl
  refine st_88_0 (rg_b (by omega) (by omega)) ?_
  intro S1 q1 S4 q4 S7 q7
  have fr7 : Fr 8 8 S S7 := by
    rw [q7, q4, q1]
    exact ((Fr.u (by omega) (by omega)).trans (Fr.u (by omega) (by omega))).trans (Fr.u (by omega) (by omega))
  have au7 : AU S7 (0, 0, 0) := by
    rw [q7, q4, q1]
    refine ⟨?_, ?_, ?_⟩
    · rw [sk_u_nj (by omega), sk_u_nj (by omega), sk_u_at]
    · rw [sk_u_nj (by omega), sk_u_at]
    · rw [sk_u_at]
  have hR7 : RC 0 N S7 A := hR.frame fun k k1 k2 => fr7 k (by omega)
  refine (sp_bestPrice hR7 hW (s := 1) (by omega)).I fun y S10 _ _ hy _ => ?_
  obtain ⟨rfl, hy⟩ := hy
  cases hl1 : A.2 1 with
  | nil =>
    rw [hl1] at hy
    dsimp only at hy
    refine ⟨fun g => absurd hy g, fun _ => ⟨rfl, ?_, fr7⟩⟩
    unfold ab_weigh
    rw [wto_zero 999 (fun p hp => by rw [huz p (fun j hj => by rw [hl1] at hj; cases hj)]; have := hd0 p; omega)]
    exact au7
  | cons b1 l1 =>
    rw [hl1] at hy
    dsimp only at hy
    have hb1 : b1 ∈ A.2 1 := by rw [hl1]; exact List.mem_cons_self
    have hpb1 := hpr 1 (by omega) b1 hb1
    have hlow : ∀ j ∈ A.2 1, A.1 5 b1 ≤ A.1 5 j := fun j hj => by
      obtain ⟨q, hq⟩ := List.getElem?_of_mem hj
      have h := Srt.at (by omega) hs1 (show (A.2 1)[0]? = some b1 by rw [hl1]; rfl) hq (by omega)
      simp only [show ¬ (1 : Nat) = 0 by omega, if_false] at h
      omega
    have z22 : S10 22 0 = ((A.2 0).length : Int) := (hR7.2.2.1 0 (by omega)).1
    rw [z22]
    refine ⟨fun _ => ?_, fun g => by omega⟩
    refine (sp_sumOf hR7 hW).I fun ds S16 _ _ hds _ => ?_
    obtain ⟨rfl, rfl⟩ := hds
    refine (sp_bestPrice hR7 hW (s := 0) (by omega)).I fun hi S21 _ _ hhi _ => ?_
    obtain ⟨rfl, hhi⟩ := hhi
    -- the highest buying price
    have hhigh : ∀ j ∈ A.2 0, A.1 5 j ≤ hi := fun j hj => by
      cases hl0 : A.2 0 with
      | nil => rw [hl0] at hj; cases hj
      | cons b0 l0 =>
        rw [hl0] at hhi
        dsimp only at hhi
        obtain ⟨q, hq⟩ := List.getElem?_of_mem hj
        have h := Srt.at (by omega) hs0 (show (A.2 0)[0]? = some b0 by rw [hl0]; rfl) hq (by omega)
        simp only [if_true] at h
        omega
    have hhi9 : 0 ≤ hi ∧ hi ≤ 999 := by
      cases hl0 : A.2 0 with
      | nil => rw [hl0] at hhi; dsimp only at hhi; omega
      | cons b0 l0 =>
        rw [hl0] at hhi
        dsimp only at hhi
        have := hpr 0 (by omega) b0 (by rw [hl0]; exact List.mem_cons_self)
        omega
    have hdpos : ∀ p, p ≤ hi → 1 ≤ p → 0 < ab_dem A p := fun p hp hp1 => by
      cases hl0 : A.2 0 with
      | nil => rw [hl0] at hhi; dsimp only at hhi; omega
      | cons b0 l0 =>
        rw [hl0] at hhi
        dsimp only at hhi
        have hq := hq1 0 (by omega) b0 (by rw [hl0]; exact List.mem_cons_self)
        unfold ab_dem
        rw [hl0, List.map_cons, List.sum_cons, if_pos (by omega)]
        have : ∀ l : List Nat, (∀ j ∈ l, j < N) → 0 ≤ (l.map fun i => if p ≤ A.1 5 i then A.1 4 i else 0).sum := by
          intro l
          induction l with
          | nil => intro _; simp
          | cons a l ih =>
            intro hl
            have h1 := ih (fun j hj => hl j (List.mem_cons_of_mem _ hj))
            have h2 := hqty a (hl a List.mem_cons_self)
            rw [List.map_cons, List.sum_cons]
            split <;> omega
        have h := this l0 (fun j hj => ((c1 j).mp (by rw [hl0]; exact List.mem_cons_of_mem _ hj)).1)
        omega
    have hupos : ∀ p, A.1 5 b1 ≤ p → 0 < ab_sup A p := fun p hp => by
      have hq := hq1 1 (by omega) b1 hb1
      unfold ab_sup
      rw [hl1, List.map_cons, List.sum_cons, if_pos hp]
      have : ∀ l : List Nat, (∀ j ∈ l, j < N) → 0 ≤ (l.map fun i => if A.1 5 i ≤ p then A.1 4 i else 0).sum := by
        intro l
        induction l with
        | nil => intro _; simp
        | cons a l ih =>
          intro hl
          have h1 := ih (fun j hj => hl j (List.mem_cons_of_mem _ hj))
          have h2 := hqty a (hl a List.mem_cons_self)
          rw [List.map_cons, List.sum_cons]
          split <;> omega
      have h := this l1 (fun j hj => ((e1 j).mp (by rw [hl1]; exact List.mem_cons_of_mem _ hj)).1)
      omega
    have hz20 : ∀ j k : Nat, (A.2 0)[j]? = some k → S21 20 j = (k : Int) := (hR7.2.2.1 0 (by omega)).2
    have hz21 : ∀ j k : Nat, (A.2 1)[j]? = some k → S21 21 j = (k : Int) := (hR7.2.2.1 1 (by omega)).2
    have z221 : S21 22 1 = ((A.2 1).length : Int) := (hR7.2.2.1 1 (by omega)).1
    have z16 : ∀ j, j < N → S21 16 j = A.1 5 j := fun j hj => hR7.2.1 5 (by omega) j hj
    have z15 : ∀ j, j < N → S21 15 j = A.1 4 j := fun j hj => hR7.2.1 4 (by omega) j hj
    have hsq : ∀ (s : Nat) (_ : s < 2) (k : Nat), 0 ≤ sq A ((A.2 s).take k) ∧ sq A ((A.2 s).take k) ≤ 40000 := fun s hs k => by
      have h := sq_le hqty ((A.2 s).take k) (fun j hj => (((hW.2.1.2.2 s hs).2.1 j).mp (List.mem_of_mem_take hj)).1)
      have h2 : ((A.2 s).take k).length ≤ 40 := by rw [List.length_take]; have := (hW.2.1.2.2 s hs).2.2; omega
      omega
    -- from price p on: f prices are left
    have loop : ∀ (f : Nat) (p : Nat) (bl si : Nat) (T : sk_S), hi + 1 = p + f ∨ (f = 0 ∧ hi < p) → A.1 5 b1 ≤ p → p ≤ 1000 → Fr 8 8 S T → AU T (ab_wto A (p - 1)) → bl ≤ (A.2 0).length → si ≤ (A.2 1).length → (∀ j ∈ (A.2 0).drop bl, A.1 5 j < p) → (∀ j ∈ (A.2 1).take si, A.1 5 j ≤ p) →
        EE scr (d + 3) 88 76 [some (.ref 8), some (.ref 10), some (vi (A.1 8 3)), some (vi (A.1 5 b1)), some (.ref 20), some (.ref 21), some (vi bl), some (vi si), some (vi (sq A ((A.2 0).take bl))), some (vi (sq A ((A.2 1).take si))), some (vi hi), some (vi p)] T (pV fun S' => AU S' (ab_weigh A) ∧ Fr 8 8 S S') := by
      intro f
      induction f with
      | zero =>
        intro p bl si T hf hp1 hp2 hfr hau hbl hsi hb hs
        have k0 := hsq 0 (by omega) bl
        have k1 := hsq 1 (by omega) si
        refine st_88_76 (rg_b (by omega) (by omega)) (rg_n (by omega)) (rg_n (by omega)) (rg_b (by omega) (by omega)) (rg_b (by omega) (by omega)) (rg_b (by omega) (by omega)) (rg_n (by omega)) ?_
        refine ⟨fun _ => ⟨rfl, ?_, hfr⟩, fun g => by omega⟩
        have e : ab_weigh A = ab_wto A (p - 1) := by
          have h := wto_const (A := A) (k := p - 1) (999 - (p - 1)) (fun q g1 g2 => by rw [hdz q (fun j hj => by have := hhigh j hj; omega)]; have := hu0 q; omega)
          rw [show p - 1 + (999 - (p - 1)) = 999 by omega] at h
          exact h
        rw [e]
        exact hau
      | succ f ih =>
        intro p bl si T hf hp1 hp2 hfr hau hbl hsi hb hs
        have hpi : (p : Int) ≤ hi := by omega
        have t20 : T 20 = S21 20 := by rw [hfr 20 (by omega), fr7 20 (by omega)]
        have t21 : T 21 = S21 21 := by rw [hfr 21 (by omega), fr7 21 (by omega)]
        have t22 : T 22 = S21 22 := by rw [hfr 22 (by omega), fr7 22 (by omega)]
        have t16 : T 16 = S21 16 := by rw [hfr 16 (by omega), fr7 16 (by omega)]
        have t15 : T 15 = S21 15 := by rw [hfr 15 (by omega), fr7 15 (by omega)]
        -- sellers come in
        have sell : ∀ (n : Nat) (si : Nat) (bl : Nat), si + n = (A.2 1).length → bl ≤ (A.2 0).length → (∀ j ∈ (A.2 0).drop bl, A.1 5 j < p) → (∀ j ∈ (A.2 0).take bl, (p : Int) ≤ A.1 5 j) → (∀ j ∈ (A.2 1).take si, A.1 5 j ≤ p) →
            EE scr (d + 3) 88 126 [some (.ref 8), some (.ref 10), some (vi (A.1 8 3)), some (vi (A.1 5 b1)), some (.ref 20), some (.ref 21), some (vi bl), some (vi si), some (vi (sq A ((A.2 0).take bl))), some (vi (sq A ((A.2 1).take si))), some (vi hi), some (vi p)] T (pV fun S' => AU S' (ab_weigh A) ∧ Fr 8 8 S S') := by
          intro n
          have done : ∀ (si bl : Nat), si ≤ (A.2 1).length → bl ≤ (A.2 0).length → (∀ j ∈ (A.2 0).drop bl, A.1 5 j < p) → (∀ j ∈ (A.2 0).take bl, (p : Int) ≤ A.1 5 j) → (∀ j ∈ (A.2 1).take si, A.1 5 j ≤ p) → (∀ j ∈ (A.2 1).drop si, (p : Int) < A.1 5 j) →
              EE scr (d + 2) 90 0 [some (.ref 8), some (vi p), some (vi (sq A ((A.2 0).take bl))), some (vi (sq A ((A.2 1).take si))), some (vi (A.1 8 3)), none, none] T (pV fun S2 => EE scr (d + 3) 88 76 [some (.ref 8), some (.ref 10), some (vi (A.1 8 3)), some (vi (A.1 5 b1)), some (.ref 20), some (.ref 21), some (vi bl), some (vi si), some (vi (sq A ((A.2 0).take bl))), some (vi (sq A ((A.2 1).take si))), some (vi hi), some (vi (p + 1))] S2 (pV fun S' => AU S' (ab_weigh A) ∧ Fr 8 8 S S')) := by
            intro si bl hsi hbl hb hb2 hs hs2
            rw [← dem_eq hb2 hb, ← sup_eq hs hs2]
            have hwp := wto_price A (p - 1)
            refine (sp_weigh hau (by omega) hr (by omega) ⟨hdpos p hpi (by omega), (hd0 p).2⟩ ⟨hupos p hp1, (hu0 p).2⟩).V fun S2 _ h2 => ?_
            rw [dem_eq hb2 hb, sup_eq hs hs2]
            have hw : ab_w1 A (ab_wto A (p - 1)) p = ab_wto A (p + 1 - 1) := by
              rw [show p + 1 - 1 = (p - 1) + 1 by omega]
              show _ = ab_w1 A (ab_wto A (p - 1)) ((p - 1 : Nat) + 1)
              rw [show ((p - 1 : Nat) : Int) + 1 = p by omega]
            rw [hw] at h2
            exact ih (p + 1) bl si S2 (by omega) (by omega) (by omega) (hfr.trans h2.2) h2.1 hbl hsi (fun j hj => by have := hb j hj; omega) (fun j hj => by have := hs j hj; omega)
          induction n with
          | zero =>
            intro si bl hn hbl hb hb2 hs
            have k0 := hsq 0 (by omega) bl
            have k1 := hsq 1 (by omega) si
            refine st_88_126 (rg_b (by omega) (by omega)) (rg_n (by omega)) (rg_n (by omega)) (rg_b (by omega) (by omega)) (rg_b (by omega) (by omega)) (rg_b (by omega) (by omega)) (rg_n (by omega)) ?_
            rw [t22, z221]
            refine ⟨fun _ => done si bl (by omega) hbl hb hb2 hs (fun j hj => by rw [List.drop_of_length_le (by omega)] at hj; cases hj), fun g => by omega⟩
          | succ n ihn =>
            intro si bl hn hbl hb hb2 hs
            have k0 := hsq 0 (by omega) bl
            have k1 := hsq 1 (by omega) si
            obtain ⟨x, hx⟩ : ∃ x, (A.2 1)[si]? = some x := ⟨_, List.getElem?_eq_getElem (by omega)⟩
            have hxm := List.mem_of_getElem? hx
            have hxN := ((e1 x).mp hxm).1
            have hpx := hpr 1 (by omega) x hxm
            refine st_88_126 (rg_b (by omega) (by omega)) (rg_n (by omega)) (rg_n (by omega)) (rg_b (by omega) (by omega)) (rg_b (by omega) (by omega)) (rg_b (by omega) (by omega)) (rg_n (by omega)) ?_
            simp only [t22, z221, t21, Int.toNat_natCast, hz21 si x hx, t16, t15, z16 x hxN, z15 x hxN]
            refine ⟨fun g => by omega, fun _ => ⟨by omega, by omega, by omega, by omega, fun g => ?_, fun g => ?_⟩⟩
            · refine done si bl (by omega) hbl hb hb2 hs (fun j hj => ?_)
              obtain ⟨q, hq1', hq2⟩ := mem_drop_ge hj
              have h := Srt.at (by omega) hs1 hx hq2 hq1'
              simp only [show ¬ (1 : Nat) = 0 by omega, if_false] at h
              omega
            · have h := ihn (si + 1) bl (by omega) hbl hb hb2 (fun j hj => by
                rw [(take_drop_at hx).1] at hj
                rcases List.mem_append.mp hj with g2 | g2
                · exact hs j g2
                · rw [List.mem_singleton.mp g2]; omega)
              rw [(take_drop_at hx).1, sq_app, sq_one] at h
              exact h
        -- buyers leave
        have buy : ∀ (bl : Nat), bl ≤ (A.2 0).length → (∀ j ∈ (A.2 0).drop bl, A.1 5 j < p) → EE scr (d + 3) 88 83 [some (.ref 8), some (.ref 10), some (vi (A.1 8 3)), some (vi (A.1 5 b1)), some (.ref 20), some (.ref 21), some (vi bl), some (vi si), some (vi (sq A ((A.2 0).take bl))), some (vi (sq A ((A.2 1).take si))), some (vi hi), some (vi p)] T (pV fun S' => AU S' (ab_weigh A) ∧ Fr 8 8 S S') := by
          intro bl
          induction bl with
          | zero =>
            intro hbl hb
            have k0 := hsq 0 (by omega) 0
            have k1 := hsq 1 (by omega) si
            refine st_88_83 (rg_b (by omega) (by omega)) (rg_n (by omega)) (rg_n (by omega)) (rg_b (by omega) (by omega)) (rg_b (by omega) (by omega)) (rg_b (by omega) (by omega)) (rg_n (by omega)) ?_
            exact ⟨fun _ => sell ((A.2 1).length - si) si 0 (by omega) hbl hb (fun j hj => by rw [List.take_zero] at hj; cases hj) hs, fun g => by omega⟩
          | succ bl ihb =>
            intro hbl hb
            have k0 := hsq 0 (by omega) (bl + 1)
            have k00 := hsq 0 (by omega) bl
            have k1 := hsq 1 (by omega) si
            obtain ⟨x, hx⟩ : ∃ x, (A.2 0)[bl]? = some x := ⟨_, List.getElem?_eq_getElem (by omega)⟩
            have hxm := List.mem_of_getElem? hx
            have hxN := ((c1 x).mp hxm).1
            have n1 : (((bl + 1 : Nat) : Int) - 1).toNat = bl := by omega
            have n2 : (((bl + 1 : Nat) : Int) + -1).toNat = bl := by omega
            refine st_88_83 (rg_b (by omega) (by omega)) (rg_n (by omega)) (rg_n (by omega)) (rg_b (by omega) (by omega)) (rg_b (by omega) (by omega)) (rg_b (by omega) (by omega)) (rg_n (by omega)) ?_
            simp only [n1, n2, t20, hz20 bl x hx, Int.toNat_natCast, t16, t15, z16 x hxN, z15 x hxN]
            refine ⟨fun g => by omega, fun _ => ⟨by omega, by omega, by omega, by omega, fun g => ?_, fun g => ⟨by omega, by omega, by omega, by omega, ?_⟩⟩⟩
            · refine sell ((A.2 1).length - si) si (bl + 1) (by omega) hbl hb (fun j hj => ?_) hs
              obtain ⟨q, hq1', hq2⟩ := mem_take_lt hj
              have h := Srt.at (by omega) hs0 hq2 hx (by omega)
              simp only [if_true] at h
              omega
            · have h := ihb (by omega) (fun j hj => by
                rw [(take_drop_at hx).2] at hj
                rcases List.mem_cons.mp hj with g2 | g2
                · rw [g2]; omega
                · exact hb j g2)
              have e4 : sq A ((A.2 0).take (bl + 1)) - A.1 4 x = sq A ((A.2 0).take bl) := by
                rw [(take_drop_at hx).1, sq_app, sq_one]
                omega
              have e5 : (((bl + 1 : Nat) : Int) + -1) = (bl : Int) := by omega
              rw [e4, e5]
              exact h
        have k0 := hsq 0 (by omega) bl
        have k1 := hsq 1 (by omega) si
        refine st_88_76 (rg_b (by omega) (by omega)) (rg_n (by omega)) (rg_n (by omega)) (rg_b (by omega) (by omega)) (rg_b (by omega) (by omega)) (rg_b (by omega) (by omega)) (rg_n (by omega)) ?_
        exact ⟨fun g => by omega, fun _ => buy bl hbl hb⟩
    obtain ⟨lo, hlo⟩ : ∃ lo : Nat, A.1 5 b1 = lo := ⟨(A.1 5 b1).toNat, by omega⟩
    have h := loop (hi + 1 - lo).toNat lo (A.2 0).length 0 S21 (by omega) (by omega) (by omega) fr7 (by
      rw [wto_zero (lo - 1) (fun p hp => by rw [huz p (fun j hj => by have := hlow j hj; omega)]; have := hd0 p; omega)]
      exact au7) (Nat.le_refl _) (by omega) (fun j hj => by rw [List.drop_length] at hj; cases hj) (fun j hj => by rw [List.take_zero] at hj; cases hj)
    rw [List.take_length, List.take_zero] at h
    rw [hy, hlo]
    rw [hlo] at h
    exact h
