/-! 9f.ref3: the reference: the next of a line; what meets; enough; trade -/
def lnI (l : List Nat) (k : Nat) : Int := match l[k]? with
  | some i => (i : Int)
  | none => -1
def Bst (l : List Nat) (k n : Nat) (y : Int) : Prop := (y = -1 ∧ ∀ j z : Nat, k ≤ j → l[j]? = some z → n ≤ z) ∨ (∃ j0 z0 : Nat, y = z0 ∧ k ≤ j0 ∧ l[j0]? = some z0 ∧ z0 < n ∧ ∀ j z : Nat, k ≤ j → l[j]? = some z → z < n → j0 ≤ j)
theorem Bst.keep {l : List Nat} {k n : Nat} {y : Int} (h : Bst l k n y) (hn : ∀ j, k ≤ j → ¬ l[j]? = some n) : Bst l k (n + 1) y := by
  rcases h with ⟨h1, h2⟩ | ⟨j0, z0, h1, h2, h3, h4, h5⟩
  · refine Or.inl ⟨h1, fun j z hj hz => ?_⟩
    have a := h2 j z hj hz
    have b : ¬ z = n := fun e => hn j hj (e ▸ hz)
    omega
  · refine Or.inr ⟨j0, z0, h1, h2, h3, by omega, fun j z hj hz hzn => ?_⟩
    have b : ¬ z = n := fun e => hn j hj (e ▸ hz)
    exact h5 j z hj hz (by omega)
theorem Bst.first {l : List Nat} {k n jn : Nat} {y : Int} (h : Bst l k n y) (hy : y < 0) (hj : l[jn]? = some n) (hk : k ≤ jn) (hu : ∀ j, l[j]? = some n → j = jn) : Bst l k (n + 1) n := by
  rcases h with ⟨h1, h2⟩ | ⟨j0, z0, h1, h2, h3, h4, h5⟩
  · refine Or.inr ⟨jn, n, rfl, hk, hj, by omega, fun j z a hz b => ?_⟩
    have c := h2 j z a hz
    have e : z = n := by omega
    rw [hu j (e ▸ hz)]
    exact Nat.le_refl _
  · omega
theorem Bst.better {l : List Nat} {k n jn j0 z0 : Nat} (h : ∀ j z : Nat, k ≤ j → l[j]? = some z → z < n → j0 ≤ j) (hj : l[jn]? = some n) (hk : k ≤ jn) (hu : ∀ j, l[j]? = some n → j = jn) (h0 : l[j0]? = some z0) (hk0 : k ≤ j0) (hz0 : z0 < n) : Bst l k (n + 1) (if jn < j0 then (n : Int) else z0) := by
  by_cases c : jn < j0
  · rw [if_pos c]
    refine Or.inr ⟨jn, n, rfl, hk, hj, by omega, fun j z a hz b => ?_⟩
    by_cases e : z = n
    · rw [hu j (e ▸ hz)]
      exact Nat.le_refl _
    · have := h j z a hz (by omega)
      omega
  · rw [if_neg c]
    refine Or.inr ⟨j0, z0, rfl, hk0, h0, by omega, fun j z a hz b => ?_⟩
    by_cases e : z = n
    · rw [hu j (e ▸ hz)]
      omega
    · exact h j z a hz (by omega)
theorem RK.uniq {k : Nat} {S : sk_S} {A : ab} (h : RK k S A) {s a b x : Nat} (hs : s < 2) (ha : (A.2 s)[a]? = some x) (hb : (A.2 s)[b]? = some x) : a = b := by
  have h1 : ¬ a < b := fun g => by
    have := (h.at hs ha hb).mpr g
    rw [Rr_irr] at this
    exact absurd this (by decide)
  have h2 : ¬ b < a := fun g => by
    have := (h.at hs hb ha).mpr g
    rw [Rr_irr] at this
    exact absurd this (by decide)
  omega
theorem rp_behind {scr : Nat × (Nat → Int32)} {d N s k : Nat} {x m : Int} {S : sk_S} {A : ab} (hR : RM 0 N S A) (hK : RK 0 S A) (hW : WS N m A) (hs : s < 2) (hx : (x = -1 ∧ k = 0) ∨ (∃ j z : Nat, k = j + 1 ∧ x = z ∧ (A.2 s)[j]? = some z)) :
    EE scr (d + 1) 44 0 [some (.ref 66), some (vi s), some (vi x), none, none, none] S (pI fun y S' => S' = S ∧ y = lnI (A.2 s) k) := by
  have hN := hW.2.1.1
  have e3 : S 67 3 = N := by
    have := hR.1.1
    rw [show 16 * 0 + 3 = 3 by omega] at this
    rw [this, hW.1]
  obtain ⟨c0, c1, c2⟩ := hW.2.1.2.2 s hs
  have hlt : ∀ (j z : Nat), (A.2 s)[j]? = some z → z < N := fun j z h => ((c1 z).mp (List.mem_of_getElem? h)).1
  have rx : rg x := by
    rcases hx with ⟨h, -⟩ | ⟨j, z, -, h, h2⟩
    · rw [h]; exact rg_b (by omega) (by omega)
    · have := hlt j z h2
      rw [h]; exact rg_n (by omega)
  have loop : ∀ (f n : Nat) (y : Int) (l5 : Option Value), n + f = N → Bst (A.2 s) k n y → EE scr (d + 1) 44 5 [some (.ref 66), some (vi s), some (vi x), some (vi y), some (vi n), l5] S (pI fun y S' => S' = S ∧ y = lnI (A.2 s) k) := by
    intro f
    induction f with
    | zero =>
      intro n y l5 hn hB
      have ry : rg y := by
        rcases hB with ⟨h1, -⟩ | ⟨j0, z0, h1, -, -, h4, -⟩
        · rw [h1]; exact rg_b (by omega) (by omega)
        · rw [h1]; exact rg_n (by omega)
      refine st_44_5 (rg_n (by omega)) rx ry (rg_n (by omega)) ?_
      rw [e3]
      refine ⟨fun _ => ⟨_, rfl, rfl, ?_⟩, fun g => by omega⟩
      unfold lnI
      rcases hB with ⟨h1, h2⟩ | ⟨j0, z0, h1, h2, h3, h4, h5⟩
      · cases hk : (A.2 s)[k]? with
        | none => exact h1
        | some z =>
          have := h2 k z (Nat.le_refl _) hk
          have := hlt k z hk
          omega
      · have hl := (List.getElem?_eq_some_iff.mp h3).1
        obtain ⟨z, hz⟩ : ∃ z, (A.2 s)[k]? = some z := ⟨_, List.getElem?_eq_getElem (by omega)⟩
        have h6 := h5 k z (Nat.le_refl _) hz (by have := hlt k z hz; omega)
        have h7 : j0 = k := by omega
        rw [h7] at h3
        rw [h3, h1]
    | succ f ih =>
      intro n y l5 hn hB
      have ry : rg y := by
        rcases hB with ⟨h1, -⟩ | ⟨j0, z0, h1, -, -, h4, -⟩
        · rw [h1]; exact rg_b (by omega) (by omega)
        · rw [h1]; exact rg_n (by omega)
      have hnN : n < N := by omega
      have e72 : S 72 n = A.1 3 n := hR.c (c := 3) (by omega) hnN
      have e69 : S 69 n = A.1 1 n := hR.c (c := 1) (by omega) hnN
      have out : (∀ j, k ≤ j → ¬ (A.2 s)[j]? = some n) → ∀ v : Option Value, EE scr (d + 1) 44 5 [some (.ref 66), some (vi s), some (vi x), some (vi y), some (vi (n + 1 : Nat)), v] S (pI fun y S' => S' = S ∧ y = lnI (A.2 s) k) := fun h v => ih (n + 1) y v (by omega) (hB.keep h)
      have cand : ∀ jn, (A.2 s)[jn]? = some n → k ≤ jn → (y < 0 → EE scr (d + 1) 44 5 [some (.ref 66), some (vi s), some (vi x), some (vi n), some (vi (n + 1 : Nat)), some (vi 1)] S (pI fun y S' => S' = S ∧ y = lnI (A.2 s) k)) ∧ (¬ y < 0 → EE scr d 43 0 [some (.ref 66), some (vi n), some (vi y)] S (pI fun z S6 => rg z → ((z = 0 → EE scr (d + 1) 44 5 [some (.ref 66), some (vi s), some (vi x), some (vi y), some (vi (n + 1 : Nat)), some (vi 1)] S6 (pI fun y S' => S' = S ∧ y = lnI (A.2 s) k)) ∧ (¬ z = 0 → EE scr (d + 1) 44 5 [some (.ref 66), some (vi s), some (vi x), some (vi n), some (vi (n + 1 : Nat)), some (vi 1)] S6 (pI fun y S' => S' = S ∧ y = lnI (A.2 s) k))))) := by
        intro jn hjn hk
        have hu : ∀ j, (A.2 s)[j]? = some n → j = jn := fun j hj => hK.uniq hs hj hjn
        refine ⟨fun hy => ih (n + 1) n _ (by omega) (hB.first hy hjn hk hu), fun hy => ?_⟩
        rcases hB with ⟨h1, h2⟩ | ⟨j0, z0, h1, h2, h3, h4, h5⟩
        · omega
        · subst h1
          have hsn := ((c1 n).mp (List.mem_of_getElem? hjn)).2.2
          refine (rp_ahead hR hN hnN (hlt j0 z0 h3) hs hsn).I fun z S6 _ _ hz _ => ?_
          obtain ⟨rfl, rfl⟩ := hz
          have hat := hK.at hs hjn h3
          have hb := Bst.better h5 hjn hk hu h3 h2 h4
          by_cases c : jn < j0
          · rw [if_pos (hat.mpr c)]
            rw [if_pos c] at hb
            exact ⟨fun g => by omega, fun _ => ih (n + 1) n _ (by omega) hb⟩
          · rw [if_neg (fun g => c (hat.mp g))]
            rw [if_neg c] at hb
            exact ⟨fun _ => ih (n + 1) z0 _ (by omega) hb, fun g => absurd rfl g⟩
      refine st_44_5 (rg_n (by omega)) rx ry (rg_n (by omega)) ?_
      simp only [Int.toNat_natCast, e3, e72, e69]
      refine ⟨fun g => by omega, fun _ => ⟨by omega, by omega, fun g => ?_, fun g => ⟨fun g2 => ?_, fun g2 => ?_⟩⟩⟩
      · exact out (fun j _ hj => g ((c1 n).mp (List.mem_of_getElem? hj)).2.1) _
      · exact out (fun j _ hj => g2 ((c1 n).mp (List.mem_of_getElem? hj)).2.2) _
      · obtain ⟨jn, hjn⟩ := List.mem_iff_getElem?.mp ((c1 n).mpr ⟨hnN, g, g2⟩)
        rcases hx with ⟨h, hk0⟩ | ⟨j, z, hkj, h, h2⟩
        · refine ⟨fun _ => cand jn hjn (by omega), fun g3 => by omega⟩
        · refine ⟨fun g3 => by omega, fun _ => ⟨fun g3 => ?_, fun g3 => ?_⟩⟩
          · refine out (fun q hq hqn => ?_) _
            have e : z = n := by omega
            rw [e] at h2
            have := hK.uniq hs hqn h2
            omega
          · subst h
            have hsz := ((c1 z).mp (List.mem_of_getElem? h2)).2.2
            refine (rp_ahead hR hN (hlt j z h2) hnN hs hsz).I fun w S13 _ _ hw _ => ?_
            obtain ⟨rfl, rfl⟩ := hw
            have hat := hK.at hs h2 hjn
            by_cases c : j < jn
            · rw [if_pos (hat.mpr c)]
              exact ⟨fun g => by omega, fun _ => cand jn hjn (by omega)⟩
            · rw [if_neg (fun g => c (hat.mp g))]
              refine ⟨fun _ => out (fun q hq hqn => ?_) _, fun g => absurd rfl g⟩
              have := hK.uniq hs hqn hjn
              omega
  exact st_44_0 (rg_n (by omega)) rx (loop N 0 (-1) none (by omega) (Or.inl ⟨rfl, fun j z _ _ => Nat.zero_le _⟩))
theorem told_0 {N : Nat} {m : Int} {A : ab} {i : Nat} (hW : WS N m A) (hi : i < N) : ab_told A i = 0 ↔ (A.1 2 i = 1 ∨ A.1 2 i = 4) := by
  have hp := (hW.2.2.2.2.2.2.1 i hi).2.2.2.2.1
  unfold ab_told
  split
  · rename_i h
    exact ⟨fun _ => h, fun _ => rfl⟩
  · rename_i h
    refine ⟨fun h0 => ?_, fun g => absurd g h⟩
    have := hp (by omega)
    omega
theorem rp_meets {scr : Nat × (Nat → Int32)} {d N b i : Nat} {m : Int} {S : sk_S} {A : ab} (hR : RM 0 N S A) (hW : WS N m A) (hi : i < N) (hb : b < N) : EE scr (d + 1) 45 0 [some (.ref 66), some (vi b), some (vi i)] S (pI fun x S' => S' = S ∧ x = if ab_meets A b i = true then 1 else 0) := by
  have hN := hW.2.1.1
  have e1 : S 69 i = A.1 1 i := hR.c (c := 1) (by omega) hi
  have e5 : S 73 i = A.1 5 i := hR.c (c := 5) (by omega) hi
  have e5b : S 73 b = A.1 5 b := hR.c (c := 5) (by omega) hb
  refine st_45_0 (rg_n (by omega)) (rg_n (by omega)) ?_
  refine (rp_told hR hi hN).I fun y S1 _ _ hy _ => ?_
  obtain ⟨rfl, rfl⟩ := hy
  simp only [Int.toNat_natCast, e1, e5, e5b]
  have ht := told_0 hW hi
  unfold ab_meets
  refine ⟨fun g => ⟨_, rfl, rfl, ?_⟩, fun g => ⟨by omega, by omega, fun g2 => ⟨by omega, by omega, fun g3 => ⟨_, rfl, rfl, ?_⟩, fun g3 => ⟨_, rfl, rfl, ?_⟩⟩, fun g2 => ⟨by omega, by omega, fun g3 => ⟨_, rfl, rfl, ?_⟩, fun g3 => ⟨_, rfl, rfl, ?_⟩⟩⟩⟩
  · rw [if_pos]
    simp [ht.mp g]
  · have k := fun h => g (ht.mpr h)
    rw [if_neg]
    simp [k, g2]
    omega
  · have k := fun h => g (ht.mpr h)
    rw [if_pos]
    simp [k, g2]
    omega
  · have k := fun h => g (ht.mpr h)
    rw [if_neg]
    simp [k, g2]
    omega
  · have k := fun h => g (ht.mpr h)
    rw [if_pos]
    simp [k, g2]
    omega
theorem rp_enough {scr : Nat × (Nat → Int32)} {d N i : Nat} {m band : Int} {S : sk_S} {A : ab} (hR : RM 0 N S A) (hK : RK 0 S A) (hW : WS N m A) (hi : i < N) (hbd : S 66 0 = band) :
    EE scr (d + 2) 47 0 [some (.ref 66), some (vi i), none, none] S (pI fun x S' => S' = S ∧ x = if A.1 4 i ≤ ab_sum band A i (A.2 (1 - ab_sd A i)) then 1 else 0) := by
  have hN := hW.2.1.1
  obtain ⟨s, hs, hsd⟩ := hW.2.1.side hi
  rw [ab_sd_of hsd]
  have e1 : S 69 i = s := (hR.c (c := 1) (by omega) hi).trans hsd
  have e4 : S 71 i = A.1 4 i := hR.c (c := 4) (by omega) hi
  have hs1 : 1 - s < 2 := by omega
  have es : (1 : Int) - (s : Int) = ((1 - s : Nat) : Int) := by omega
  obtain ⟨c0, c1, c2⟩ := hW.2.1.2.2 (1 - s) hs1
  have hq := fun j (hj : j < N) => (hW.2.1.2.1 j hj).2.2.2.2.1
  generalize hl : A.2 (1 - s) = l at *
  have hmem : ∀ j ∈ l, j < N := fun j hj => ((c1 j).mp hj).1
  have loop : ∀ (f k : Nat) (acc : Int), k + f = l.length → 0 ≤ acc → acc ≤ 1000 * k → EE scr (d + 2) 47 16 [some (.ref 66), some (vi i), some (vi acc), some (vi (lnI l k))] S (pI fun x S' => S' = S ∧ x = if A.1 4 i ≤ acc + ab_sum band A i (l.drop k) then 1 else 0) := by
    intro f
    induction f with
    | zero =>
      intro k acc hk ha0 ha1
      have e : l[k]? = none := List.getElem?_eq_none (by omega)
      have el : lnI l k = -1 := by unfold lnI; rw [e]
      have ed : l.drop k = [] := List.drop_eq_nil_of_le (by omega)
      rw [el, ed]
      refine st_47_16 (rg_n (by omega)) (rg_b (by omega) (by omega)) (rg_b (by omega) (by omega)) ?_
      simp only [Int.toNat_natCast, e4]
      unfold ab_sum
      refine ⟨fun _ => ⟨by omega, by omega, fun g => ⟨_, rfl, rfl, ?_⟩, fun g => ⟨_, rfl, rfl, ?_⟩⟩, fun g => by omega⟩
      · rw [if_neg (by omega)]
      · rw [if_pos (by omega)]
    | succ f ih =>
      intro k acc hk ha0 ha1
      obtain ⟨b, hb⟩ : ∃ b, l[k]? = some b := ⟨_, List.getElem?_eq_getElem (by omega)⟩
      have el : lnI l k = b := by unfold lnI; rw [hb]
      have hbm := List.mem_of_getElem? hb
      obtain ⟨a1, a2, a3⟩ := (c1 b).mp hbm
      have hpb := (hW.2.1.2.1 b a1).2.2.2.1 a2
      have e5b : S 73 b = A.1 5 b := hR.c (c := 5) (by omega) a1
      have e0b : S 68 b = A.1 0 b := hR.c (c := 0) (by omega) a1
      have e0i : S 68 i = A.1 0 i := hR.c (c := 0) (by omega) hi
      have e4b : S 71 b = A.1 4 b := hR.c (c := 4) (by omega) a1
      have hqb := hq b a1
      have next : EE scr (d + 1) 44 0 [some (.ref 66), some (vi (1 - s : Nat)), some (vi b), none, none, none] S (pI fun y S' => S' = S ∧ y = lnI l (k + 1)) := by
        have := rp_behind (scr := scr) (d := d) hR hK hW hs1 (k := k + 1) (x := b) (Or.inr ⟨k, b, rfl, rfl, by rw [hl]; exact hb⟩)
        rw [hl] at this
        exact this
      rw [el, (take_drop_at hb).2, sum_cons1]
      refine st_47_16 (rg_n (by omega)) (rg_b (by omega) (by omega)) (rg_n (by omega)) ?_
      refine ⟨fun g => by omega, fun _ => (rp_meets hR hW hi a1).I fun y S3 _ _ hy _ => ?_⟩
      obtain ⟨rfl, rfl⟩ := hy
      simp only [Int.toNat_natCast, e4, e5b]
      by_cases cm : ab_meets A b i = true
      · rw [if_pos cm]
        refine ⟨fun g => by omega, fun _ => ⟨by omega, by omega, (rp_wild hR hbd hpb hW.2.2.2.1).I fun y S10 _ _ hy _ => ?_⟩⟩
        obtain ⟨rfl, rfl⟩ := hy
        simp only [e4, e0b, e0i, e4b, e1, es]
        by_cases cw : ab_wild band A (A.1 5 b) = true
        · rw [if_pos cw, if_pos (Or.inr cw)]
          refine ⟨fun _ => ⟨by omega, by omega, fun g => ⟨_, rfl, rfl, ?_⟩, fun g => ⟨_, rfl, rfl, ?_⟩⟩, fun g => by omega⟩
          · rw [if_neg (by omega)]
          · rw [if_pos (by omega)]
        · have hno : ¬ (ab_meets A b i = false ∨ ab_wild band A (A.1 5 b) = true) := by
            rw [cm]
            simp [cw]
          rw [if_neg cw, if_neg hno]
          refine ⟨fun g => absurd rfl g, fun _ => ⟨by omega, by omega, fun g => ?_, fun g => ?_⟩⟩
          · refine next.I fun y S18 _ _ hy _ => ?_
            obtain ⟨rfl, rfl⟩ := hy
            rw [if_neg g, ← Int.add_assoc]
            exact ih (k + 1) (acc + A.1 4 b) (by omega) (by omega) (by omega)
          · refine next.I fun y S18 _ _ hy _ => ?_
            obtain ⟨rfl, rfl⟩ := hy
            rw [if_pos g, ← Int.add_assoc]
            exact ih (k + 1) (acc + 0) (by omega) (by omega) (by omega)
      · rw [if_neg cm, if_pos (Or.inl (by simpa using cm))]
        refine ⟨fun _ => ⟨by omega, by omega, fun g => ⟨_, rfl, rfl, ?_⟩, fun g => ⟨_, rfl, rfl, ?_⟩⟩, fun g => absurd rfl g⟩
        · rw [if_neg (by omega)]
        · rw [if_pos (by omega)]
  refine st_47_0 (rg_n (by omega)) ?_
  simp only [Int.toNat_natCast, e1, es]
  have first : EE scr (d + 1) 44 0 [some (.ref 66), some (vi (1 - s : Nat)), some (vi (-1)), none, none, none] S (pI fun y S' => S' = S ∧ y = lnI l 0) := by
    have := rp_behind (scr := scr) (d := d) hR hK hW hs1 (k := 0) (x := -1) (Or.inl ⟨rfl, rfl⟩)
    rw [hl] at this
    exact this
  refine ⟨by omega, by omega, first.I fun y S1 _ _ hy _ => ?_⟩
  obtain ⟨rfl, rfl⟩ := hy
  have := loop l.length 0 0 (by omega) (by omega) (by omega)
  rw [List.drop_zero, Int.zero_add] at this
  exact this
theorem ab_ext {A B : ab} (h1 : ∀ q j, B.1 q j = A.1 q j) (h2 : ∀ s, B.2 s = A.2 s) : B = A := by
  have e1 : B.1 = A.1 := by
    funext q j
    exact h1 q j
  have e2 : B.2 = A.2 := funext h2
  exact Prod.ext e1 e2
theorem ab_u_comm {A : ab} {k j k' j' : Nat} {v v' : Int} (h : ¬ k = k') : ab_u (ab_u A k j v) k' j' v' = ab_u (ab_u A k' j' v') k j v := by
  refine ab_ext (fun q i => ?_) (fun _ => rfl)
  rw [ab_u_get, ab_u_get, ab_u_get, ab_u_get]
  by_cases c : q = k' ∧ i = j'
  · rw [if_pos c, if_neg (by omega), if_pos c]
  · rw [if_neg c, if_neg c]
theorem tell_u {A : ab} {k j : Nat} {v s t o q p : Int} (h : k < 11) : ab_tell (ab_u A k j v) s t o q p = ab_u (ab_tell A s t o q p) k j v := by
  unfold ab_tell
  rw [u_ne (k := k) (j := j) (k' := 11) (Or.inl (by omega))]
  rw [ab_u_comm (k := k) (k' := 12 + s.toNat) (by omega), ab_u_comm (k := k) (k' := 12 + s.toNat) (by omega), ab_u_comm (k := k) (k' := 12 + s.toNat) (by omega), ab_u_comm (k := k) (k' := 12 + s.toNat) (by omega), ab_u_comm (k := k) (k' := 11) (by omega)]
theorem t1_tell (A : ab) (b i : Nat) (v p : Int) : ab_t1 A b i v p = ab_u (ab_u (ab_tell (ab_tell (ab_u A 8 2 p) (A.1 0 b) 2 b v p) (A.1 0 i) 2 i v p) 4 i (A.1 4 i - v)) 4 b (A.1 4 b - v) := by
  unfold ab_t1
  rw [tell_u (by omega), tell_u (by omega), tell_u (by omega), tell_u (by omega)]
theorem rp_trade {scr : Nat × (Nat → Int32)} {d N b i s : Nat} {S : sk_S} {A : ab} {m B c : Int} (hM : MI N c S A) (hW : WS N m A) (hm : m ≤ 40) (hi : i < N) (hst : A.1 3 i = 0) (hq : 1 ≤ A.1 4 i) (hs : s < 2) (hb : b ∈ A.2 s) (hB : rcB A B) (hB2 : B < 2147483000) (hc : c < 2147483000) :
    EE scr (d + 2) 48 0 [some (.ref 66), some (vi b), some (vi i), none, none] S (pV fun S' => MI N (c + 1) S' (ab_trade A b i) ∧ MF S S') := by
  obtain ⟨g1, g2, g3, g4, g5, g6, g7, g8⟩ := hW
  have hR := hM.1
  obtain ⟨c0, c1, c2⟩ := g2.2.2 s hs
  obtain ⟨a1, a2, a3⟩ := (c1 b).mp hb
  have hib : ¬ i = b := fun e => by rw [e, a2] at hst; omega
  have hN := g2.1
  have hb7 := (g7 b a1).2.2.1 a2
  obtain ⟨vb1, vb2, vb3, vb4, vb5, vb6, vb7⟩ := g2.2.1 b a1
  obtain ⟨vi1, vi2, vi3, vi4, vi5, vi6, vi7⟩ := g2.2.1 i hi
  have hpb := vb4 a2
  obtain ⟨ob, hob, eob⟩ := g2.own a1
  obtain ⟨oi, hoi, eoi⟩ := g2.own hi
  have e4i : S 71 i = A.1 4 i := hR.c (c := 4) (by omega) hi
  have e7b : S 75 b = A.1 7 b := hR.c (c := 7) (by omega) a1
  have e4b : S 71 b = A.1 4 b := hR.c (c := 4) (by omega) a1
  have e5b : S 73 b = A.1 5 b := hR.c (c := 5) (by omega) a1
  have e3b : S 72 b = 1 := (hR.c (c := 3) (by omega) a1).trans a2
  have e0b : S 68 b = ob := (hR.c (c := 0) (by omega) a1).trans eob
  have e0i : S 68 i = oi := (hR.c (c := 0) (by omega) hi).trans eoi
  refine st_48_0 (rg_n (by omega)) (rg_n (by omega)) ?_
  simp only [Int.toNat_natCast, e4i, e7b]
  rw [trade_eq]
  refine ⟨by omega, by omega, by omega, by omega, (rp_least (rg_b (by omega) (by omega)) (rg_b (by omega) (by omega))).I fun y S1 _ _ hy _ S6 q6 => ?_⟩
  obtain ⟨rfl, rfl⟩ := hy
  generalize hv : min (A.1 4 i) (A.1 7 b) = v at *
  have hv1 : 1 ≤ v ∧ v ≤ A.1 4 i ∧ v ≤ A.1 7 b := by omega
  rw [e5b] at q6 ⊢
  have m6 : MI N c S6 (ab_u A 8 2 (A.1 5 b)) := by rw [q6]; exact hM.sc (by omega)
  have f6 : MF S1 S6 := by rw [q6]; exact MF.u (by omega)
  have k6 : ∀ k, ¬ k = 67 → S6 k = S1 k := fun k hk => by rw [q6, sk_u_ne hk]
  rw [k6 68 (by omega), e0b]
  have hB6 : rcB (ab_u A 8 2 (A.1 5 b)) B := hB.same (fun j => u_ne (Or.inl (by omega)))
  have hbo := hB6 ob hob
  refine (rp_tell m6 hob hbo.1 (by omega) (rg_b (by omega) (by omega)) (rg_n (by omega)) (rg_b (by omega) (by omega)) (rg_b (by omega) (by omega))).V fun S9 _ h9 => ?_
  obtain ⟨m9, f9, k9, -⟩ := h9
  rw [k9 68 (by omega) (by omega), k6 68 (by omega), e0i]
  have hB9 := hB6.tell (s := ob) (t := 2) (o := b) (q := v) (p := A.1 5 b)
  have hbi := hB9 oi hoi
  refine (rp_tell m9 hoi hbi.1 (by omega) (rg_b (by omega) (by omega)) (rg_n (by omega)) (rg_b (by omega) (by omega)) (rg_b (by omega) (by omega))).V fun S14 _ h14 => ?_
  obtain ⟨m14, f14, k14, -⟩ := h14
  have k : ∀ q, ¬ q = 67 → ¬ q = 77 → S14 q = S1 q := fun q a b => by rw [k14 q a b, k9 q a b, k6 q a]
  rw [k 71 (by omega) (by omega), e4i]
  refine ⟨rg_b (by omega) (by omega), fun S19 q19 => ?_⟩
  have m19 := m14.col (c := 4) (k := 71) (i := i) (v := A.1 4 i - v) (by omega) (by omega) rfl
  rw [← q19] at m19
  have x19 : S19 71 b = A.1 4 b := by rw [q19, sk_u_nj (by omega), k 71 (by omega) (by omega)]; exact e4b
  rw [x19]
  refine ⟨rg_b (by omega) (by omega), fun S22 q22 => ?_⟩
  have m22 := m19.col (c := 4) (k := 71) (i := b) (v := A.1 4 b - v) (by omega) (by omega) rfl
  rw [← q22] at m22
  have et := t1_tell A b i v (A.1 5 b)
  rw [eob, eoi] at et
  rw [← et] at m22
  have x22 : S22 75 b = A.1 7 b := by rw [q22, sk_u_ne (by omega), q19, sk_u_ne (by omega), k 75 (by omega) (by omega)]; exact e7b
  rw [x22]
  refine ⟨rg_b (by omega) (by omega), fun S25 q25 => ?_⟩
  have m25 := m22.col (c := 7) (k := 75) (i := b) (v := A.1 7 b - v) (by omega) (by omega) rfl
  rw [← q25] at m25
  have f25 : MF S1 S25 := by
    refine ((f6.trans f9).trans f14).trans ?_
    rw [q25, q22, q19]
    exact ((MF.u (by omega)).trans (MF.u (by omega))).trans (MF.u (by omega))
  have x4 : S25 71 b = A.1 4 b - v := by rw [q25, sk_u_ne (by omega), q22, sk_u_at]
  have x7 : S25 75 b = A.1 7 b - v := by rw [q25, sk_u_at]
  have x3 : S25 72 b = 1 := by rw [q25, sk_u_ne (by omega), q22, sk_u_ne (by omega), q19, sk_u_ne (by omega), k 72 (by omega) (by omega)]; exact e3b
  rw [x4, x7]
  have hw1 := t1_w g2 (b := b) (i := i) (v := v) (p := A.1 5 b) (by omega) (by omega) (by omega) (by omega)
  have hbm : b ∈ (ab_t1 A b i v (A.1 5 b)).2 s := hb
  have w4 : (ab_t1 A b i v (A.1 5 b)).1 4 b = A.1 4 b - v := by rw [t1_1 (by omega), if_pos ⟨rfl, rfl⟩]
  have w1 : (ab_t1 A b i v (A.1 5 b)).1 1 b = s := by rw [t1_1 (by omega), if_neg (by omega), if_neg (by omega)]; exact a3
  generalize ab_t1 A b i v (A.1 5 b) = T at *
  refine ⟨fun h1 => ⟨fun h2 => ?_, fun h2 => ?_⟩, fun h1 => ?_⟩
  · rw [if_pos (by omega)]
    exact ⟨rfl, m25.le (by omega), f25⟩
  · rw [if_neg (by omega), if_pos (by omega)]
    have m0 := m25.col (c := 3) (k := 72) (i := b) (v := 0) (by omega) (by omega) rfl
    have e0 : ∀ q j, (ab_out T b).1 q j = (ab_u (ab_u T 7 b (A.1 7 b - v)) 3 b 0).1 q j := by
      intro q j
      rw [out_1, ab_u_get, ab_u_get]
      by_cases k3 : q = 3 ∧ j = b
      · rw [if_pos ⟨Or.inl k3.1, k3.2⟩, if_pos k3]
      · rw [if_neg k3]
        by_cases k7 : q = 7 ∧ j = b
        · rw [if_pos ⟨Or.inr k7.1, k7.2⟩, if_pos k7, h2]
        · rw [if_neg (by omega), if_neg k7]
    have m0' : MI N c (sk_u S25 72 b 0) (ab_out T b) := by
      refine ⟨m0.1.lines e0, ?_, m0.2.2⟩
      have h := (m22.2.1.out (i := b))
      refine h.cells ?_ ?_
      · rw [sk_u_ne (by omega), q25, sk_u_ne (by omega)]
      · rw [sk_u_ne (by omega), q25, sk_u_ne (by omega)]
    have hwo := hw1.out hs hbm
    have hr := rp_rest0 (scr := scr) (d := d) (w := 1) m0' hwo a1 hs (by rw [out_ne (Or.inl (by omega))]; exact w1) (by rw [out_1, if_pos ⟨Or.inl rfl, rfl⟩]; omega) hc
    rw [sk_u_u, sk_u_same x3] at hr
    refine hr.V fun S30 _ h30 => ?_
    exact ⟨rfl, h30.1, f25.trans h30.2⟩
  · rw [if_neg (by omega), if_neg (by omega)]
    refine (rp_leave (by omega)).V fun S35 _ h35 => ?_
    subst h35
    refine ⟨rfl, ?_, f25.trans (MF.leave (by omega))⟩
    have e0 : ab_out T b = ab_u (ab_out (ab_u T 7 b (A.1 7 b - v)) b) 4 b 0 := by
      refine ab_ext (fun q j => ?_) (fun t => ?_)
      · rw [out_1, ab_u_get, out_1, ab_u_get]
        by_cases k4 : q = 4 ∧ j = b
        · rw [if_neg (by omega), if_pos k4, k4.1, k4.2, w4, h1]
        · rw [if_neg k4]
          by_cases k3 : (q = 3 ∨ q = 7) ∧ j = b
          · rw [if_pos k3, if_pos k3]
          · rw [if_neg k3, if_neg k3, if_neg (by omega)]
      · have es1 : ab_sd T b = s := ab_sd_of w1
        have es2 : ab_sd (ab_u T 7 b (A.1 7 b - v)) b = s := ab_sd_of (by rw [u_ne (Or.inl (by omega))]; exact w1)
        rw [out_2 es1, ab_u_2, out_2 es2]
        rfl
    rw [e0]
    exact (m25.leave).le (by omega)
