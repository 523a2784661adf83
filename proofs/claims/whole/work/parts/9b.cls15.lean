/-! 9b.cls15: the class: what is read -/
theorem CX.same {band : Int} {W : wd} {S S' : sk_S} (h : CX band W S) (f : Fr 8 8 S S') : CX band W S' :=
  h.le (h.1.cells (h.1.1.frame fun k _ _ => f k (by omega)) (fun k hk => f k (by omega)) (fun _ => rfl) (fun _ => rfl) (fun _ => rfl)) (f.wide (by omega) (by omega))
theorem cx_market {scr : Nat × (Nat → Int32)} {d : Nat} {band k c : Int} {W : wd} {S : sk_S} (hX : CX band W S) (hW : WW c W) (hk : rg k) :
    EE scr (d + 4) 9 0 [some (.ref 0), some (vi k), none] S (pI fun x S' => x = wd_market W k ∧ CX band W S' ∧ FA S S') := by
  obtain ⟨hA, -, hF⟩ := hW
  obtain ⟨r0, r1, r2, r3⟩ := hX.1.1.1
  have r1' : S 9 0 = W.1.1 8 1 := r1
  have r2' : S 9 1 = W.1.1 8 2 := r2
  have r3' : S 9 2 = W.1.1 8 3 := r3
  have find : ∀ (g : sk_S → Int) (v : Int), (∀ T, AU T (ab_weigh W.1) → g T = v) → v = wd_market W k → EE scr (d + 3) 88 0 [some (.ref 8), some (.ref 10), some (vi (S 9 2)), none, none, none, none, none, none, none, none, none] S (pV fun S7 => pI (fun x S' => x = wd_market W k ∧ CX band W S' ∧ FA S S') (some (g S7)) S7) := by
    intro g v hg hv
    rw [r3']
    refine (sp_find hX.1.1 hA.1).V fun S7 _ h7 => ?_
    obtain ⟨a1, a2⟩ := h7
    exact ⟨_, rfl, (hg S7 a1).trans hv, hX.same a2, fun k hk => a2 k (by omega)⟩
  refine st_9_0 hk ⟨fun g => ?_, fun g => ?_, fun g => ?_, fun g => ?_, fun g => ?_, fun g => ?_, fun g => ?_, fun g => ?_⟩
  · refine ⟨_, rfl, ?_, hX, fun _ _ => rfl⟩
    unfold wd_market
    rw [if_neg (by omega), if_neg (by omega), if_neg (by omega), if_neg (by omega), if_neg (by omega), if_neg (by omega), if_neg (by omega)]
  · subst g
    exact ⟨_, rfl, r1', hX, fun _ _ => rfl⟩
  · subst g
    exact ⟨_, rfl, r2', hX, fun _ _ => rfl⟩
  · subst g
    exact ⟨_, rfl, r3', hX, fun _ _ => rfl⟩
  · subst g
    refine (sp_count hX.1.1 hA.1.1 hA.1.2.1.1).I fun y S1 _ _ hy _ => ?_
    obtain ⟨rfl, rfl⟩ := hy
    exact ⟨_, rfl, rfl, hX, fun _ _ => rfl⟩
  · subst g
    exact find (fun T => T 8 0) _ (fun T h => h.1) rfl
  · subst g
    exact find (fun T => T 8 1) _ (fun T h => h.2.1) rfl
  · subst g
    exact find (fun T => T 8 2) _ (fun T h => h.2.2) rfl
theorem cx_shown {scr : Nat × (Nat → Int32)} {d : Nat} {band s p : Int} {W : wd} {S : sk_S} (hX : CX band W S) (hs : rg s) (hp : rg p) :
    EE scr (d + 1) 10 0 [some (.ref 0), some (vi s), some (vi p)] S (pI fun x S' => x = wd_shown W s p ∧ CX band W S' ∧ FA S S') := by
  refine st_10_0 hs hp ?_
  refine (sp_isSide hs).I fun y S1 _ _ hy _ => ?_
  obtain ⟨rfl, rfl⟩ := hy
  unfold wd_shown
  by_cases c : s = 0 ∨ s = 1
  · rw [if_pos c]
    refine ⟨fun g => by omega, fun _ => ?_⟩
    refine (sp_isPrice hp).I fun y S1 _ _ hy _ => ?_
    obtain ⟨rfl, rfl⟩ := hy
    by_cases c2 : 1 ≤ p ∧ p ≤ 999
    · rw [if_pos c2, if_pos ⟨c, c2⟩]
      refine ⟨fun g => by omega, fun _ => ⟨by omega, by omega, by omega, by omega, ⟨_, rfl, ?_, hX, fun _ _ => rfl⟩⟩⟩
      have := hX.1.2.1 s.toNat (by omega) p.toNat (by omega)
      rw [show ((p.toNat : Nat) : Int) = p by omega] at this
      exact this
    · rw [if_neg c2, if_neg (fun g => c2 g.2)]
      exact ⟨fun _ => ⟨_, rfl, rfl, hX, fun _ _ => rfl⟩, fun g => absurd rfl g⟩
  · rw [if_neg c, if_neg (fun g => c g.1)]
    exact ⟨fun _ => ⟨_, rfl, rfl, hX, fun _ _ => rfl⟩, fun g => absurd rfl g⟩
theorem cx_best {scr : Nat × (Nat → Int32)} {d : Nat} {band s c : Int} {W : wd} {S : sk_S} (hX : CX band W S) (hW : WW c W) (hs : rg s) :
    EE scr (d + 2) 11 0 [some (.ref 0), some (vi s)] S (pI fun x S' => x = wd_best W s ∧ CX band W S' ∧ FA S S') := by
  refine st_11_0 hs ?_
  refine (sp_isSide hs).I fun y S1 _ _ hy _ => ?_
  obtain ⟨rfl, rfl⟩ := hy
  unfold wd_best
  by_cases c : s = 0 ∨ s = 1
  · rw [if_pos c, if_pos c]
    refine ⟨fun g => by omega, fun _ => ?_⟩
    obtain ⟨t, ht, rfl⟩ : ∃ t : Nat, t < 2 ∧ s = t := ⟨s.toNat, by omega, by omega⟩
    refine (sp_bestPrice hX.1.1 hW.1.1 ht).I fun y S7 _ _ hy _ => ?_
    obtain ⟨rfl, rfl⟩ := hy
    exact ⟨_, rfl, rfl, hX, fun _ _ => rfl⟩
  · rw [if_neg c, if_neg c]
    exact ⟨fun _ => ⟨_, rfl, rfl, hX, fun _ _ => rfl⟩, fun g => absurd rfl g⟩
theorem pos_at {i : Nat} : ∀ (l : List Nat) (k : Nat), l[k]? = some i → (∀ j, j < k → ¬ l[j]? = some i) → ab_pos i l = k := by
  intro l
  induction l with
  | nil => intro k h; simp at h
  | cons a l ih =>
    intro k h hn
    unfold ab_pos
    cases k with
    | zero =>
      simp at h
      rw [if_pos h]
    | succ k =>
      have h0 := hn 0 (by omega)
      rw [List.getElem?_cons_zero] at h0
      rw [if_neg (fun g => h0 (by rw [g])), ih k (by rw [List.getElem?_cons_succ] at h; exact h) (fun j hj => by have := hn (j + 1) (by omega); rw [List.getElem?_cons_succ] at this; exact this)]
theorem sp_place {scr : Nat × (Nat → Int32)} {d N i s : Nat} {S : sk_S} {A : ab} (hR : RC 0 N S A) (hw : WFw N A) (hi : i < N) (hst : A.1 3 i = 1) (hs : s < 2) (hsd : A.1 1 i = s) :
    EE scr d 98 0 [some (.ref 10), some (vi i), none, none, none] S (pI fun x S' => S' = S ∧ x = (ab_pos i (A.2 s) : Int)) := by
  have hN := hw.1
  have e1 : S 12 i = s := (hR.2.1 1 (by omega) i hi).trans hsd
  have eL : S 22 s = ((A.2 s).length : Int) := (hR.2.2.1 s hs).1
  have eE : ∀ j k : Nat, (A.2 s)[j]? = some k → S (20 + s) j = (k : Int) := (hR.2.2.1 s hs).2
  have hlen := (hw.2.2 s hs).2.2
  have him : i ∈ A.2 s := ((hw.2.2 s hs).2.1 i).mpr ⟨hi, hst, hsd⟩
  have loop : ∀ (f k : Nat), k + f = (A.2 s).length → (∀ j, j < k → ¬ (A.2 s)[j]? = some i) → EE scr d 98 27 [some (.ref 10), some (vi i), some (.ref (20 + s)), some (vi (A.2 s).length), some (vi k)] S (pI fun x S' => S' = S ∧ x = (ab_pos i (A.2 s) : Int)) := by
    intro f
    induction f with
    | zero =>
      intro k hk hn
      obtain ⟨j, hj⟩ := List.mem_iff_getElem?.mp him
      have := (List.getElem?_eq_some_iff.mp hj).1
      exact absurd hj (hn j (by omega))
    | succ f ih =>
      intro k hk hn
      obtain ⟨x, hx⟩ : ∃ x, (A.2 s)[k]? = some x := ⟨_, List.getElem?_eq_getElem (by omega)⟩
      refine st_98_27 (rg_n (by omega)) hs (rg_n (by omega)) (rg_n (by omega)) ?_
      simp only [Int.toNat_natCast, eE k x hx]
      refine ⟨fun g => by omega, fun _ => ⟨by omega, by omega, fun g => ?_, fun g => ⟨_, rfl, rfl, ?_⟩⟩⟩
      · refine ih (k + 1) (by omega) (fun j hj hx' => ?_)
        by_cases e : j = k
        · rw [e, hx] at hx'
          cases hx'
          exact g rfl
        · exact hn j (by omega) hx'
      · rw [pos_at (A.2 s) k (by rw [hx]; congr 1; omega) hn]
  refine st_98_0 (rg_n (by omega)) ?_
  simp only [Int.toNat_natCast, e1, eL]
  exact ⟨by omega, by omega, by omega, by omega, loop (A.2 s).length 0 (by omega) (fun j hj => by omega)⟩
theorem cx_about {scr : Nat × (Nat → Int32)} {d : Nat} {band o k c : Int} {W : wd} {S : sk_S} (hX : CX band W S) (hW : WW c W) (ho : rg o) (hk : rg k) :
    EE scr (d + 1) 12 0 [some (.ref 0), some (vi o), some (vi k), none, none] S (pI fun x S' => x = wd_about W o k ∧ CX band W S' ∧ FA S S') := by
  obtain ⟨hA, -, hF⟩ := hW
  have hN := hA.1.2.1.1
  refine st_12_0 ho hk ?_
  refine (sp_has hX.1.1 hA.1.1 ho).I fun y S1 _ _ hy _ => ?_
  obtain ⟨rfl, rfl⟩ := hy
  unfold wd_about
  by_cases c : 0 ≤ o ∧ o < (ab_n W.1 : Int)
  · rw [if_pos c, if_pos c]
    obtain ⟨i, rfl⟩ : ∃ i : Nat, o = i := ⟨o.toNat, by omega⟩
    have hi : i < ab_n W.1 := by omega
    simp only [Int.toNat_natCast]
    have e := fun q hq => hX.1.1.2.1 q hq i hi
    have e3 : S1 14 i = W.1.1 3 i := e 3 (by omega)
    have e4 : S1 15 i = W.1.1 4 i := e 4 (by omega)
    have e5 : S1 16 i = W.1.1 5 i := e 5 (by omega)
    have e7 : S1 18 i = W.1.1 7 i := e 7 (by omega)
    have e0 : S1 11 i = W.1.1 0 i := e 0 (by omega)
    rw [e3, e4, e5, e7, e0]
    refine ⟨fun _ => ⟨by omega, by omega, fun g => ?_, fun g => ?_, fun g => ?_, fun g => ?_, fun g => ?_, fun g => ?_, fun g => ?_⟩, fun g => by omega⟩
    · refine ⟨_, rfl, ?_, hX, fun _ _ => rfl⟩
      rw [if_neg (by omega), if_neg (by omega), if_neg (by omega), if_neg (by omega), if_neg (by omega), if_neg (by omega)]
    · subst g
      exact ⟨_, rfl, rfl, hX, fun _ _ => rfl⟩
    · subst g
      exact ⟨_, rfl, rfl, hX, fun _ _ => rfl⟩
    · subst g
      refine ⟨fun g => ⟨_, rfl, ?_, hX, fun _ _ => rfl⟩, fun g => ⟨_, rfl, ?_, hX, fun _ _ => rfl⟩⟩
      · rw [if_neg (by omega), if_neg (by omega), if_pos rfl, if_neg g]
      · rw [if_neg (by omega), if_neg (by omega), if_pos rfl, if_pos g]
    · subst g
      exact ⟨_, rfl, rfl, hX, fun _ _ => rfl⟩
    · subst g
      exact ⟨_, rfl, rfl, hX, fun _ _ => rfl⟩
    · subst g
      rw [if_neg (by omega), if_neg (by omega), if_neg (by omega), if_neg (by omega), if_neg (by omega), if_pos rfl]
      refine ⟨fun g => ⟨_, rfl, ?_, hX, fun _ _ => rfl⟩, fun g => ?_⟩
      · rw [if_neg g]
      · rw [if_pos g]
        obtain ⟨s, hs, hsd⟩ := hA.1.2.1.side hi
        rw [ab_sd_of hsd]
        refine (sp_place hX.1.1 hA.1.2.1 hi g hs hsd).I fun y S10 _ _ hy _ => ?_
        obtain ⟨rfl, rfl⟩ := hy
        exact ⟨_, rfl, rfl, hX, fun _ _ => rfl⟩
  · rw [if_neg c, if_neg c]
    exact ⟨fun g => absurd rfl g, fun _ => ⟨_, rfl, rfl, hX, fun _ _ => rfl⟩⟩
theorem cx_session {scr : Nat × (Nat → Int32)} {d : Nat} {band s k : Int} {W : wd} {S : sk_S} (hX : CX band W S) (hs : rg s) (hk : rg k) :
    EE scr (d + 1) 13 0 [some (.ref 0), some (vi s), some (vi k)] S (pI fun x S' => x = wd_session W s k ∧ CX band W S' ∧ FA S S') := by
  refine st_13_0 hs hk ?_
  refine (sp_isSession hs).I fun y S1 _ _ hy _ => ?_
  obtain ⟨rfl, rfl⟩ := hy
  unfold wd_session
  by_cases c : 0 ≤ s ∧ s < 4
  · rw [if_pos c, if_pos c]
    have e0 : S1 24 s.toNat = W.1.1 9 s.toNat := hX.1.1.2.2.2.1 0 (by omega) s.toNat (by omega)
    have e2 : S1 26 s.toNat = W.1.1 11 s.toNat := hX.1.1.2.2.2.1 2 (by omega) s.toNat (by omega)
    rw [e0, e2]
    refine ⟨fun _ => ⟨fun g => ⟨by omega, by omega, ⟨_, rfl, ?_, hX, fun _ _ => rfl⟩⟩, fun g => ⟨by omega, by omega, ⟨_, rfl, ?_, hX, fun _ _ => rfl⟩⟩, fun g g2 => ⟨_, rfl, ?_, hX, fun _ _ => rfl⟩⟩, fun g => by omega⟩
    · rw [if_pos g]
    · rw [if_neg (by omega), if_pos g]
    · rw [if_neg g, if_neg g2]
  · rw [if_neg c, if_neg c]
    exact ⟨fun g => absurd rfl g, fun _ => ⟨_, rfl, rfl, hX, fun _ _ => rfl⟩⟩
theorem cx_report {scr : Nat × (Nat → Int32)} {d : Nat} {band s b k : Int} {W : wd} {S : sk_S} (hX : CX band W S) (hs : rg s) (hb : rg b) (hk : rg k) :
    EE scr (d + 1) 14 0 [some (.ref 0), some (vi s), some (vi b), some (vi k)] S (pI fun x S' => x = wd_report W s b k ∧ CX band W S' ∧ FA S S') := by
  refine st_14_0 hs hb hk ?_
  refine (sp_isSession hs).I fun y S1 _ _ hy _ => ?_
  obtain ⟨rfl, rfl⟩ := hy
  unfold wd_report
  have no : ∀ T : sk_S, T = S1 → ¬ (0 ≤ s ∧ s < 4 ∧ 0 ≤ k ∧ k < 4 ∧ 0 ≤ b ∧ b < 32 ∧ b < W.1.1 11 s.toNat) → pI (fun x S' => x = (if 0 ≤ s ∧ s < 4 ∧ 0 ≤ k ∧ k < 4 ∧ 0 ≤ b ∧ b < 32 ∧ b < W.1.1 11 s.toNat then W.1.1 (12 + s.toNat) ((W.1.1 11 s.toNat - 1 - b) % 32 * 4 + k).toNat else -1) ∧ CX band W S' ∧ FA S1 S') (some (-1)) T := by
    intro T e h
    subst e
    rw [if_neg h]
    exact ⟨_, rfl, rfl, hX, fun _ _ => rfl⟩
  by_cases c : 0 ≤ s ∧ s < 4
  · rw [if_pos c]
    refine ⟨fun g => by omega, fun _ => ⟨fun g => no _ rfl (by omega), fun g => ⟨fun g2 => ?_, fun g2 => no _ rfl (by omega)⟩⟩⟩
    have e2 : S1 26 s.toNat = W.1.1 11 s.toNat := hX.1.1.2.2.2.1 2 (by omega) s.toNat (by omega)
    have yes : EE scr d 143 0 [some (.ref 23), some (vi s), some (vi b), some (vi k), none] S1 (pI fun x S' => S' = S1 ∧ x = (if 0 ≤ s ∧ s < 4 ∧ 0 ≤ k ∧ k < 4 ∧ 0 ≤ b ∧ b < 32 ∧ b < W.1.1 11 s.toNat then W.1.1 (12 + s.toNat) ((W.1.1 11 s.toNat - 1 - b) % 32 * 4 + k).toNat else -1)) := by
      refine st_143_0 hs hb hk ?_
      rw [e2]
      refine ⟨fun h => ⟨_, rfl, rfl, by rw [if_neg (by omega)]⟩, fun h => ⟨fun h2 => ⟨_, rfl, rfl, by rw [if_neg (by omega)]⟩, fun h2 => ⟨by omega, by omega, fun h3 => ⟨by omega, by omega, ⟨_, rfl, rfl, ?_⟩⟩, fun h3 => ⟨_, rfl, rfl, by rw [if_neg (by omega)]⟩⟩⟩⟩
      rw [if_pos (by omega)]
      exact hX.1.1.2.2.2.2 s.toNat (by omega) _ (by omega)
    refine yes.I fun y S9 _ _ hy _ => ?_
    obtain ⟨rfl, rfl⟩ := hy
    exact ⟨_, rfl, rfl, hX, fun _ _ => rfl⟩
  · rw [if_neg c]
    exact ⟨fun _ => no _ rfl (by omega), fun g => absurd rfl g⟩
theorem cx_feed {scr : Nat × (Nat → Int32)} {d : Nat} {band : Int} {W : wd} {S : sk_S} (hX : CX band W S) :
    EE scr d 15 0 [some (.ref 0)] S (pI fun x S' => x = W.2.2.1 0 0 ∧ CX band W S' ∧ FA S S') :=
  st_15_0 ⟨_, rfl, hX.2.2.2.1.1, hX, fun _ _ => rfl⟩
theorem cx_next {scr : Nat × (Nat → Int32)} {d : Nat} {band : Int} {W : wd} {S : sk_S} (hX : CX band W S) :
    EE scr d 19 0 [some (.ref 0)] S (pI fun x S' => x = W.2.2.2 0 0 ∧ CX band W S' ∧ FA S S') :=
  st_19_0 ⟨_, rfl, hX.2.2.2.2.1.1, hX, fun _ _ => rfl⟩
theorem cx_seen {scr : Nat × (Nat → Int32)} {d : Nat} {band s p : Int} {W : wd} {S : sk_S} (hX : CX band W S) (hs : rg s) (hp : rg p) :
    EE scr (d + 1) 18 0 [some (.ref 0), some (vi s), some (vi p)] S (pI fun x S' => x = wd_seen W s p ∧ CX band W S' ∧ FA S S') := by
  refine st_18_0 hs hp ?_
  refine (sp_isSide hs).I fun y S1 _ _ hy _ => ?_
  obtain ⟨rfl, rfl⟩ := hy
  unfold wd_seen
  by_cases c : s = 0 ∨ s = 1
  · rw [if_pos c]
    refine ⟨fun g => by omega, fun _ => ?_⟩
    refine (sp_isPrice hp).I fun y S1 _ _ hy _ => ?_
    obtain ⟨rfl, rfl⟩ := hy
    by_cases c2 : 1 ≤ p ∧ p ≤ 999
    · rw [if_pos c2, if_pos ⟨c, c2⟩]
      exact ⟨fun g => by omega, fun _ => ⟨by omega, by omega, by omega, by omega, ⟨_, rfl, hX.2.2.2.2.1.2 s.toNat (by omega) p.toNat (by omega), hX, fun _ _ => rfl⟩⟩⟩
    · rw [if_neg c2, if_neg (fun g => c2 g.2)]
      exact ⟨fun _ => ⟨_, rfl, rfl, hX, fun _ _ => rfl⟩, fun g => absurd rfl g⟩
  · rw [if_neg c, if_neg (fun g => c g.1)]
    exact ⟨fun _ => ⟨_, rfl, rfl, hX, fun _ _ => rfl⟩, fun g => absurd rfl g⟩
theorem cx_refresh {scr : Nat × (Nat → Int32)} {d : Nat} {band : Int} {W : wd} {S : sk_S} (hX : CX band W S) :
    EE scr (d + 2) 17 0 [some (.ref 0)] S (pI fun x S' => x = (wd_refresh W).1 ∧ CX band (wd_refresh W).2 S' ∧ FA S S') := by
  refine Ev.good fun hS => st_17_0 ?_
  have e55 : S 55 0 = W.2.2.1 0 0 := hX.2.2.2.1.1
  have rx : rg (S 55 0) := hS _ _
  rw [e55] at rx ⊢
  have key : EE scr (d + 1) 149 0 [some (.ref 62), some (.ref 2), some (vi (W.2.2.1 0 0)), none] S (pV fun S' => S' 62 0 = W.2.2.1 0 0 ∧ (∀ s, s < 2 → ∀ p, p < 1000 → S' (64 + s) p = S (4 + s) p) ∧ Fr 62 65 S S') := by
    refine st_149_0 rx ?_
    have loop : ∀ (f t : Nat) (T : sk_S), t + f = 2 → (∀ s, s < t → ∀ p, p < 1000 → T (64 + s) p = S (4 + s) p) → (∀ k, (k < 64 ∨ 65 < k) → T k = S k) → EE scr (d + 1) 149 2 [some (.ref 62), some (.ref 2), some (vi (W.2.2.1 0 0)), some (vi t)] T (pV fun S' => S' 62 0 = W.2.2.1 0 0 ∧ (∀ s, s < 2 → ∀ p, p < 1000 → S' (64 + s) p = S (4 + s) p) ∧ Fr 62 65 S S') := by
      intro f
      induction f with
      | zero =>
        intro t T ht h1 h2
        refine st_149_2 rx (rg_n (by omega)) ⟨fun _ S2 q2 => ⟨rfl, by rw [q2, sk_u_at], fun s hs p hp => by rw [q2, sk_u_ne (by omega)]; exact h1 s (by omega) p hp, fun k hk => by rw [q2, sk_u_ne (by omega)]; exact h2 k (by omega)⟩, fun g => by omega⟩
      | succ f ih =>
        intro t T ht h1 h2
        refine st_149_2 rx (rg_n (by omega)) ⟨fun g => by omega, fun _ => ⟨by omega, by omega, fun S5 q5 => ?_⟩⟩
        simp only [Int.toNat_natCast] at q5
        refine ih (t + 1) S5 (by omega) (fun s hs p hp => ?_) (fun k hk => by rw [q5, sk_r_ne (by omega)]; exact h2 k hk)
        by_cases e : s = t
        · subst e
          rw [q5, sk_r_at, cp_get, if_pos hp, h2 (4 + s) (by omega)]
        · rw [q5, sk_r_ne (by omega)]
          exact h1 s (by omega) p hp
    exact loop 2 0 S (by omega) (fun s hs => by omega) (fun _ _ => rfl)
  refine key.V fun S1 _ h1 => ?_
  obtain ⟨a1, a2, a3⟩ := h1
  refine ⟨_, rfl, a1, ⟨?_, hX.2.1.frame (a3 60 (by omega)) (a3 61 (by omega)), hX.2.2.1.frame (fun k _ _ => a3 k (by omega)), hX.2.2.2.1.frame (fun k _ _ => a3 k (by omega)), ⟨a1, fun s hs p hp => ?_⟩, by rw [a3 1 (by omega)]; exact hX.2.2.2.2.2⟩, fun k hk => a3 k (by omega)⟩
  · exact hX.1.cells (hX.1.1.frame fun k _ _ => a3 k (by omega)) (fun k hk => a3 k (by omega)) (fun _ => rfl) (fun _ => rfl) (fun _ => rfl)
  · rw [a2 s hs p hp, hX.1.2.1 s hs p hp]
    show _ = if 1 + s = 0 then _ else ab_lev W.1 (1 + s - 1) p
    rw [if_neg (by omega), Nat.add_sub_cancel_left]
theorem cx_take {scr : Nat × (Nat → Int32)} {d : Nat} {band x c : Int} {W : wd} {S : sk_S} (hX : CX band W S) (hW : WW c W) (hc : c ≤ 600) (hx : rg x) :
    EE scr (d + 3) 16 0 [some (.ref 0), some (vi x)] S (pI fun y S' => y = (wd_take W x).1 ∧ CX band (wd_take W x).2 S' ∧ FA S S') := by
  obtain ⟨-, -, ⟨hf0, hf1, hf2⟩⟩ := hW
  have e55 : S 55 0 = W.2.2.1 0 0 := hX.2.2.2.1.1
  have e62 : S 62 0 = W.2.2.2 0 0 := hX.2.2.2.2.1.1
  have keeps : EE scr (d + 1) 103 0 [some (.ref 55), some (vi x)] S (pI fun y S' => S' = S ∧ y = if 0 ≤ x ∧ x < W.2.2.1 0 0 ∧ W.2.2.1 0 0 - 64 ≤ x then 1 else 0) := by
    refine st_103_0 hx ?_
    rw [e55]
    exact ⟨fun g => ⟨_, rfl, rfl, by rw [if_neg (by omega)]⟩, fun g => ⟨fun g2 => ⟨_, rfl, rfl, by rw [if_neg (by omega)]⟩, fun g2 => ⟨rg_b (by omega) (by omega), fun g3 => ⟨_, rfl, rfl, by rw [if_neg (by omega)]⟩, fun g3 => ⟨_, rfl, rfl, by rw [if_pos (by omega)]⟩⟩⟩⟩
  have key : EE scr (d + 2) 148 0 [some (.ref 62), some (.ref 55), some (vi x), none] S (pI fun y S' => y = (wd_take W x).1 ∧ CX band (wd_take W x).2 S' ∧ FA S S') := by
    refine st_148_0 hx ?_
    refine keeps.I fun y S1 _ _ hy _ => ?_
    obtain ⟨rfl, rfl⟩ := hy
    unfold wd_take
    by_cases k : 0 ≤ x ∧ x < W.2.2.1 0 0 ∧ W.2.2.1 0 0 - 64 ≤ x
    · rw [if_pos k, if_pos k, e62]
      refine ⟨fun _ => ⟨fun g => ?_, fun g => ⟨fun g2 => ⟨_, rfl, ?_⟩, fun g2 => ⟨_, rfl, ?_⟩⟩⟩, fun g => by omega⟩
      · rw [if_pos g]
        refine (sp_slot hx k.1).I fun y S8 _ _ hy _ => ?_
        obtain ⟨rfl, rfl⟩ := hy
        have hj : (x % 64).toNat < 64 := by omega
        obtain ⟨b1, b2, b3⟩ := hX.2.2.2.1.2 _ hj
        obtain ⟨d1, d2, d3⟩ := hf1 _ hj
        rw [b1, b2, b3]
        refine ⟨by omega, by omega, by omega, by omega, d2, d3, fun S13 q13 => ?_⟩
        have e62' : S13 62 0 = W.2.2.2 0 0 := by rw [q13, sk_u_ne (by omega)]; exact e62
        rw [e62']
        refine ⟨rg_b (by omega) (by omega), fun S16 q16 => ⟨_, rfl, rfl, ?_, fun q hq => by rw [q16, sk_u_ne (by omega), q13, sk_u_ne (by omega)]⟩⟩
        have fr : Fr 62 65 S8 S16 := by
          rw [q16, q13]
          exact (Fr.u (by omega) (by omega)).trans (Fr.u (by omega) (by omega))
        refine ⟨hX.1.cells (hX.1.1.frame fun k _ _ => fr k (by omega)) (fun k hk => fr k (by omega)) (fun _ => rfl) (fun _ => rfl) (fun _ => rfl), hX.2.1.frame (fr 60 (by omega)) (fr 61 (by omega)), hX.2.2.1.frame (fun k _ _ => fr k (by omega)), hX.2.2.2.1.frame (fun k _ _ => fr k (by omega)), ⟨?_, fun s hs p hp => ?_⟩, by rw [fr 1 (by omega)]; exact hX.2.2.2.2.2⟩
        · dsimp only
          rw [q16, sk_u_at, sk_u_at]
        · dsimp only
          rw [q16, sk_u_ne (by omega), q13, sk_u_get, sk_u_ne (k := 0) (by omega), sk_u_get]
          by_cases e : s = (W.2.2.1 1 (x % 64).toNat).toNat ∧ p = (W.2.2.1 2 (x % 64).toNat).toNat
          · rw [if_pos (by omega), if_pos (by omega)]
          · rw [if_neg (by omega), if_neg (by omega)]
            exact hX.2.2.2.2.1.2 s hs p hp
      · rw [if_neg g, if_pos g2]
        exact ⟨rfl, hX, fun _ _ => rfl⟩
      · rw [if_neg g, if_neg g2]
        exact ⟨rfl, hX, fun _ _ => rfl⟩
    · rw [if_neg k, if_neg k]
      exact ⟨fun g => absurd rfl g, fun _ => ⟨_, rfl, rfl, hX, fun _ _ => rfl⟩⟩
  refine st_16_0 hx ?_
  exact key.I fun y S1 _ _ hy _ => ⟨_, rfl, hy⟩
