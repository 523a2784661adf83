/-! 9r.begin: the law from its first instruction -/
def cellv (scr : Nat × (Nat → Int32)) (k : Nat) : Int := if k < scr.1 then (scr.2 k).toInt else 0
theorem cellv_rg {scr : Nat × (Nat → Int32)} {k : Nat} : rg (cellv scr k) := by
  unfold cellv
  split
  · exact rg_i32 _
  · exact rg_0
theorem go_cell {scr : Nat × (Nat → Int32)} {d k : Nat} {σ : ma_S} (hk : k < 65536) (hn : scr.1 ≤ 65536) : Go scr d 150 (0, [some (.retAddr 0), some (vi k)], [], σ, 0, 0) (some (vi (cellv scr k)), σ, 0, 0) := by
  refine go_iload_n (pc := 0) rfl rfl (go_sload_n (pc := 1) rfl rfl ?_)
  refine go_one (f := (2, [some (.retAddr 0), some (vi k)], [.retAddr 0, vi k], σ, 0, 0)) (f' := (3, [some (.retAddr 0), some (vi k)], [vi scr.1, vi k], σ, 0, 0)) ?_ rfl rfl rfl (by unfold vi; rw [Int32.ofInt_eq_ofNat]; rfl)
  have e : (Int32.ofInt (scr.1 : Int) ≤ Int32.ofInt (k : Int)) ↔ ((scr.1 : Int) ≤ k) := rg_le (rg_sc hn) (rg_sc (by omega))
  by_cases h : k < scr.1
  · have hv : cellv scr k = (scr.2 k).toInt := by unfold cellv; rw [if_pos h]
    rw [hv]
    refine go_one (f := (3, [some (.retAddr 0), some (vi k)], [vi scr.1, vi k], σ, 0, 0)) (f' := (6, [some (.retAddr 0), some (vi k)], [], σ, 0, 0)) ?_ rfl rfl rfl ?_
    · refine go_sload_n (pc := 6) rfl rfl (go_iload_n (pc := 7) rfl rfl ?_)
      refine go_one (f := (8, [some (.retAddr 0), some (vi k)], [vi k, .retAddr 0], σ, 0, 0)) (f' := (9, [some (.retAddr 0), some (vi k)], [vi (scr.2 k).toInt], σ, 0, 0)) ?_ rfl rfl rfl ?_
      · refine go_one (f := (9, [some (.retAddr 0), some (vi k)], [vi (scr.2 k).toInt], σ, 0, 0)) (f' := (13, [some (.retAddr 0), some (vi k)], [vi (scr.2 k).toInt], σ, 0, 0)) ?_ rfl rfl rfl rfl
        exact go_iret (pc := 13) rfl
      · obtain ⟨hr, ho⟩ := rg_out (i := (k : Int)) (n := scr.1) (by omega) (by omega) hn
        simp only [ma_one, ho]
        rw [if_neg (by decide), rg_nat hr]
        unfold vi
        rw [Int32.ofInt_toInt]
        rfl
    · show ma_br (3, [some (.retAddr 0), some (vi k)], [vi scr.1, vi k], σ, 0, 0) (decide (Int32.ofInt (scr.1 : Int) ≤ Int32.ofInt (k : Int))) 9 [] = _
      rw [ma_br_at (t := 12) rfl, if_neg (by rw [decide_eq_true_eq]; exact fun g => by have := e.mp g; omega)]
  · have hv : cellv scr k = 0 := by unfold cellv; rw [if_neg h]
    rw [hv]
    refine go_one (f := (3, [some (.retAddr 0), some (vi k)], [vi scr.1, vi k], σ, 0, 0)) (f' := (12, [some (.retAddr 0), some (vi k)], [], σ, 0, 0)) ?_ rfl rfl rfl ?_
    · exact go_iconst (pc := 12) rfl (go_iret (pc := 13) rfl)
    · show ma_br (3, [some (.retAddr 0), some (vi k)], [vi scr.1, vi k], σ, 0, 0) (decide (Int32.ofInt (scr.1 : Int) ≤ Int32.ofInt (k : Int))) 9 [] = _
      rw [ma_br_at (t := 12) rfl, if_pos (decide_eq_true (e.mpr (by omega)))]
theorem ev_go {scr : Nat × (Nat → Int32)} {d mi pc : Nat} {L : List (Option Value)} {S : sk_S} {Post : Option Int → sk_S → Prop} (h : EE scr d mi pc L S Post) (hS : ∀ k j, rg (S k j)) : ∃ (r : Option Int) (S' : sk_S), (∀ k j, rg (S' k j)) ∧ Post r S' ∧ ∀ c s : Nat, Go scr d mi (pc, L, [], sk_e S 0 KK, c, s) (r.map vi, sk_e S' 0 KK, c, s) := by
  obtain ⟨n, r, S', h1, h2, h3, h4⟩ := h hS
  exact ⟨r, S', h2, h4, fun c s => ⟨n, h1 c s⟩⟩
theorem ski_rg {g : Nat → Int} {i : Nat} {v : Int} (hg : ∀ j, rg (g j)) (hv : rg v) : ∀ j, rg (sk_i g i v j) := by
  intro j
  unfold sk_i
  split
  · exact hv
  · exact hg j
theorem z0_rg : ∀ j, rg (z0 j) := fun _ => rg_0
theorem S0_rg {f b : Int} (hf : rg f) (hb : rg b) : ∀ k j, rg (S0 f b k j) := by
  intro k j
  unfold S0
  by_cases h1 : k = 1
  · rw [if_pos h1]
    by_cases h : j = 0
    · rw [if_pos h]; exact hb
    · rw [if_neg h]; exact rg_0
  · rw [if_neg h1]
    by_cases h2 : k = 6
    · rw [if_pos h2]
      exact ski_rg (ski_rg z0_rg (rg_c 1000 rfl)) (rg_c 1000 rfl) j
    · rw [if_neg h2]
      by_cases h3 : k = 9 ∨ k = 32
      · rw [if_pos h3]
        by_cases h : j = 1 ∨ j = 2
        · rw [if_pos h]; exact hf
        · rw [if_neg h]; exact rg_0
      · rw [if_neg h3]
        by_cases h4 : k = 24 ∨ k = 47
        · rw [if_pos h4]
          exact ski_rg (ski_rg (ski_rg (ski_rg z0_rg (rg_c 1 rfl)) (rg_c 1 rfl)) (rg_c 1 rfl)) (rg_c 1 rfl) j
        · rw [if_neg h4]
          exact rg_0
def X66 (f b : Int) : ma_S := sk_e (S0 f b) 0 (KK.take 66)
set_option maxRecDepth 100000 in
theorem law_go {scr : Nat × (Nat → Int32)} (hn : scr.1 ≤ 3074) : ∃ σ', Go scr 8 0 (0, [some (.retAddr 0), none, none, none], [], [], 0, 0) (some (vi 1), σ', 84, 21499) := by
  have hx : rg (cellv scr 0) := cellv_rg
  have hy : rg (cellv scr 1) := cellv_rg
  obtain ⟨f, hf⟩ : ∃ f, f = max 1 (min 999 (cellv scr 0)) := ⟨_, rfl⟩
  obtain ⟨b, hb⟩ : ∃ b, b = max 1 (min 999 (cellv scr 1)) := ⟨_, rfl⟩
  have hf1 : 1 ≤ f ∧ f ≤ 999 := by omega
  have hb1 : 1 ≤ b ∧ b ≤ 999 := by omega
  obtain ⟨r1, S1, g1, ⟨e1, hc⟩, k1⟩ := ev_go (rp_init (scr := scr) (d := 6) hx hy hf hb) (S0_rg (by unfold rg; omega) (by unfold rg; omega))
  subst e1
  obtain ⟨hM, hFB⟩ := mx_0 hc
  have hC := (cx_0 (f := f) (b := b)).fb hFB
  obtain ⟨r2, S2, g2, e2, k2⟩ := ev_go (law_loop (d := 0) hn 513 0 2 0 (W0 f) S1 (by omega) (by omega) (by omega) hC hM (ww_0 hf1)) g1
  have e3 : r2 = some 1 := e2
  subst e3
  clear e2 hC hFB hM hc
  subst hf
  subst hb
  refine ⟨sk_e S2 0 KK, ?_⟩
  refine go_new (pc := 0) (bs := [false, false, false, false]) (a := 0) (σ' := [oc 0 [.null, .null, .null, .null]]) rfl (by decide +kernel) rfl rfl rfl ?_
  refine go_dup (pc := 3) rfl (go_sload_n (pc := 4) rfl rfl (go_iconst (pc := 5) rfl ?_))
  refine go_call (pc := 6) (as := [.retAddr 0, vi 0]) (st := [.ref 0, .ref 0]) rfl rfl rfl rfl rfl (of_decide_eq_true rfl) (of_decide_eq_true rfl) rfl rfl (go_cell (k := 0) (by omega) (by omega)) ?_
  refine go_sload_n (pc := 9) rfl rfl (go_iconst (pc := 10) rfl ?_)
  refine go_call (pc := 11) (as := [.retAddr 0, vi 1]) (st := [vi (cellv scr 0), .ref 0, .ref 0]) rfl rfl rfl rfl rfl (of_decide_eq_true rfl) (of_decide_eq_true rfl) rfl rfl (go_cell (k := 1) (by omega) (by omega)) ?_
  refine go_call (pc := 14) (as := [.ref 0, vi (cellv scr 0), vi (cellv scr 1)]) (st := [.ref 0]) (σ' := X66 (max 1 (min 999 (cellv scr 0))) (max 1 (min 999 (cellv scr 1)))) rfl rfl rfl rfl rfl (of_decide_eq_true rfl) (of_decide_eq_true rfl) rfl rfl (ct_1 (σ := []) (k := 0) rfl hx hy) ?_
  refine go_astore_n (pc := 17) (L' := [some (.retAddr 0), some (.ref 0), none, none]) rfl (of_decide_eq_true rfl) rfl ?_
  refine go_new (pc := 18) (bs := [true, false, false, false, false, false, false, false, false, false, false, true, false, false, false, true, true, true, false, false, false, false, true, true]) (a := 66) (σ' := X66 (max 1 (min 999 (cellv scr 0))) (max 1 (min 999 (cellv scr 1))) ++ [oc 9 [vi 0, .null, .null, .null, .null, .null, .null, .null, .null, .null, .null, vi 0, .null, .null, .null, vi 0, vi 0, vi 0, .null, .null, .null, .null, vi 0, vi 0]]) rfl (by decide +kernel) rfl rfl rfl ?_
  refine go_dup (pc := 21) rfl (go_sload_n (pc := 22) rfl rfl (go_iconst (pc := 23) rfl ?_))
  refine go_call (pc := 24) (as := [.retAddr 0, vi 0]) (st := [.ref 66, .ref 66]) rfl rfl rfl rfl rfl (of_decide_eq_true rfl) (of_decide_eq_true rfl) rfl rfl (go_cell (k := 0) (by omega) (by omega)) ?_
  refine go_sload_n (pc := 27) rfl rfl (go_iconst (pc := 28) rfl ?_)
  refine go_call (pc := 29) (as := [.retAddr 0, vi 1]) (st := [vi (cellv scr 0), .ref 66, .ref 66]) rfl rfl rfl rfl rfl (of_decide_eq_true rfl) (of_decide_eq_true rfl) rfl rfl (go_cell (k := 1) (by omega) (by omega)) ?_
  refine go_call (pc := 32) (as := [.ref 66, vi (cellv scr 0), vi (cellv scr 1)]) (st := [.ref 66]) (σ' := sk_e S1 0 KK) rfl rfl rfl rfl rfl (of_decide_eq_true rfl) (of_decide_eq_true rfl) rfl rfl (ct_31 (σ := X66 (max 1 (min 999 (cellv scr 0))) (max 1 (min 999 (cellv scr 1)))) (k := 66) rfl (k1 _ _)) ?_
  refine go_astore_n (pc := 35) (L' := [some (.retAddr 0), some (.ref 0), some (.ref 66), none]) rfl (of_decide_eq_true rfl) rfl ?_
  refine go_iconst (pc := 36) rfl ?_
  refine go_istore_n (pc := 37) (L' := [some (.retAddr 0), some (.ref 0), some (.ref 66), some (vi 2)]) rfl (of_decide_eq_true rfl) rfl ?_
  exact k2 _ _
