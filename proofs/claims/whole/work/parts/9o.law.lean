/-! 9o.law: the law's loop -/
theorem CX.fb {band : Int} {W : wd} {S S' : sk_S} (h : CX band W S) (f : FB S S') : CX band W S' :=
  ⟨⟨h.1.1.frame (fun k _ _ => f k (by omega)), h.1.2.1.frame (fun k _ => f k (by omega)) (fun _ _ => rfl), h.1.2.2.frame (fun k _ => f k (by omega))⟩, h.2.1.frame (f 60 (by omega)) (f 61 (by omega)), h.2.2.1.frame (fun k _ _ => f k (by omega)), h.2.2.2.1.frame (fun k _ _ => f k (by omega)), h.2.2.2.2.1.frame (fun k _ _ => f k (by omega)), by rw [f 1 (by omega)]; exact h.2.2.2.2.2⟩
theorem MX.fa {band b : Int} {W : wd} {S S' : sk_S} (h : MX band b W S) (f : FA S S') : MX band b W S' :=
  ⟨h.1.cells (fun q _ _ => f q (by omega)) (by rw [f 66 (by omega)]), h.2.1.frame (fun q _ _ _ => f q (by omega)), h.2.2.1.cells (f 76 (by omega)) (by rw [f 66 (by omega)]), h.2.2.2.1.frame (by rw [f 66 (by omega)]) (f 82 (by omega)) (f 83 (by omega)), ⟨by rw [f 66 (by omega)]; exact h.2.2.2.2.1.1, fun s hs p hp => by rw [f 81 (by omega)]; exact h.2.2.2.2.1.2 s hs p hp⟩, by rw [f 66 (by omega)]; exact h.2.2.2.2.2⟩
theorem lw_pair {scr : Nat × (Nat → Int32)} {d mi mj : Nat} {L L' : List (Option Value)} {S : sk_S} {Post : Option Int → sk_S → Prop} {Go : sk_S → Prop} {band b b' r : Int} {W W' : wd}
    (hX : MX band b W S) (h1 : EE scr d mi 0 L S (pI fun x S' => x = r ∧ CX band W' S' ∧ FA S S')) (h2 : ∀ S1, MX band b W S1 → EE scr d mj 0 L' S1 (pI fun x S' => x = r ∧ MX band b' W' S' ∧ FB S1 S')) (hk : ∀ S2, CX band W' S2 → MX band b' W' S2 → Go S2) :
    EE scr d mi 0 L S (pI fun y4 S3 => rg y4 → (EE scr d mj 0 L' S3 (pI fun y9 S8 => rg y9 → (((y4 = y9 → Go S8) ∧ (¬ y4 = y9 → (Post (some 0) S8))))))) := by
  refine h1.I fun y S1 _ _ hy _ => ?_
  obtain ⟨e1, a1, a2⟩ := hy
  refine (h2 S1 (hX.fa a2)).I fun z S2 _ _ hz _ => ?_
  obtain ⟨e2, c1, c2⟩ := hz
  exact ⟨fun _ => hk S2 (a1.fb c2) c1, fun g => absurd (e1.trans e2.symm) g⟩
def one1 : Option Int → sk_S → Prop := fun r _ => r = some 1
theorem law_loop {scr : Nat × (Nat → Int32)} {d : Nat} {band : Int} (hn : scr.1 ≤ 3074) : ∀ (m k : Nat) (x b : Int) (W : wd) (S : sk_S), m + k = 513 → x = 2 + 6 * k → b ≤ 50000 * k → CX band W S → MX band b W S → WW k W →
    EE scr (d + 8) 0 38 [some (.retAddr 0), some (.ref 0), some (.ref 66), some (vi x)] S one1 := by
  intro m
  induction m with
  | zero =>
    intro k x b W S hm hx hb hC hM hW
    refine st_0_38 (by unfold rg; omega) (by omega) ?_
    exact ⟨by unfold rg; omega, fun _ => rfl, fun g => by omega⟩
  | succ m ih =>
    intro k x b W S hm hx hb hC hM hW
    have hc : (k : Int) ≤ 600 := by omega
    have hc0 : (0 : Int) ≤ k := by omega
    have hb2 : b < 2100000000 := by omega
    have go : ∀ (b' : Int) (W' : wd) (S2 : sk_S), b' ≤ 50000 * k + 50000 → WW ((k : Int) + 1) W' → CX band W' S2 → MX band b' W' S2 → EE scr (d + 8) 0 38 [some (.retAddr 0), some (.ref 0), some (.ref 66), some (vi (x + 6))] S2 one1 := fun b' W' S2 h1 h2 h3 h4 => ih (k + 1) (x + 6) b' W' S2 (by omega) (by omega) (by omega) h3 h4 h2
    have r : ∀ j, rg (scr.2 j).toInt := fun j => rg_i32 _
    have hW1 : WW ((k : Int) + 1) W := hW.le (by omega)
    have hbe : b + 50000 ≤ 50000 * k + 50000 := by omega
    have hb0 : b ≤ 50000 * k + 50000 := by omega
    refine st_0_38 (d := d + 7) (by unfold rg; omega) (by omega) ?_
    refine ⟨by unfold rg; omega, fun _ => rfl, fun g => ⟨by omega, by omega, fun _ => go b W S hb0 hW1 hC hM, fun _ => ⟨by omega, by omega, by omega, by omega, ?_⟩, fun _ => ⟨by omega, by omega, by omega, by omega, by omega, by omega, by omega, by omega, by omega, by omega, ?_⟩, fun _ => ⟨by omega, by omega, by omega, by omega, by omega, by omega, ?_⟩, fun _ => ⟨by omega, by omega, by omega, by omega, by omega, by omega, by omega, by omega, by omega, by omega, ?_⟩, fun _ => ⟨by omega, by omega, ?_⟩, fun _ => ?_, fun _ => ?_, fun _ => ⟨by omega, by omega, ?_⟩, fun _ => ⟨by omega, by omega, by omega, by omega, ?_⟩, fun _ => ⟨by omega, by omega, ?_⟩, fun _ => ⟨by omega, by omega, by omega, by omega, ?_⟩, fun _ => ⟨by omega, by omega, by omega, by omega, ?_⟩, fun _ => ⟨by omega, by omega, by omega, by omega, by omega, by omega, ?_⟩, fun _ => ?_, fun _ => ⟨by omega, by omega, ?_⟩, fun _ => ?_, fun _ => ⟨by omega, by omega, by omega, by omega, ?_⟩, fun _ => ?_⟩⟩
    · exact lw_pair (Post := one1) hM (cx_extra hC (r _) (r _)) (fun S1 h => mx_extra h hW (r _) (r _)) (fun S2 => go _ _ S2 hbe (ww_extra hW (r _)))
    · exact lw_pair (Post := one1) hM (cx_order hC hW hc (r _) (r _) (r _) (r _) (r _)) (fun S1 h => mx_order h hW hc hb2 (r _) (r _) (r _) (r _) (r _)) (fun S2 => go _ _ S2 hbe (ww_order hW hc0 (r _)))
    · exact lw_pair (Post := one1) hM (cx_cancel hC hW hc (r _) (r _) (r _)) (fun S1 h => mx_cancel h hW hc hb2 (r _) (r _) (r _)) (fun S2 => go _ _ S2 hbe (ww_cancel hW hc0))
    · exact lw_pair (Post := one1) hM (cx_repl hC hW hc (r _) (r _) (r _) (r _) (r _)) (fun S1 h => mx_repl h hW hc hb2 (r _) (r _) (r _) (r _) (r _)) (fun S2 => go _ _ S2 hbe (ww_repl hW hc0))
    · exact lw_pair (Post := one1) hM (cx_phase hC hW hc (r _)) (fun S1 h => mx_phase h hW hc hb2 (r _)) (fun S2 => go _ _ S2 hbe (ww_phase hW hc0))
    · exact lw_pair (Post := one1) hM (cx_save hC hW) (fun S1 h => mx_save h hW) (fun S2 => go _ _ S2 hbe (ww_save hW))
    · exact lw_pair (Post := one1) hM (cx_crash hC hW hc) (fun S1 h => mx_crash h hW hc) (fun S2 => go _ _ S2 hbe (ww_crash hW))
    · exact lw_pair (Post := one1) hM (cx_market hC hW (r _)) (fun S1 h => mx_market h hW (r _)) (fun S2 => go _ _ S2 hb0 hW1)
    · exact lw_pair (Post := one1) hM (cx_shown hC (r _) (r _)) (fun S1 h => mx_shown h hW (r _) (r _)) (fun S2 => go _ _ S2 hb0 hW1)
    · exact lw_pair (Post := one1) hM (cx_best hC hW (r _)) (fun S1 h => mx_best h hW (r _)) (fun S2 => go _ _ S2 hb0 hW1)
    · exact lw_pair (Post := one1) hM (cx_about hC hW (r _) (r _)) (fun S1 h => mx_about h hW (r _) (r _)) (fun S2 => go _ _ S2 hb0 hW1)
    · exact lw_pair (Post := one1) hM (cx_session hC (r _) (r _)) (fun S1 h => mx_session h (r _) (r _)) (fun S2 => go _ _ S2 hb0 hW1)
    · exact lw_pair (Post := one1) hM (cx_report hC (r _) (r _) (r _)) (fun S1 h => mx_report h hW hc (r _) (r _) (r _)) (fun S2 => go _ _ S2 hb0 hW1)
    · exact lw_pair (Post := one1) hM (cx_feed hC) (fun S1 h => mx_feed h) (fun S2 => go _ _ S2 hb0 hW1)
    · exact lw_pair (Post := one1) hM (cx_take hC hW hc (r _)) (fun S1 h => mx_take h hW hc (r _)) (fun S2 => go _ _ S2 hbe (ww_take hW))
    · exact lw_pair (Post := one1) hM (cx_refresh hC) (fun S1 h => mx_refresh h hW hc) (fun S2 => go _ _ S2 hbe (ww_refresh hW))
    · exact lw_pair (Post := one1) hM (cx_seen hC (r _) (r _)) (fun S1 h => mx_seen h (r _) (r _)) (fun S2 => go _ _ S2 hb0 hW1)
    · exact lw_pair (Post := one1) hM (cx_next hC) (fun S1 h => mx_next h) (fun S2 => go _ _ S2 hb0 hW1)
