/-! 98.world: the market, its saved state, the feed and the subscriber together; what each call answers and leaves -/
abbrev wd : Type := ab × ab × sk_S × sk_S
def wd_fin (band : Int) (W : wd) (A : ab) (x : Int) : Int × wd := (x, (ab_stops band 40 A, W.2.1, fd_pub (ab_lv W.1) (ab_lv (ab_stops band 40 A)) W.2.2.1, W.2.2.2))
def wd_order (band : Int) (W : wd) (s n w q p : Int) : Int × wd :=
  if (ab_hear W.1 s n).1 = 0 then (if ab_ok (ab_hear W.1 s n).2 s w q p = true then wd_fin band W (ab_order band (ab_hear W.1 s n).2 s w q p) (ab_n W.1) else wd_fin band W (ab_rej (ab_hear W.1 s n).2 s) (-4)) else ((ab_hear W.1 s n).1, W)
def wd_cancel (band : Int) (W : wd) (s n o : Int) : Int × wd :=
  if (ab_hear W.1 s n).1 = 0 then (if ab_mayC (ab_hear W.1 s n).2 (ab_n W.1) s.toNat o = true then wd_fin band W (ab_drop (ab_hear W.1 s n).2 o.toNat) 0 else wd_fin band W (ab_rej (ab_hear W.1 s n).2 s) (-4)) else ((ab_hear W.1 s n).1, W)
def wd_repl (band : Int) (W : wd) (s n o q p : Int) : Int × wd :=
  if (ab_hear W.1 s n).1 = 0 then (if ab_mayR (ab_hear W.1 s n).2 (ab_n W.1) s.toNat o q p = true then wd_fin band W (ab_repl band (ab_hear W.1 s n).2 o.toNat q p) 0 else wd_fin band W (ab_rej (ab_hear W.1 s n).2 s) (-4)) else ((ab_hear W.1 s n).1, W)
def wd_phase (band : Int) (W : wd) (v : Int) : Int × wd := if ab_may (W.1.1 8 1) v = true then wd_fin band W (ab_step W.1 v) 1 else (0, W)
def wd_extra (W : wd) (s v : Int) : Int × wd := if 0 ≤ s ∧ s < 4 then (W.1.1 10 s.toNat, (ab_u W.1 10 s.toNat v, W.2)) else (-1, W)
def wd_save (W : wd) : Int × wd := (W.1.1 8 0, (W.1, W.1, W.2.2))
def wd_crash (W : wd) : Int × wd := (W.2.1.1 8 0, (W.2.1, W.2.1, fd_pub (ab_lv W.1) (ab_lv W.2.1) W.2.2.1, W.2.2.2))
def wd_market (W : wd) (k : Int) : Int :=
  if k = 0 then W.1.1 8 1 else if k = 1 then W.1.1 8 2 else if k = 2 then W.1.1 8 3 else if k = 3 then ab_open W.1 else if k = 4 then (ab_weigh W.1).1 else if k = 5 then (ab_weigh W.1).2.1 else if k = 6 then (ab_weigh W.1).2.2 else -1
def wd_shown (W : wd) (s p : Int) : Int := if (s = 0 ∨ s = 1) ∧ 1 ≤ p ∧ p ≤ 999 then ab_lev W.1 s.toNat p else 0
def ab_top (A : ab) (s : Nat) : Int := match A.2 s with
  | [] => 0
  | b :: _ => A.1 5 b
def wd_best (W : wd) (s : Int) : Int := if s = 0 ∨ s = 1 then ab_top W.1 s.toNat else 0
def ab_pos (i : Nat) : List Nat → Nat
  | [] => 0
  | j :: l => if j = i then 0 else ab_pos i l + 1
def wd_about (W : wd) (o k : Int) : Int :=
  if 0 ≤ o ∧ o < ab_n W.1 then (if k = 0 then W.1.1 3 o.toNat else if k = 1 then W.1.1 4 o.toNat else if k = 2 then (if W.1.1 3 o.toNat = 0 then 0 else W.1.1 5 o.toNat) else if k = 3 then W.1.1 7 o.toNat else if k = 4 then W.1.1 0 o.toNat else if k = 5 then (if W.1.1 3 o.toNat = 1 then (ab_pos o.toNat (W.1.2 (ab_sd W.1 o.toNat)) : Int) else -1) else -1) else -1
def wd_session (W : wd) (s k : Int) : Int := if 0 ≤ s ∧ s < 4 then (if k = 0 then W.1.1 9 s.toNat else if k = 1 then W.1.1 11 s.toNat else -1) else -1
def wd_report (W : wd) (s b k : Int) : Int := if 0 ≤ s ∧ s < 4 ∧ 0 ≤ k ∧ k < 4 ∧ 0 ≤ b ∧ b < 32 ∧ b < W.1.1 11 s.toNat then W.1.1 (12 + s.toNat) ((W.1.1 11 s.toNat - 1 - b) % 32 * 4 + k).toNat else -1
def wd_take (W : wd) (x : Int) : Int × wd :=
  if 0 ≤ x ∧ x < W.2.2.1 0 0 ∧ W.2.2.1 0 0 - 64 ≤ x then (if x = W.2.2.2 0 0 then (1, (W.1, W.2.1, W.2.2.1, sk_u (sk_u W.2.2.2 (1 + (W.2.2.1 1 (x % 64).toNat).toNat) (W.2.2.1 2 (x % 64).toNat).toNat (W.2.2.1 3 (x % 64).toNat)) 0 0 (W.2.2.2 0 0 + 1))) else if x ≤ W.2.2.2 0 0 then (0, W) else (-2, W)) else (-1, W)
def wd_refresh (W : wd) : Int × wd := (W.2.2.1 0 0, (W.1, W.2.1, W.2.2.1, fun k j => if k = 0 then (if j = 0 then W.2.2.1 0 0 else W.2.2.2 0 j) else ab_lev W.1 (k - 1) j))
def wd_seen (W : wd) (s p : Int) : Int := if (s = 0 ∨ s = 1) ∧ 1 ≤ p ∧ p ≤ 999 then W.2.2.2 (1 + s.toNat) p.toNat else 0
/-- the class's cells say the world -/
def SC (S G : sk_S) : Prop := S 62 0 = G 0 0 ∧ ∀ s, s < 2 → ∀ p, p < 1000 → S (64 + s) p = G (1 + s) p
theorem SC.frame {S S' G : sk_S} (h : SC S G) (hf : ∀ k, 62 ≤ k → k ≤ 65 → S' k = S k) : SC S' G := by
  refine ⟨by rw [hf 62 (by omega) (by omega)]; exact h.1, fun s hs p hp => ?_⟩
  rw [hf (64 + s) (by omega) (by omega)]
  exact h.2 s hs p hp
def CX (band : Int) (W : wd) (S : sk_S) : Prop := CI (ab_n W.1) S W.1 ∧ TD S (ab_lv W.1) ∧ RC 23 (ab_n W.2.1) S W.2.1 ∧ FC S W.2.2.1 ∧ SC S W.2.2.2 ∧ S 1 0 = band
/-- what a market is between calls: c calls were made -/
def WA (c : Int) (A : ab) : Prop := WS (ab_n A) 40 A ∧ rcB A (100000 * c) ∧ (∀ s, s < 4 → 0 ≤ A.1 9 s ∧ A.1 9 s ≤ c + 1) ∧ (∀ s, s < 4 → rg (A.1 10 s)) ∧ (∀ i, i < ab_n A → ¬ A.1 2 i = 5 → A.1 6 i = 1000) ∧ (A.1 8 1 = 0 → ab_open A = 0)
def WFd (c : Int) (F G : sk_S) : Prop := (0 ≤ F 0 0 ∧ F 0 0 ≤ 2000 * c) ∧ (∀ j, j < 64 → (F 1 j = 0 ∨ F 1 j = 1) ∧ 0 ≤ F 2 j ∧ F 2 j < 1000) ∧ (0 ≤ G 0 0 ∧ G 0 0 ≤ F 0 0)
def WW (c : Int) (W : wd) : Prop := WA c W.1 ∧ WA c W.2.1 ∧ WFd c W.2.2.1 W.2.2.2
theorem hear_0 {A : ab} {s n : Int} (h : (ab_hear A s n).1 = 0) : (0 ≤ s ∧ s < 4) ∧ (ab_hear A s n).2 = ab_u A 9 s.toNat (A.1 9 s.toNat + 1) := by
  unfold ab_hear at *
  by_cases c : 0 ≤ s ∧ s < 4
  · rw [if_pos c] at h ⊢
    refine ⟨c, ?_⟩
    by_cases c2 : n = A.1 9 s.toNat
    · rw [if_pos c2]
    · rw [if_neg c2] at h
      split at h <;> exact absurd h (by simp)
  · rw [if_neg c] at h
    exact absurd h (by simp)
theorem hear_n {A : ab} {s n : Int} (h : ¬ (ab_hear A s n).1 = 0) : (ab_hear A s n).2 = A := by
  unfold ab_hear at *
  by_cases c : 0 ≤ s ∧ s < 4
  · rw [if_pos c] at h ⊢
    by_cases c2 : n = A.1 9 s.toNat
    · rw [if_pos c2] at h
      exact absurd rfl h
    · rw [if_neg c2]
      split <;> rfl
  · rw [if_neg c]
theorem stops_n {N : Nat} {band B : Int} {A : ab} (h : WS N 40 A) (hB : rcB A B) : ab_n (ab_stops band 40 A) = N := (stops_ws 40 A B h hB).1.n
theorem CX.le {band : Int} {W : wd} {S S' : sk_S} (h : CX band W S) (h1 : CI (ab_n W.1) S' W.1) (h2 : Fr 2 31 S S') : CX band W S' :=
  ⟨h1, h.2.1.frame (h2 60 (by omega)) (h2 61 (by omega)), h.2.2.1.frame (fun k _ _ => h2 k (by omega)), h.2.2.2.1.frame (fun k _ _ => h2 k (by omega)), h.2.2.2.2.1.frame (fun k _ _ => h2 k (by omega)), by rw [h2 1 (by omega)]; exact h.2.2.2.2.2⟩
/-- the cells behind the class's are left -/
def FA (S S' : sk_S) : Prop := ∀ k, 65 < k → S' k = S k
theorem wd_end {band B : Int} {W : wd} {S S1 S' : sk_S} {A : ab} {N : Nat} {x : Int} (h : CX band W S) (hW : WS N 40 A) (hB : rcB A B) (f1 : Fr 2 31 S S1) (a1 : CI N S' (ab_stops band 40 A)) (a2 : TD S' (ab_lv (ab_stops band 40 A))) (a3 : FC S' (fd_pub (ab_lv W.1) (ab_lv (ab_stops band 40 A)) W.2.2.1)) (a4 : ∀ k, (k < 2 ∨ (31 < k ∧ k < 55) ∨ 61 < k) → S' k = S1 k) : CX band (wd_fin band W A x).2 S' ∧ FA S S' := by
  have hf : ∀ k, (k < 2 ∨ (31 < k ∧ k < 55) ∨ 61 < k) → S' k = S k := fun k hk => by rw [a4 k hk, f1 k (by omega)]
  refine ⟨⟨?_, a2, h.2.2.1.frame (fun k _ _ => hf k (by omega)), a3, h.2.2.2.2.1.frame (fun k _ _ => hf k (by omega)), by rw [hf 1 (by omega)]; exact h.2.2.2.2.2⟩, fun k hk => hf k (by omega)⟩
  show CI (ab_n (ab_stops band 40 A)) S' (ab_stops band 40 A)
  rw [stops_n hW hB]
  exact a1
theorem WS.hear {N : Nat} {m : Int} {A : ab} (h : WS N m A) {s : Nat} {v : Int} {r : Nat} (hr : 9 ≤ r) : WS N m (ab_u A r s v) := h.same (fun k hk i => u_ne (Or.inl (by omega))) (fun _ => rfl)
theorem CX.to {band : Int} {W W' : wd} {S S' : sk_S} (h : CX band W S) (h2 : W'.2 = W.2) (hC : CI (ab_n W'.1) S' W'.1) (hl : ab_lv W'.1 = ab_lv W.1) (fr : Fr 2 31 S S') : CX band W' S' := by
  refine ⟨hC, ?_, ?_, ?_, ?_, ?_⟩
  · rw [hl]
    exact h.2.1.frame (fr 60 (by omega)) (fr 61 (by omega))
  · rw [h2]
    exact h.2.2.1.frame (fun k _ _ => fr k (by omega))
  · rw [h2]
    exact h.2.2.2.1.frame (fun k _ _ => fr k (by omega))
  · rw [h2]
    exact h.2.2.2.2.1.frame (fun k _ _ => fr k (by omega))
  · rw [fr 1 (by omega)]
    exact h.2.2.2.2.2
theorem FA.of {S S' : sk_S} (fr : Fr 2 31 S S') : FA S S' := fun k hk => fr k (by omega)
theorem cx_extra {scr : Nat × (Nat → Int32)} {d : Nat} {band s v : Int} {W : wd} {S : sk_S} (hX : CX band W S) (hs : rg s) (hv : rg v) :
    EE scr (d + 1) 2 0 [some (.ref 0), some (vi s), some (vi v), none, none] S (pI fun x S' => x = (wd_extra W s v).1 ∧ CX band (wd_extra W s v).2 S' ∧ FA S S') := by
  refine st_2_0 hs hv ?_
  refine (sp_isSession hs).I fun y S1 _ _ hy _ => ?_
  obtain ⟨rfl, rfl⟩ := hy
  unfold wd_extra
  by_cases c : 0 ≤ s ∧ s < 4
  · rw [if_pos c, if_pos c]
    have e25 : S1 25 s.toNat = W.1.1 10 s.toNat := hX.1.1.2.2.2.1 1 (by omega) s.toNat (by omega)
    rw [e25]
    refine ⟨fun _ => ⟨c.1, c.2, fun S7 q7 => ⟨_, rfl, rfl, ?_, by rw [q7]; exact fun k hk => sk_u_ne (by omega)⟩⟩, fun g => by omega⟩
    have fr : Fr 2 31 S1 S7 := by rw [q7]; exact Fr.u (by omega) (by omega)
    have hn : ab_n (ab_u W.1 10 s.toNat v) = ab_n W.1 := by unfold ab_n; rw [u_ne (Or.inl (by omega))]
    have hC : CI (ab_n W.1) S7 (ab_u W.1 10 s.toNat v) := hX.1.cells (by rw [q7]; exact hX.1.1.ses (r := 1) (by omega) (by omega)) (fun k hk => by rw [q7, sk_u_ne (by omega)]) (fun _ => rfl) (fun j => u_ne (Or.inl (by omega))) (fun j => u_ne (Or.inl (by omega)))
    have hl : ab_lv (ab_u W.1 10 s.toNat v) = ab_lv W.1 := by
      funext t x
      exact lev_same (A := ab_u W.1 10 s.toNat v) (B := W.1) (fun _ => rfl) (fun j => u_ne (Or.inl (by omega))) (fun j => u_ne (Or.inl (by omega))) t x
    exact hX.to rfl (by show CI (ab_n (ab_u W.1 10 s.toNat v)) S7 _; rw [hn]; exact hC) hl fr
  · rw [if_neg c, if_neg c]
    exact ⟨fun g => absurd rfl g, fun _ => ⟨_, rfl, rfl, hX, fun _ _ => rfl⟩⟩
theorem cx_end {scr : Nat × (Nat → Int32)} {d N t : Nat} {band B x c : Int} {W : wd} {S S1 : sk_S} {A : ab} (hX : CX band W S) (hF : WFd c W.2.2.1 W.2.2.2) (hc : c ≤ 600) (ht : t < 4) (hC : CI N S1 A) (hW : WS N 40 A) (hB : rcB A B) (hB2 : B < 2146000000) (fr : Fr 2 31 S S1) (hx : rg x) (hx4 : ¬ x = -4) :
    EE scr (d + 5) 30 0 [some (.ref 0), some (vi t), some (vi x)] S1 (pI fun y S' => rg y → pI (fun x' S' => x' = (wd_fin band W A x).1 ∧ CX band (wd_fin band W A x).2 S' ∧ FA S S') (some y) S') := by
  have hF0 := hF.1
  refine (sp_endMsg (band := band) (F := W.2.2.1) (old := ab_lv W.1) (A' := ab_stops band 40 A) ht hx hC hW (by rw [fr 1 (by omega)]; exact hX.2.2.2.2.2) hB hB2 (hX.2.1.frame (fr 60 (by omega)) (fr 61 (by omega))) (hX.2.2.2.1.frame fun k _ _ => fr k (by omega)) hF0.1 (by omega) (by rw [if_neg hx4])).I fun y S' _ _ hy _ => ?_
  obtain ⟨rfl, a1, a2, a3, a4⟩ := hy
  exact ⟨_, rfl, rfl, wd_end hX hW hB fr a1 a2 a3 a4⟩
theorem cx_rej {scr : Nat × (Nat → Int32)} {d N t : Nat} {band B c : Int} {W : wd} {S S1 : sk_S} {A : ab} (hX : CX band W S) (hF : WFd c W.2.2.1 W.2.2.2) (hc : c ≤ 600) (ht : t < 4) (hC : CI N S1 A) (hW : WS N 40 A) (hB : rcB A B) (hB2 : B < 2146000000) (fr : Fr 2 31 S S1) :
    EE scr (d + 5) 30 0 [some (.ref 0), some (vi t), some (vi (-4))] S1 (pI fun y S' => rg y → pI (fun x' S' => x' = (wd_fin band W (ab_rej A t) (-4)).1 ∧ CX band (wd_fin band W (ab_rej A t) (-4)).2 S' ∧ FA S S') (some y) S') := by
  have hF0 := hF.1
  refine (sp_endMsg (band := band) (F := W.2.2.1) (old := ab_lv W.1) (A' := ab_stops band 40 (ab_rej A t)) ht (rg_b (by omega) (by omega)) hC hW (by rw [fr 1 (by omega)]; exact hX.2.2.2.2.2) hB hB2 (hX.2.1.frame (fr 60 (by omega)) (fr 61 (by omega))) (hX.2.2.2.1.frame fun k _ _ => fr k (by omega)) hF0.1 (by omega) (by rw [if_pos rfl])).I fun y S' _ _ hy _ => ?_
  obtain ⟨rfl, a1, a2, a3, a4⟩ := hy
  exact ⟨_, rfl, rfl, wd_end hX hW.tell hB.tell fr a1 a2 a3 a4⟩
/-- what holds after a message was heard -/
theorem hear_ws {c : Int} {A : ab} (h : WA c A) {t : Nat} (_ht : t < 4) {v : Int} : WS (ab_n A) 40 (ab_u A 9 t v) ∧ rcB (ab_u A 9 t v) (100000 * c) ∧ ∀ j, (ab_u A 9 t v).1 10 j = A.1 10 j :=
  ⟨h.1.hear (by omega), h.2.1.same (fun j => u_ne (Or.inl (by omega))), fun j => u_ne (Or.inl (by omega))⟩
theorem cx_order {scr : Nat × (Nat → Int32)} {d : Nat} {band s n w q p c : Int} {W : wd} {S : sk_S} (hX : CX band W S) (hW : WW c W) (hc : c ≤ 600) (hs : rg s) (hn : rg n) (hw : rg w) (hq : rg q) (hp : rg p) :
    EE scr (d + 6) 3 0 [some (.ref 0), some (vi s), some (vi n), some (vi w), some (vi q), some (vi p), none, none] S (pI fun x S' => x = (wd_order band W s n w q p).1 ∧ CX band (wd_order band W s n w q p).2 S' ∧ FA S S') := by
  obtain ⟨hA, -, hF⟩ := hW
  refine st_3_0 hs hn hw hq hp ?_
  refine (sp_hear hX.1 hs hn (fun t ht => by have := hA.2.2.1 t ht; omega)).I fun y S1 _ _ hy _ => ?_
  obtain ⟨rfl, h2, h3⟩ := hy
  unfold wd_order
  by_cases c0 : (ab_hear W.1 s n).1 = 0
  · rw [if_pos c0]
    obtain ⟨hs4, e2⟩ := hear_0 c0
    refine ⟨fun _ => ?_, fun g => absurd c0 g⟩
    rw [e2] at h2 ⊢
    obtain ⟨t, ht, rfl⟩ : ∃ t : Nat, t < 4 ∧ s = t := ⟨s.toNat, by omega, by omega⟩
    simp only [Int.toNat_natCast] at h2 ⊢
    obtain ⟨w1, w2, w3⟩ := hear_ws hA ht (v := W.1.1 9 t + 1)
    generalize hA1 : ab_u W.1 9 t (W.1.1 9 t + 1) = A1 at *
    have hbd : S1 1 0 = band := by rw [h3 1 (by omega)]; exact hX.2.2.2.2.2
    refine (sp_mayAccept h2.1 w1 ht hw hq hp).I fun y S7 _ _ hy _ => ?_
    obtain ⟨rfl, rfl⟩ := hy
    by_cases ok : ab_ok A1 t w q p = true
    · rw [if_pos ok, if_pos ok]
      refine ⟨fun g => by omega, fun _ => ?_⟩
      refine (sp_accept h2 w1 ht ok hp hbd w2 (by omega)).I fun y S18 _ ry hy _ => ?_
      obtain ⟨rfl, a1, a2⟩ := hy
      obtain ⟨o1, o2⟩ := order_ws (band := band) w1 ht ok hp (by rw [w3]; exact hA.2.2.2.1 t ht) w2
      exact cx_end hX hF hc ht a1 o1 o2 (by omega) (h3.trans a2) ry (by omega)
    · rw [if_neg ok, if_neg ok]
      refine ⟨fun _ => ?_, fun g => absurd rfl g⟩
      exact cx_rej hX hF hc ht h2 w1 w2 (by omega) h3
  · rw [if_neg c0]
    refine ⟨fun g => absurd g c0, fun _ => ⟨_, rfl, rfl, ?_, FA.of h3⟩⟩
    rw [hear_n c0] at h2
    exact hX.le h2 h3
theorem cx_cancel {scr : Nat × (Nat → Int32)} {d : Nat} {band s n o c : Int} {W : wd} {S : sk_S} (hX : CX band W S) (hW : WW c W) (hc : c ≤ 600) (hs : rg s) (hn : rg n) (ho : rg o) :
    EE scr (d + 6) 4 0 [some (.ref 0), some (vi s), some (vi n), some (vi o), none, none] S (pI fun x S' => x = (wd_cancel band W s n o).1 ∧ CX band (wd_cancel band W s n o).2 S' ∧ FA S S') := by
  obtain ⟨hA, -, hF⟩ := hW
  refine st_4_0 hs hn ho ?_
  refine (sp_hear hX.1 hs hn (fun t ht => by have := hA.2.2.1 t ht; omega)).I fun y S1 _ _ hy _ => ?_
  obtain ⟨rfl, h2, h3⟩ := hy
  unfold wd_cancel
  by_cases c0 : (ab_hear W.1 s n).1 = 0
  · rw [if_pos c0]
    obtain ⟨hs4, e2⟩ := hear_0 c0
    refine ⟨fun _ => ?_, fun g => absurd c0 g⟩
    rw [e2] at h2 ⊢
    obtain ⟨t, ht, rfl⟩ : ∃ t : Nat, t < 4 ∧ s = t := ⟨s.toNat, by omega, by omega⟩
    simp only [Int.toNat_natCast] at h2 ⊢
    obtain ⟨w1, w2, w3⟩ := hear_ws hA ht (v := W.1.1 9 t + 1)
    generalize hA1 : ab_u W.1 9 t (W.1.1 9 t + 1) = A1 at *
    refine (sp_mayCancel h2.1 w1.1 w1.2.1.1 ht ho).I fun y S7 _ _ hy _ => ?_
    obtain ⟨rfl, rfl⟩ := hy
    by_cases ok : ab_mayC A1 (ab_n W.1) t o = true
    · rw [if_pos ok, if_pos ok]
      refine ⟨fun g => by omega, fun _ => ?_⟩
      have ok' := of_decide_eq_true ok
      obtain ⟨i, rfl⟩ : ∃ i : Nat, o = i := ⟨o.toNat, by omega⟩
      simp only [Int.toNat_natCast] at ok' ⊢
      have hi : i < ab_n W.1 := by omega
      obtain ⟨u, hu, hsd⟩ := w1.2.1.side hi
      refine (sp_cancel h2 w1.2.1 hi hu hsd (w1.2.2.2.2.2.2.1 i hi).2.1 w2 (by omega) (told_rg w1 hi)).V fun S18 _ hk => ?_
      obtain ⟨a1, a2⟩ := hk
      exact cx_end hX hF hc ht a1 (w1.drop hi hu hsd) (drop_rc w2 (w1.2.1.2.1 i hi).1.1) (by omega) (h3.trans a2) rg_0 (by omega)
    · rw [if_neg ok, if_neg ok]
      refine ⟨fun _ => ?_, fun g => absurd rfl g⟩
      exact cx_rej hX hF hc ht h2 w1 w2 (by omega) h3
  · rw [if_neg c0]
    refine ⟨fun g => absurd g c0, fun _ => ⟨_, rfl, rfl, ?_, FA.of h3⟩⟩
    rw [hear_n c0] at h2
    exact hX.le h2 h3
theorem cx_repl {scr : Nat × (Nat → Int32)} {d : Nat} {band s n o q p c : Int} {W : wd} {S : sk_S} (hX : CX band W S) (hW : WW c W) (hc : c ≤ 600) (hs : rg s) (hn : rg n) (ho : rg o) (hq : rg q) (hp : rg p) :
    EE scr (d + 6) 5 0 [some (.ref 0), some (vi s), some (vi n), some (vi o), some (vi q), some (vi p), none, none] S (pI fun x S' => x = (wd_repl band W s n o q p).1 ∧ CX band (wd_repl band W s n o q p).2 S' ∧ FA S S') := by
  obtain ⟨hA, -, hF⟩ := hW
  refine st_5_0 hs hn ho hq hp ?_
  refine (sp_hear hX.1 hs hn (fun t ht => by have := hA.2.2.1 t ht; omega)).I fun y S1 _ _ hy _ => ?_
  obtain ⟨rfl, h2, h3⟩ := hy
  unfold wd_repl
  by_cases c0 : (ab_hear W.1 s n).1 = 0
  · rw [if_pos c0]
    obtain ⟨hs4, e2⟩ := hear_0 c0
    refine ⟨fun _ => ?_, fun g => absurd c0 g⟩
    rw [e2] at h2 ⊢
    obtain ⟨t, ht, rfl⟩ : ∃ t : Nat, t < 4 ∧ s = t := ⟨s.toNat, by omega, by omega⟩
    simp only [Int.toNat_natCast] at h2 ⊢
    obtain ⟨w1, w2, w3⟩ := hear_ws hA ht (v := W.1.1 9 t + 1)
    generalize hA1 : ab_u W.1 9 t (W.1.1 9 t + 1) = A1 at *
    have hbd : S1 1 0 = band := by rw [h3 1 (by omega)]; exact hX.2.2.2.2.2
    refine (sp_mayReplace h2.1 w1 ht ho hq hp).I fun y S7 _ _ hy _ => ?_
    obtain ⟨rfl, rfl⟩ := hy
    by_cases ok : ab_mayR A1 (ab_n W.1) t o q p = true
    · rw [if_pos ok, if_pos ok]
      refine ⟨fun g => by omega, fun _ => ?_⟩
      have ok' := of_decide_eq_true ok
      obtain ⟨i, rfl⟩ : ∃ i : Nat, o = i := ⟨o.toNat, by omega⟩
      simp only [Int.toNat_natCast] at ok' ⊢
      have hi : i < ab_n W.1 := by omega
      refine (sp_replaceOrder h2 w1 hi ok'.2.2.2.1 ok'.2.2.2.2.1 ok'.2.2.2.2.2.1 hbd w2 (by omega)).V fun S18 _ hk => ?_
      obtain ⟨a1, a2⟩ := hk
      obtain ⟨o1, o2⟩ := repl_ws (band := band) w1 hi ok'.2.2.2.1 ok'.2.2.2.2.1 ok'.2.2.2.2.2.1 w2
      exact cx_end hX hF hc ht a1 o1 o2 (by omega) (h3.trans a2) rg_0 (by omega)
    · rw [if_neg ok, if_neg ok]
      refine ⟨fun _ => ?_, fun g => absurd rfl g⟩
      exact cx_rej hX hF hc ht h2 w1 w2 (by omega) h3
  · rw [if_neg c0]
    refine ⟨fun g => absurd g c0, fun _ => ⟨_, rfl, rfl, ?_, FA.of h3⟩⟩
    rw [hear_n c0] at h2
    exact hX.le h2 h3
theorem may_v {f t : Int} (h : ab_may f t = true) : 0 ≤ t ∧ t ≤ 4 := by
  have := of_decide_eq_true h
  omega
theorem cx_phase {scr : Nat × (Nat → Int32)} {d : Nat} {band v c : Int} {W : wd} {S : sk_S} (hX : CX band W S) (hW : WW c W) (hc : c ≤ 600) (hv : rg v) :
    EE scr (d + 6) 6 0 [some (.ref 0), some (vi v)] S (pI fun x S' => x = (wd_phase band W v).1 ∧ CX band (wd_phase band W v).2 S' ∧ FA S S') := by
  obtain ⟨hA, -, hF⟩ := hW
  have hF0 := hF.1
  refine st_6_0 hv ?_
  refine (sp_mayStep hX.1.1 hA.1 hv).I fun y S1 _ _ hy _ => ?_
  obtain ⟨rfl, rfl⟩ := hy
  unfold wd_phase
  by_cases ok : ab_may (W.1.1 8 1) v = true
  · rw [if_pos ok, if_pos ok]
    refine ⟨fun _ => ?_, fun g => by omega⟩
    have hv4 := may_v ok
    obtain ⟨o1, o2⟩ := step_ws hA.1 hA.2.1 hv4.1 hv4.2
    refine (sp_stepTo hX.1 hA.1 hA.2.1 (by omega) hv4.1 hv4.2).V fun S7 _ hk => ?_
    obtain ⟨a1, a2⟩ := hk
    exact sp_tail (Post := fun _ S7 => pI (fun x S' => x = (wd_fin band W (ab_step W.1 v) 1).1 ∧ CX band (wd_fin band W (ab_step W.1 v) 1).2 S' ∧ FA S1 S') (some 1) S7) a1 o1 (by rw [a2 1 (by omega)]; exact hX.2.2.2.2.2) o2 (by omega) (hX.2.1.frame (a2 60 (by omega)) (a2 61 (by omega))) (hX.2.2.2.1.frame fun k _ _ => a2 k (by omega)) hF0.1 (by omega) (fun S' b1 b2 b3 b4 => ⟨_, rfl, rfl, wd_end hX o1 o2 a2 b1 b2 b3 b4⟩)
  · rw [if_neg ok, if_neg ok]
    exact ⟨fun g => absurd rfl g, fun _ => ⟨_, rfl, rfl, hX, fun _ _ => rfl⟩⟩
