/-! 62.rules2: branches, switches, fields, arrays, calls, returns (the branches written by gen_rules2.py) -/
theorem ma_br_at {f : ma_F} {c : Bool} {o : Int} {st : List Value} {t : Nat} (ht : ma_tg f.1 o = some t) : ma_br f c o st = some (if c then t else f.1 + 3, f.2.1, st, f.2.2.2) := by unfold ma_br; rw [ht]
theorem ma_jp_at {f : ma_F} {o : Int} {st : List Value} {t : Nat} (ht : ma_tg f.1 o = some t) : ma_jp f o st = some (t, f.2.1, st, f.2.2.2) := by unfold ma_jp; rw [ht]
section EVB
variable {cls : List vw_C} {P : List ma_M} {scr : Nat × (Nat → Int32)} {K : List sk_K} {d mi pc : Nat} {L : List (Option Value)} {st : List Value} {S : sk_S} {Post : Option Int → sk_S → Prop} {rt : Option FieldType}
theorem ev_if_eq {x o : Int} {t : Nat} (hc : ma_cd P mi pc = some (rt, .ifCond .eq o, 3, 0, 0, 0)) (ht : ma_tg pc o = some t) (hx : rg x) (k1 : x = 0 → Ev cls P scr K d mi t L st S Post) (k2 : ¬ x = 0 → Ev cls P scr K d mi (pc + 3) L st S Post) : Ev cls P scr K d mi pc L (vi x :: st) S Post := by
  have e : (Int32.ofInt x = 0) ↔ (x = 0) := (rg_eq hx rg_0)
  by_cases h : x = 0
  · refine ev_one (k1 h) hc rfl rfl (fun c s => ?_) id
    show ma_br (pc, L, vi x :: st, sk_e S 0 K, c, s) (decide (Int32.ofInt x = 0)) o st = _
    rw [ma_br_at ht, if_pos (decide_eq_true (e.mpr h))]
  · refine ev_one (k2 h) hc rfl rfl (fun c s => ?_) id
    show ma_br (pc, L, vi x :: st, sk_e S 0 K, c, s) (decide (Int32.ofInt x = 0)) o st = _
    rw [ma_br_at ht, if_neg (by rw [decide_eq_true_eq]; exact fun g => h (e.mp g))]
theorem ev_if_ne {x o : Int} {t : Nat} (hc : ma_cd P mi pc = some (rt, .ifCond .ne o, 3, 0, 0, 0)) (ht : ma_tg pc o = some t) (hx : rg x) (k1 : ¬ x = 0 → Ev cls P scr K d mi t L st S Post) (k2 : x = 0 → Ev cls P scr K d mi (pc + 3) L st S Post) : Ev cls P scr K d mi pc L (vi x :: st) S Post := by
  have e : (¬ Int32.ofInt x = 0) ↔ (¬ x = 0) := (not_congr (rg_eq hx rg_0))
  by_cases h : ¬ x = 0
  · refine ev_one (k1 h) hc rfl rfl (fun c s => ?_) id
    show ma_br (pc, L, vi x :: st, sk_e S 0 K, c, s) (decide (¬ Int32.ofInt x = 0)) o st = _
    rw [ma_br_at ht, if_pos (decide_eq_true (e.mpr h))]
  · refine ev_one (k2 (Decidable.not_not.mp h)) hc rfl rfl (fun c s => ?_) id
    show ma_br (pc, L, vi x :: st, sk_e S 0 K, c, s) (decide (¬ Int32.ofInt x = 0)) o st = _
    rw [ma_br_at ht, if_neg (by rw [decide_eq_true_eq]; exact fun g => h (e.mp g))]
theorem ev_if_lt {x o : Int} {t : Nat} (hc : ma_cd P mi pc = some (rt, .ifCond .lt o, 3, 0, 0, 0)) (ht : ma_tg pc o = some t) (hx : rg x) (k1 : x < 0 → Ev cls P scr K d mi t L st S Post) (k2 : ¬ x < 0 → Ev cls P scr K d mi (pc + 3) L st S Post) : Ev cls P scr K d mi pc L (vi x :: st) S Post := by
  have e : (Int32.ofInt x < 0) ↔ (x < 0) := (rg_lt hx rg_0)
  by_cases h : x < 0
  · refine ev_one (k1 h) hc rfl rfl (fun c s => ?_) id
    show ma_br (pc, L, vi x :: st, sk_e S 0 K, c, s) (decide (Int32.ofInt x < 0)) o st = _
    rw [ma_br_at ht, if_pos (decide_eq_true (e.mpr h))]
  · refine ev_one (k2 h) hc rfl rfl (fun c s => ?_) id
    show ma_br (pc, L, vi x :: st, sk_e S 0 K, c, s) (decide (Int32.ofInt x < 0)) o st = _
    rw [ma_br_at ht, if_neg (by rw [decide_eq_true_eq]; exact fun g => h (e.mp g))]
theorem ev_if_ge {x o : Int} {t : Nat} (hc : ma_cd P mi pc = some (rt, .ifCond .ge o, 3, 0, 0, 0)) (ht : ma_tg pc o = some t) (hx : rg x) (k1 : 0 ≤ x → Ev cls P scr K d mi t L st S Post) (k2 : ¬ 0 ≤ x → Ev cls P scr K d mi (pc + 3) L st S Post) : Ev cls P scr K d mi pc L (vi x :: st) S Post := by
  have e : (0 ≤ Int32.ofInt x) ↔ (0 ≤ x) := (rg_le rg_0 hx)
  by_cases h : 0 ≤ x
  · refine ev_one (k1 h) hc rfl rfl (fun c s => ?_) id
    show ma_br (pc, L, vi x :: st, sk_e S 0 K, c, s) (decide (0 ≤ Int32.ofInt x)) o st = _
    rw [ma_br_at ht, if_pos (decide_eq_true (e.mpr h))]
  · refine ev_one (k2 h) hc rfl rfl (fun c s => ?_) id
    show ma_br (pc, L, vi x :: st, sk_e S 0 K, c, s) (decide (0 ≤ Int32.ofInt x)) o st = _
    rw [ma_br_at ht, if_neg (by rw [decide_eq_true_eq]; exact fun g => h (e.mp g))]
theorem ev_if_gt {x o : Int} {t : Nat} (hc : ma_cd P mi pc = some (rt, .ifCond .gt o, 3, 0, 0, 0)) (ht : ma_tg pc o = some t) (hx : rg x) (k1 : 0 < x → Ev cls P scr K d mi t L st S Post) (k2 : ¬ 0 < x → Ev cls P scr K d mi (pc + 3) L st S Post) : Ev cls P scr K d mi pc L (vi x :: st) S Post := by
  have e : (0 < Int32.ofInt x) ↔ (0 < x) := (rg_lt rg_0 hx)
  by_cases h : 0 < x
  · refine ev_one (k1 h) hc rfl rfl (fun c s => ?_) id
    show ma_br (pc, L, vi x :: st, sk_e S 0 K, c, s) (decide (0 < Int32.ofInt x)) o st = _
    rw [ma_br_at ht, if_pos (decide_eq_true (e.mpr h))]
  · refine ev_one (k2 h) hc rfl rfl (fun c s => ?_) id
    show ma_br (pc, L, vi x :: st, sk_e S 0 K, c, s) (decide (0 < Int32.ofInt x)) o st = _
    rw [ma_br_at ht, if_neg (by rw [decide_eq_true_eq]; exact fun g => h (e.mp g))]
theorem ev_if_le {x o : Int} {t : Nat} (hc : ma_cd P mi pc = some (rt, .ifCond .le o, 3, 0, 0, 0)) (ht : ma_tg pc o = some t) (hx : rg x) (k1 : x ≤ 0 → Ev cls P scr K d mi t L st S Post) (k2 : ¬ x ≤ 0 → Ev cls P scr K d mi (pc + 3) L st S Post) : Ev cls P scr K d mi pc L (vi x :: st) S Post := by
  have e : (Int32.ofInt x ≤ 0) ↔ (x ≤ 0) := (rg_le hx rg_0)
  by_cases h : x ≤ 0
  · refine ev_one (k1 h) hc rfl rfl (fun c s => ?_) id
    show ma_br (pc, L, vi x :: st, sk_e S 0 K, c, s) (decide (Int32.ofInt x ≤ 0)) o st = _
    rw [ma_br_at ht, if_pos (decide_eq_true (e.mpr h))]
  · refine ev_one (k2 h) hc rfl rfl (fun c s => ?_) id
    show ma_br (pc, L, vi x :: st, sk_e S 0 K, c, s) (decide (Int32.ofInt x ≤ 0)) o st = _
    rw [ma_br_at ht, if_neg (by rw [decide_eq_true_eq]; exact fun g => h (e.mp g))]
theorem ev_icmp_eq {x y o : Int} {t : Nat} (hc : ma_cd P mi pc = some (rt, .if_icmp .eq o, 3, 0, 0, 0)) (ht : ma_tg pc o = some t) (hx : rg x) (hy : rg y) (k1 : x = y → Ev cls P scr K d mi t L st S Post) (k2 : ¬ x = y → Ev cls P scr K d mi (pc + 3) L st S Post) : Ev cls P scr K d mi pc L (vi y :: vi x :: st) S Post := by
  have e : (Int32.ofInt x = Int32.ofInt y) ↔ (x = y) := (rg_eq hx hy)
  by_cases h : x = y
  · refine ev_one (k1 h) hc rfl rfl (fun c s => ?_) id
    show ma_br (pc, L, vi y :: vi x :: st, sk_e S 0 K, c, s) (decide (Int32.ofInt x = Int32.ofInt y)) o st = _
    rw [ma_br_at ht, if_pos (decide_eq_true (e.mpr h))]
  · refine ev_one (k2 h) hc rfl rfl (fun c s => ?_) id
    show ma_br (pc, L, vi y :: vi x :: st, sk_e S 0 K, c, s) (decide (Int32.ofInt x = Int32.ofInt y)) o st = _
    rw [ma_br_at ht, if_neg (by rw [decide_eq_true_eq]; exact fun g => h (e.mp g))]
theorem ev_icmp_ne {x y o : Int} {t : Nat} (hc : ma_cd P mi pc = some (rt, .if_icmp .ne o, 3, 0, 0, 0)) (ht : ma_tg pc o = some t) (hx : rg x) (hy : rg y) (k1 : ¬ x = y → Ev cls P scr K d mi t L st S Post) (k2 : x = y → Ev cls P scr K d mi (pc + 3) L st S Post) : Ev cls P scr K d mi pc L (vi y :: vi x :: st) S Post := by
  have e : (¬ Int32.ofInt x = Int32.ofInt y) ↔ (¬ x = y) := (not_congr (rg_eq hx hy))
  by_cases h : ¬ x = y
  · refine ev_one (k1 h) hc rfl rfl (fun c s => ?_) id
    show ma_br (pc, L, vi y :: vi x :: st, sk_e S 0 K, c, s) (decide (¬ Int32.ofInt x = Int32.ofInt y)) o st = _
    rw [ma_br_at ht, if_pos (decide_eq_true (e.mpr h))]
  · refine ev_one (k2 (Decidable.not_not.mp h)) hc rfl rfl (fun c s => ?_) id
    show ma_br (pc, L, vi y :: vi x :: st, sk_e S 0 K, c, s) (decide (¬ Int32.ofInt x = Int32.ofInt y)) o st = _
    rw [ma_br_at ht, if_neg (by rw [decide_eq_true_eq]; exact fun g => h (e.mp g))]
theorem ev_icmp_lt {x y o : Int} {t : Nat} (hc : ma_cd P mi pc = some (rt, .if_icmp .lt o, 3, 0, 0, 0)) (ht : ma_tg pc o = some t) (hx : rg x) (hy : rg y) (k1 : x < y → Ev cls P scr K d mi t L st S Post) (k2 : ¬ x < y → Ev cls P scr K d mi (pc + 3) L st S Post) : Ev cls P scr K d mi pc L (vi y :: vi x :: st) S Post := by
  have e : (Int32.ofInt x < Int32.ofInt y) ↔ (x < y) := (rg_lt hx hy)
  by_cases h : x < y
  · refine ev_one (k1 h) hc rfl rfl (fun c s => ?_) id
    show ma_br (pc, L, vi y :: vi x :: st, sk_e S 0 K, c, s) (decide (Int32.ofInt x < Int32.ofInt y)) o st = _
    rw [ma_br_at ht, if_pos (decide_eq_true (e.mpr h))]
  · refine ev_one (k2 h) hc rfl rfl (fun c s => ?_) id
    show ma_br (pc, L, vi y :: vi x :: st, sk_e S 0 K, c, s) (decide (Int32.ofInt x < Int32.ofInt y)) o st = _
    rw [ma_br_at ht, if_neg (by rw [decide_eq_true_eq]; exact fun g => h (e.mp g))]
theorem ev_icmp_ge {x y o : Int} {t : Nat} (hc : ma_cd P mi pc = some (rt, .if_icmp .ge o, 3, 0, 0, 0)) (ht : ma_tg pc o = some t) (hx : rg x) (hy : rg y) (k1 : y ≤ x → Ev cls P scr K d mi t L st S Post) (k2 : ¬ y ≤ x → Ev cls P scr K d mi (pc + 3) L st S Post) : Ev cls P scr K d mi pc L (vi y :: vi x :: st) S Post := by
  have e : (Int32.ofInt y ≤ Int32.ofInt x) ↔ (y ≤ x) := (rg_le hy hx)
  by_cases h : y ≤ x
  · refine ev_one (k1 h) hc rfl rfl (fun c s => ?_) id
    show ma_br (pc, L, vi y :: vi x :: st, sk_e S 0 K, c, s) (decide (Int32.ofInt y ≤ Int32.ofInt x)) o st = _
    rw [ma_br_at ht, if_pos (decide_eq_true (e.mpr h))]
  · refine ev_one (k2 h) hc rfl rfl (fun c s => ?_) id
    show ma_br (pc, L, vi y :: vi x :: st, sk_e S 0 K, c, s) (decide (Int32.ofInt y ≤ Int32.ofInt x)) o st = _
    rw [ma_br_at ht, if_neg (by rw [decide_eq_true_eq]; exact fun g => h (e.mp g))]
theorem ev_icmp_gt {x y o : Int} {t : Nat} (hc : ma_cd P mi pc = some (rt, .if_icmp .gt o, 3, 0, 0, 0)) (ht : ma_tg pc o = some t) (hx : rg x) (hy : rg y) (k1 : y < x → Ev cls P scr K d mi t L st S Post) (k2 : ¬ y < x → Ev cls P scr K d mi (pc + 3) L st S Post) : Ev cls P scr K d mi pc L (vi y :: vi x :: st) S Post := by
  have e : (Int32.ofInt y < Int32.ofInt x) ↔ (y < x) := (rg_lt hy hx)
  by_cases h : y < x
  · refine ev_one (k1 h) hc rfl rfl (fun c s => ?_) id
    show ma_br (pc, L, vi y :: vi x :: st, sk_e S 0 K, c, s) (decide (Int32.ofInt y < Int32.ofInt x)) o st = _
    rw [ma_br_at ht, if_pos (decide_eq_true (e.mpr h))]
  · refine ev_one (k2 h) hc rfl rfl (fun c s => ?_) id
    show ma_br (pc, L, vi y :: vi x :: st, sk_e S 0 K, c, s) (decide (Int32.ofInt y < Int32.ofInt x)) o st = _
    rw [ma_br_at ht, if_neg (by rw [decide_eq_true_eq]; exact fun g => h (e.mp g))]
theorem ev_icmp_le {x y o : Int} {t : Nat} (hc : ma_cd P mi pc = some (rt, .if_icmp .le o, 3, 0, 0, 0)) (ht : ma_tg pc o = some t) (hx : rg x) (hy : rg y) (k1 : x ≤ y → Ev cls P scr K d mi t L st S Post) (k2 : ¬ x ≤ y → Ev cls P scr K d mi (pc + 3) L st S Post) : Ev cls P scr K d mi pc L (vi y :: vi x :: st) S Post := by
  have e : (Int32.ofInt x ≤ Int32.ofInt y) ↔ (x ≤ y) := (rg_le hx hy)
  by_cases h : x ≤ y
  · refine ev_one (k1 h) hc rfl rfl (fun c s => ?_) id
    show ma_br (pc, L, vi y :: vi x :: st, sk_e S 0 K, c, s) (decide (Int32.ofInt x ≤ Int32.ofInt y)) o st = _
    rw [ma_br_at ht, if_pos (decide_eq_true (e.mpr h))]
  · refine ev_one (k2 h) hc rfl rfl (fun c s => ?_) id
    show ma_br (pc, L, vi y :: vi x :: st, sk_e S 0 K, c, s) (decide (Int32.ofInt x ≤ Int32.ofInt y)) o st = _
    rw [ma_br_at ht, if_neg (by rw [decide_eq_true_eq]; exact fun g => h (e.mp g))]
theorem ev_goto {o : Int} {t : Nat} (hc : ma_cd P mi pc = some (rt, .goto o, 3, 0, 0, 0)) (ht : ma_tg pc o = some t) (k : Ev cls P scr K d mi t L st S Post) : Ev cls P scr K d mi pc L st S Post := ev_one k hc rfl rfl (fun _ _ => ma_jp_at ht) id
/-- a switch over neighbouring numbers -/
def swA (x : Int) (E : Nat → Prop) : Int → List Nat → Prop
  | _, [] => True
  | lo, t :: ts => (x = lo → E t) ∧ swA x E (lo + 1) ts
theorem swA_at {x : Int} {E : Nat → Prop} : ∀ (ts : List Nat) (lo : Int), swA x E lo ts → ∀ (j t : Nat), ts[j]? = some t → x = lo + j → E t := by
  intro ts
  induction ts with
  | nil => intro lo _ j t h; simp at h
  | cons a ts ih =>
    intro lo h j t hj hx
    cases j with
    | zero =>
      rw [List.getElem?_cons_zero] at hj
      cases hj
      exact h.1 (by omega)
    | succ j =>
      rw [List.getElem?_cons_succ] at hj
      exact ih (lo + 1) h.2 j t hj (by omega)
theorem ev_tsw {x df lo hi : Int} {os : Array Int} {len : Nat} {td : Nat} {ts : List Nat} (hc : ma_cd P mi pc = some (rt, .tableswitch df lo hi os, len, 0, 0, 0)) (hx : rg x) (hd : ma_tg pc df = some td) (hts : os.toList.map (ma_tg pc) = ts.map some) (hn : lo + ts.length = hi + 1) (kd : x < lo ∨ hi < x → Ev cls P scr K d mi td L st S Post) (k : swA x (fun t => Ev cls P scr K d mi t L st S Post) lo ts) : Ev cls P scr K d mi pc L (vi x :: st) S Post := by
  by_cases h : x < lo ∨ hi < x
  · refine ev_one (kd h) hc rfl rfl (fun c s => ?_) id
    show (if (Int32.ofInt x).toInt < lo ∨ hi < (Int32.ofInt x).toInt then ma_jp (pc, L, vi x :: st, sk_e S 0 K, c, s) df st else _) = _
    rw [rg_to hx, if_pos h, ma_jp_at hd]
  · have h1 : lo ≤ x := Int.not_lt.mp fun g => h (Or.inl g)
    have h2 : x ≤ hi := Int.not_lt.mp fun g => h (Or.inr g)
    have hj : (x - lo).toNat < ts.length := by omega
    obtain ⟨t, ht⟩ : ∃ t, ts[(x - lo).toNat]? = some t := ⟨_, List.getElem?_eq_getElem hj⟩
    have g1 : (os.toList.map (ma_tg pc))[(x - lo).toNat]? = some (some t) := by rw [hts, List.getElem?_map, ht]; rfl
    rw [List.getElem?_map, Option.map_eq_some_iff] at g1
    obtain ⟨o, g2, g3⟩ := g1
    have g4 : os[(x - lo).toNat]? = some o := by rw [← Array.getElem?_toList]; exact g2
    refine ev_one (swA_at ts lo k _ t ht (by omega)) hc rfl rfl (fun c s => ?_) id
    show (if (Int32.ofInt x).toInt < lo ∨ hi < (Int32.ofInt x).toInt then ma_jp (pc, L, vi x :: st, sk_e S 0 K, c, s) df st else match os[((Int32.ofInt x).toInt - lo).toNat]? with
      | some o => ma_jp (pc, L, vi x :: st, sk_e S 0 K, c, s) o st
      | none => none) = _
    rw [rg_to hx, if_neg h, g4]
    exact ma_jp_at g3
theorem ev_lsw {x df k0 o0 k1 o1 : Int} {len td t0 t1 : Nat} (hc : ma_cd P mi pc = some (rt, .lookupswitch df #[(k0, o0), (k1, o1)], len, 0, 0, 0)) (hx : rg x) (hk : ¬ k0 = k1) (h0 : ma_tg pc o0 = some t0) (h1 : ma_tg pc o1 = some t1) (hd : ma_tg pc df = some td) (e0 : x = k0 → Ev cls P scr K d mi t0 L st S Post) (e1 : x = k1 → Ev cls P scr K d mi t1 L st S Post) (ed : ¬ x = k0 → ¬ x = k1 → Ev cls P scr K d mi td L st S Post) : Ev cls P scr K d mi pc L (vi x :: st) S Post := by
  by_cases g0 : x = k0
  · refine ev_one (e0 g0) hc rfl rfl (fun c s => ?_) id
    show ma_jp (pc, L, vi x :: st, sk_e S 0 K, c, s) (Op.lookupswitch.offset [(k0, o0), (k1, o1)] df (Int32.ofInt x).toInt) st = _
    rw [rg_to hx, g0, show Op.lookupswitch.offset [(k0, o0), (k1, o1)] df k0 = o0 by simp [Op.lookupswitch.offset]]
    exact ma_jp_at h0
  · by_cases g1 : x = k1
    · refine ev_one (e1 g1) hc rfl rfl (fun c s => ?_) id
      show ma_jp (pc, L, vi x :: st, sk_e S 0 K, c, s) (Op.lookupswitch.offset [(k0, o0), (k1, o1)] df (Int32.ofInt x).toInt) st = _
      rw [rg_to hx, g1, show Op.lookupswitch.offset [(k0, o0), (k1, o1)] df k1 = o1 by simp [Op.lookupswitch.offset, hk]]
      exact ma_jp_at h1
    · refine ev_one (ed g0 g1) hc rfl rfl (fun c s => ?_) id
      show ma_jp (pc, L, vi x :: st, sk_e S 0 K, c, s) (Op.lookupswitch.offset [(k0, o0), (k1, o1)] df (Int32.ofInt x).toInt) st = _
      rw [rg_to hx, show Op.lookupswitch.offset [(k0, o0), (k1, o1)] df x = df by simp [Op.lookupswitch.offset, Ne.symm g0, Ne.symm g1]]
      exact ma_jp_at hd
theorem ev_getf {o ci q z ix : Nat} {fs : List (Option Nat)} (hc : ma_cd P mi pc = some (rt, .getfield ix, 3, ci, q, z)) (hk : K[o]? = some (.inr (.inr (ci, fs)))) (hq : fs[q]? = some none) (k : Ev cls P scr K d mi (pc + 3) L (vi (S o q) :: st) S Post) : Ev cls P scr K d mi pc L (.ref o :: st) S Post := by
  refine ev_one k hc rfl rfl (fun c s => ?_) id
  have e1 : (sk_e S 0 K)[o]? = some (.inr (.inr (ci, sk_fs (S o) 0 fs))) := sk_e_at hk
  have e2 : (sk_fs (S o) 0 fs)[q]? = some (vi (S o q)) := by rw [sk_fs_get, hq, Option.map_some, Nat.zero_add]
  simp only [ma_one, e1, e2, if_true]
  rfl
theorem ev_getr {o ci q z ix r : Nat} {fs : List (Option Nat)} (hc : ma_cd P mi pc = some (rt, .getfield ix, 3, ci, q, z)) (hk : K[o]? = some (.inr (.inr (ci, fs)))) (hq : fs[q]? = some (some r)) (k : Ev cls P scr K d mi (pc + 3) L (.ref r :: st) S Post) : Ev cls P scr K d mi pc L (.ref o :: st) S Post := by
  refine ev_one k hc rfl rfl (fun c s => ?_) id
  have e1 : (sk_e S 0 K)[o]? = some (.inr (.inr (ci, sk_fs (S o) 0 fs))) := sk_e_at hk
  have e2 : (sk_fs (S o) 0 fs)[q]? = some (.ref r) := by rw [sk_fs_get, hq, Option.map_some]
  simp only [ma_one, e1, e2, if_true]
  rfl
def ma_isI (cls : List vw_C) (ci q : Nat) : Bool := match cls[ci]? with
  | some (_, T, _) => (T q).2.2.1 == "I"
  | none => false
theorem ev_putf {o ci q z ix : Nat} {fs : List (Option Nat)} {v : Int} (hc : ma_cd P mi pc = some (rt, .putfield ix, 3, ci, q, z)) (hk : K[o]? = some (.inr (.inr (ci, fs)))) (hq : fs[q]? = some none) (hI : ma_isI cls ci q = true) (hv : rg v) (k : Ev cls P scr K d mi (pc + 3) L st (sk_u S o q v) Post) : Ev cls P scr K d mi pc L (vi v :: .ref o :: st) S Post := by
  refine ev_one k hc rfl rfl (fun c s => ?_) (fun h => sk_good_u h hv)
  have e1 : (sk_e S 0 K)[o]? = some (.inr (.inr (ci, sk_fs (S o) 0 fs))) := sk_e_at hk
  have e2 : (sk_fs (S o) 0 fs)[q]? = some (vi (S o q)) := by rw [sk_fs_get, hq, Option.map_some, Nat.zero_add]
  have e3 : q < (sk_fs (S o) 0 fs).length := (List.getElem?_eq_some_iff.mp e2).1
  have e4 : (sk_e S 0 K).set o (.inr (.inr (ci, (sk_fs (S o) 0 fs).set q (vi v)))) = sk_e (sk_u S o q v) 0 K := by
    rw [sk_fs_set hq]
    exact sk_e_set hk (sk_i (S o) q v)
  unfold ma_isI at hI
  split at hI
  · rename_i C T N hcl
    have e5 : ma_vt (T q).2.2.1 (vi v) = true := hI
    simp only [ma_one, e1, hcl]
    rw [if_pos ⟨trivial, e3, e5⟩, e4]
  · cases hI
theorem ev_iald {o n : Nat} {i : Int} (hc : ma_cd P mi pc = some (rt, .iaload, 1, 0, 0, 0)) (hk : K[o]? = some (.inl n)) (hn : n ≤ 65536) (h0 : 0 ≤ i) (h1 : i < n) (k : Ev cls P scr K d mi (pc + 1) L (vi (S o i.toNat) :: st) S Post) : Ev cls P scr K d mi pc L (vi i :: .ref o :: st) S Post := by
  refine ev_one k hc rfl rfl (fun c s => ?_) id
  obtain ⟨hr, ho⟩ := rg_out h0 h1 hn
  have e1 : (sk_e S 0 K)[o]? = some (.inl (n, fun j => Int32.ofInt (S o j))) := sk_e_at hk
  simp only [ma_one, e1, ho]
  rw [if_neg (by decide), rg_nat hr]
  rfl
theorem ev_iast {o n : Nat} {i v : Int} (hc : ma_cd P mi pc = some (rt, .iastore, 1, 0, 0, 0)) (hk : K[o]? = some (.inl n)) (hn : n ≤ 65536) (h0 : 0 ≤ i) (h1 : i < n) (hv : rg v) (k : Ev cls P scr K d mi (pc + 1) L st (sk_u S o i.toNat v) Post) : Ev cls P scr K d mi pc L (vi v :: vi i :: .ref o :: st) S Post := by
  refine ev_one k hc rfl rfl (fun c s => ?_) (fun h => sk_good_u h hv)
  obtain ⟨hr, ho⟩ := rg_out h0 h1 hn
  have e1 : (sk_e S 0 K)[o]? = some (.inl (n, fun j => Int32.ofInt (S o j))) := sk_e_at hk
  have e2 : upd (fun j => Int32.ofInt (S o j)) i.toNat (Int32.ofInt v) = fun j => Int32.ofInt (sk_i (S o) i.toNat v j) := by
    funext j
    unfold upd sk_i
    split <;> rfl
  have e4 : (sk_e S 0 K).set o (.inl (n, fun j => Int32.ofInt (sk_i (S o) i.toNat v j))) = sk_e (sk_u S o i.toNat v) 0 K := sk_e_set hk (sk_i (S o) i.toNat v)
  simp only [ma_one, e1, ho]
  rw [if_neg (by decide), rg_nat hr, e2, e4]
theorem ev_aald {o r n : Nat} {i : Int} (hc : ma_cd P mi pc = some (rt, .aaload, 1, 0, 0, 0)) (hk : K[o]? = some (.inr (.inl (r, n)))) (hn : n ≤ 65536) (h0 : 0 ≤ i) (h1 : i < n) (k : Ev cls P scr K d mi (pc + 1) L (.ref (r + i.toNat) :: st) S Post) : Ev cls P scr K d mi pc L (vi i :: .ref o :: st) S Post := by
  refine ev_one k hc rfl rfl (fun c s => ?_) id
  obtain ⟨hr, ho⟩ := rg_out h0 h1 hn
  have e1 : (sk_e S 0 K)[o]? = some (.inr (.inl (n, fun j => if j < n then some (r + j) else none))) := sk_e_at hk
  have e2 : i.toNat < n := by omega
  simp only [ma_one, e1, ho]
  rw [if_neg (by decide), rg_nat hr, if_pos e2]
  rfl
theorem ev_alen {o n : Nat} (hc : ma_cd P mi pc = some (rt, .arraylength, 1, 0, 0, 0)) (hk : K[o]? = some (.inl n)) (k : Ev cls P scr K d mi (pc + 1) L (vi n :: st) S Post) : Ev cls P scr K d mi pc L (.ref o :: st) S Post := by
  refine ev_one k hc rfl rfl (fun c s => ?_) id
  have e1 : (sk_e S 0 K)[o]? = some (.inl (n, fun j => Int32.ofInt (S o j))) := sk_e_at hk
  simp only [ma_one, e1]
  unfold vi
  rw [Int32.ofInt_eq_ofNat]
  rfl
theorem ev_slen {o : Nat} (hc : ma_cd P mi pc = some (rt, .arraylength, 1, 0, 0, 0)) (k : Ev cls P scr K d mi (pc + 1) L (vi scr.1 :: st) S Post) : Ev cls P scr K d mi pc L (.retAddr o :: st) S Post := by
  refine ev_one k hc rfl rfl (fun c s => ?_) id
  unfold vi
  rw [Int32.ofInt_eq_ofNat]
  rfl
theorem ev_sald {o : Nat} {i : Int} (hc : ma_cd P mi pc = some (rt, .iaload, 1, 0, 0, 0)) (hn : scr.1 ≤ 65536) (h0 : 0 ≤ i) (h1 : i < scr.1) (k : Ev cls P scr K d mi (pc + 1) L (vi (scr.2 i.toNat).toInt :: st) S Post) : Ev cls P scr K d mi pc L (vi i :: .retAddr o :: st) S Post := by
  refine ev_one k hc rfl rfl (fun c s => ?_) id
  obtain ⟨hr, ho⟩ := rg_out h0 h1 hn
  simp only [ma_one, ho]
  rw [if_neg (by decide), rg_nat hr]
  unfold vi
  rw [Int32.ofInt_toInt]
  rfl
theorem ev_max {x y : Int} {ix q z : Nat} (hc : ma_cd P mi pc = some (rt, .invokestatic ix, 3, 1, q, z)) (hx : rg x) (hy : rg y) (hl : st.length ≤ 8) (k : Ev cls P scr K (d + 1) mi (pc + 3) L (vi (max x y) :: st) S Post) : Ev cls P scr K (d + 1) mi pc L (vi y :: vi x :: st) S Post := by
  refine ev_one k hc rfl rfl (fun c s => ?_) id
  have e : ma_max (Int32.ofInt x) (Int32.ofInt y) = Int32.ofInt (max x y) := by
    unfold ma_max
    by_cases h : x < y
    · rw [if_pos ((rg_lt hx hy).mpr h), Int.max_eq_right (by omega)]
    · rw [if_neg (fun g => h ((rg_lt hx hy).mp g)), Int.max_eq_left (by omega)]
  show (if 8 < st.length then none else ma_go (pc, L, vi y :: vi x :: st, sk_e S 0 K, c, s) 3 (.int (ma_max (Int32.ofInt x) (Int32.ofInt y)) :: st)) = _
  rw [if_neg (by omega), e]
  rfl
theorem ev_min {x y : Int} {ix q z : Nat} (hc : ma_cd P mi pc = some (rt, .invokestatic ix, 3, 2, q, z)) (hx : rg x) (hy : rg y) (hl : st.length ≤ 8) (k : Ev cls P scr K (d + 1) mi (pc + 3) L (vi (min x y) :: st) S Post) : Ev cls P scr K (d + 1) mi pc L (vi y :: vi x :: st) S Post := by
  refine ev_one k hc rfl rfl (fun c s => ?_) id
  have e : ma_min (Int32.ofInt x) (Int32.ofInt y) = Int32.ofInt (min x y) := by
    unfold ma_min
    by_cases h : y < x
    · rw [if_pos ((rg_lt hy hx).mpr h), Int.min_eq_right (by omega)]
    · rw [if_neg (fun g => h ((rg_lt hy hx).mp g)), Int.min_eq_left (by omega)]
  show (if 8 < st.length then none else ma_go (pc, L, vi y :: vi x :: st, sk_e S 0 K, c, s) 3 (.int (ma_min (Int32.ofInt x) (Int32.ofInt y)) :: st)) = _
  rw [if_neg (by omega), e]
  rfl
theorem ev_abs {x : Int} {ix q z : Nat} (hc : ma_cd P mi pc = some (rt, .invokestatic ix, 3, 3, q, z)) (hx : rg x) (hl : st.length ≤ 8) (k : Ev cls P scr K (d + 1) mi (pc + 3) L (vi (max x (-x)) :: st) S Post) : Ev cls P scr K (d + 1) mi pc L (vi x :: st) S Post := by
  refine ev_one k hc rfl rfl (fun c s => ?_) id
  have e : ma_abs (Int32.ofInt x) = Int32.ofInt (max x (-x)) := by
    unfold ma_abs
    rw [← rg_z]
    by_cases h : 0 ≤ x
    · rw [if_pos ((rg_le rg_0 hx).mpr h), Int.max_eq_left (by omega)]
    · rw [if_neg (fun g => h ((rg_le rg_0 hx).mp g)), Int.max_eq_right (by omega), ← Int32.ofInt_sub, Int.zero_sub]
  show (if 8 < st.length then none else ma_go (pc, L, vi x :: st, sk_e S 0 K, c, s) 3 (.int (ma_abs (Int32.ofInt x)) :: st)) = _
  rw [if_neg (by omega), e]
  rfl
theorem ev_copy {a0 a1 n0 n1 ix q z : Nat} {sp dp n : Int} (hc : ma_cd P mi pc = some (rt, .invokestatic ix, 3, 4, q, z)) (hk0 : K[a0]? = some (.inl n0)) (hk1 : K[a1]? = some (.inl n1)) (hn0 : n0 ≤ 65536) (hn1 : n1 ≤ 65536) (h1 : 0 ≤ sp) (h2 : 0 ≤ dp) (h3 : 0 ≤ n) (h4 : sp + n ≤ n0) (h5 : dp + n ≤ n1) (hl : st.length ≤ 8)
    (k : Ev cls P scr K (d + 1) mi (pc + 3) L st (sk_r S a1 (sk_cp (S a0) (S a1) sp.toNat dp.toNat n.toNat)) Post) : Ev cls P scr K (d + 1) mi pc L (vi n :: vi dp :: .ref a1 :: vi sp :: .ref a0 :: st) S Post := by
  have r1 : rg sp := by unfold rg; omega
  have r2 : rg dp := by unfold rg; omega
  have r3 : rg n := by unfold rg; omega
  have e0 : (sk_e S 0 K)[a0]? = some (.inl (n0, fun j => Int32.ofInt (S a0 j))) := sk_e_at hk0
  have e1 : (sk_e S 0 K)[a1]? = some (.inl (n1, fun j => Int32.ofInt (S a1 j))) := sk_e_at hk1
  have e2 : va_cpy (fun j => Int32.ofInt (S a0 j)) (fun j => Int32.ofInt (S a1 j)) sp.toNat dp.toNat n.toNat = fun j => Int32.ofInt (sk_cp (S a0) (S a1) sp.toNat dp.toNat n.toNat j) := by
    funext j
    unfold va_cpy sk_cp
    split <;> rfl
  have e4 : (sk_e S 0 K).set a1 (.inl (n1, fun j => Int32.ofInt (sk_cp (S a0) (S a1) sp.toNat dp.toNat n.toNat j))) = sk_e (sk_r S a1 (sk_cp (S a0) (S a1) sp.toNat dp.toNat n.toNat)) 0 K := sk_e_set hk1 _
  refine ev_one k hc rfl rfl (fun c s => ?_) (fun h => sk_good_r h fun j => by unfold sk_cp; split <;> exact h _ _)
  show (if 8 < st.length then none else ma_cp (pc, L, vi n :: vi dp :: .ref a1 :: vi sp :: .ref a0 :: st, sk_e S 0 K, c, s) (Int32.ofInt n) (Int32.ofInt dp) a1 (Int32.ofInt sp) a0 st) = _
  rw [if_neg (by omega)]
  simp only [ma_cp, e0, e1]
  rw [rg_nat r1, rg_nat r2, rg_nat r3, if_neg, e2, e4]
  rw [← rg_z, rg_lt r1 rg_0, rg_lt r2 rg_0, rg_lt r3 rg_0]
  omega
def ma_rcK (i : ma_I) (as : List Value) (K : List sk_K) : Bool := match i.1 with
  | .invokevirtual _ => match as with
    | .ref o :: _ => match K[o]? with
      | some (.inr (.inr (ci, _))) => decide (ci = i.2.2.2.2 % 100)
      | _ => false
    | _ => false
  | .invokespecial _ => match as with
    | .ref _ :: _ => true
    | _ => false
  | _ => true
theorem ma_rcK_at {i : ma_I} {as : List Value} (S : sk_S) (h : ma_rcK i as K = true) : ma_rcv i as (sk_e S 0 K) = true := by
  unfold ma_rcK at h
  unfold ma_rcv
  split at h
  · rename_i x hx
    rw [hx]
    dsimp only
    split at h
    · rename_i o as'
      split at h
      · rename_i ci fs hk
        dsimp only
        rw [sk_e_at hk]
        exact h
      · cases h
    · cases h
  · rename_i x hx
    rw [hx]
    exact h
  · rename_i h1 h2
    split
    · rename_i x hx
      exact absurd hx (h1 x)
    · rename_i x hx
      exact absurd hx (h2 x)
    · rfl
theorem ev_call {i : ma_I} {cy : Nat} {my : ma_M} {as : List Value} {st0 : List Value} {L1 : List (Option Value)} (hc : ma_cd P mi pc = some (rt, i)) (h1 : ma_callee i = some cy) (h2 : P[cy]? = some my) (h3 : st0 = as.reverse ++ st) (hq : as.length = i.2.2.2.1) (hl : st.length ≤ 8) (hm : i.2.2.2.1 ≤ my.2.2.1) (hr : ma_rcK i as K = true) (hL : as.map some ++ List.replicate (my.2.2.1 - as.length) none = L1)
    (k : Ev cls P scr K d cy 0 L1 [] S (fun r S1 => (∀ x, r = some x → rg x) → Ev cls P scr K (d + 1) mi (pc + 3) L ((r.map vi).toList ++ st) S1 Post)) : Ev cls P scr K (d + 1) mi pc L st0 S Post := by
  intro hS
  obtain ⟨n, r, S1, g1, g2, g3, g4⟩ := k hS
  obtain ⟨n2, r2, S2, f1, f2⟩ := g4 g3 g2
  have t1 : (st0.take i.2.2.2.1).reverse = as := by
    rw [h3, ← hq, ← List.length_reverse, List.take_left, List.reverse_reverse]
  have t2 : st0.drop i.2.2.2.1 = st := by
    rw [h3, ← hq, ← List.length_reverse, List.drop_left]
  have t3 : st0.length = i.2.2.2.1 + st.length := by rw [h3, List.length_append, List.length_reverse, hq]
  refine ⟨max n n2 + 1, r2, S2, fun c s => ?_, f2⟩
  have g5 := ma_mono_le (Nat.le_max_left n n2) (g1 0 0)
  have f5 := ma_mono_le (Nat.le_max_right n n2) (f1 c s)
  have hcond : ¬ (st0.length < i.2.2.2.1 ∨ 8 + i.2.2.2.1 < st0.length ∨ my.2.2.1 < i.2.2.2.1 ∨ ma_rcv i (st0.take i.2.2.2.1).reverse (sk_e S 0 K) = false) := by
    rw [t1, ma_rcK_at S hr, t3]
    intro h
    rcases h with h | h | h | h
    · omega
    · omega
    · omega
    · cases h
  rw [ma_ex_call (f := (pc, L, st0, sk_e S 0 K, c, s)) hc h1 h2 hcond (by dsimp only; rw [t1]; unfold ma_in; rw [hL]; exact g5)]
  dsimp only
  rw [t2, Nat.add_zero, Nat.add_zero]
  exact f5
theorem ev_callI {i : ma_I} {cy : Nat} {my : ma_M} {as : List Value} {st0 : List Value} {L1 : List (Option Value)} (hc : ma_cd P mi pc = some (rt, i)) (h1 : ma_callee i = some cy) (h2 : P[cy]? = some my) (h3 : st0 = as.reverse ++ st) (hq : as.length = i.2.2.2.1) (hl : st.length ≤ 8) (hm : i.2.2.2.1 ≤ my.2.2.1) (hr : ma_rcK i as K = true) (hL : as.map some ++ List.replicate (my.2.2.1 - as.length) none = L1)
    (k : Ev cls P scr K d cy 0 L1 [] S (pI fun x S1 => rg x → Ev cls P scr K (d + 1) mi (pc + 3) L (vi x :: st) S1 Post)) : Ev cls P scr K (d + 1) mi pc L st0 S Post :=
  ev_call hc h1 h2 h3 hq hl hm hr hL (k.mono fun r S' _ _ h hrg => by
    obtain ⟨x, rfl, h5⟩ := h
    exact h5 (hrg x rfl))
theorem ev_callV {i : ma_I} {cy : Nat} {my : ma_M} {as : List Value} {st0 : List Value} {L1 : List (Option Value)} (hc : ma_cd P mi pc = some (rt, i)) (h1 : ma_callee i = some cy) (h2 : P[cy]? = some my) (h3 : st0 = as.reverse ++ st) (hq : as.length = i.2.2.2.1) (hl : st.length ≤ 8) (hm : i.2.2.2.1 ≤ my.2.2.1) (hr : ma_rcK i as K = true) (hL : as.map some ++ List.replicate (my.2.2.1 - as.length) none = L1)
    (k : Ev cls P scr K d cy 0 L1 [] S (pV fun S1 => Ev cls P scr K (d + 1) mi (pc + 3) L st S1 Post)) : Ev cls P scr K (d + 1) mi pc L st0 S Post :=
  ev_call hc h1 h2 h3 hq hl hm hr hL (k.mono fun r S' _ _ h _ => by
    obtain ⟨rfl, h5⟩ := h
    exact h5)
theorem ev_iret {x : Int} (hc : ma_cd P mi pc = some (some .int, .ireturn, 1, 0, 0, 0)) (hx : rg x) (h : Post (some x) S) : Ev cls P scr K d mi pc L [vi x] S Post := by
  intro hS
  exact ⟨1, some x, S, fun c s => ma_ex_ret (f := (pc, L, [vi x], sk_e S 0 K, c, s)) hc rfl rfl rfl, hS, fun y hy => by cases hy; exact hx, h⟩
theorem ev_zret {x : Int} (hc : ma_cd P mi pc = some (some .boolean, .ireturn, 1, 0, 0, 0)) (hx : x = 0 ∨ x = 1) (h : Post (some x) S) : Ev cls P scr K d mi pc L [vi x] S Post := by
  intro hS
  refine ⟨1, some x, S, fun c s => ma_ex_ret (f := (pc, L, [vi x], sk_e S 0 K, c, s)) hc rfl rfl ?_, hS, fun y hy => by cases hy; unfold rg; omega, h⟩
  rcases hx with rfl | rfl <;> rfl
theorem ev_vret (hc : ma_cd P mi pc = some (none, .return_, 1, 0, 0, 0)) (h : Post none S) : Ev cls P scr K d mi pc L [] S Post := by
  intro hS
  exact ⟨1, none, S, fun c s => ma_ex_ret (f := (pc, L, [], sk_e S 0 K, c, s)) hc rfl rfl rfl, hS, fun y hy => (by cases hy), h⟩
theorem ev_putq {o ci q z ix : Nat} {fs : List (Option Nat)} {v : Int} (hc : ma_cd P mi pc = some (rt, .putfield ix, 3, ci, q, z)) (hk : K[o]? = some (.inr (.inr (ci, fs)))) (hq : fs[q]? = some none) (hI : ma_isI cls ci q = true) (hv : rg v) (k : ∀ S1 : sk_S, S1 = sk_u S o q v → Ev cls P scr K d mi (pc + 3) L st S1 Post) : Ev cls P scr K d mi pc L (vi v :: .ref o :: st) S Post := ev_putf hc hk hq hI hv (k _ rfl)
theorem ev_iasq {o n : Nat} {i v : Int} (hc : ma_cd P mi pc = some (rt, .iastore, 1, 0, 0, 0)) (hk : K[o]? = some (.inl n)) (hn : n ≤ 65536) (h0 : 0 ≤ i) (h1 : i < n) (hv : rg v) (k : ∀ S1 : sk_S, S1 = sk_u S o i.toNat v → Ev cls P scr K d mi (pc + 1) L st S1 Post) : Ev cls P scr K d mi pc L (vi v :: vi i :: .ref o :: st) S Post := ev_iast hc hk hn h0 h1 hv (k _ rfl)
theorem ev_copq {a0 a1 n0 n1 ix q z : Nat} {sp dp n : Int} (hc : ma_cd P mi pc = some (rt, .invokestatic ix, 3, 4, q, z)) (hk0 : K[a0]? = some (.inl n0)) (hk1 : K[a1]? = some (.inl n1)) (hn0 : n0 ≤ 65536) (hn1 : n1 ≤ 65536) (h1 : 0 ≤ sp) (h2 : 0 ≤ dp) (h3 : 0 ≤ n) (h4 : sp + n ≤ n0) (h5 : dp + n ≤ n1) (hl : st.length ≤ 8)
    (k : ∀ S1 : sk_S, S1 = sk_r S a1 (sk_cp (S a0) (S a1) sp.toNat dp.toNat n.toNat) → Ev cls P scr K (d + 1) mi (pc + 3) L st S1 Post) : Ev cls P scr K (d + 1) mi pc L (vi n :: vi dp :: .ref a1 :: vi sp :: .ref a0 :: st) S Post := ev_copy hc hk0 hk1 hn0 hn1 h1 h2 h3 h4 h5 hl (k _ rfl)
end EVB
