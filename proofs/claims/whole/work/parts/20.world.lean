/-! 20.world: the small machine's store as cells of the heap (draft, not compiled yet) -/
def ma_cv (b sa : Nat) : Value → Value
  | .int x => .int x
  | .ref k => .ref (b + k)
  | .retAddr _ => .ref sa
  | _ => .null
def ma_ce (cI c2 : ClassId) (b sa : Nat) : ma_C → va_E
  | .inl (n, g) => .inl (cI, n, .inl g)
  | .inr (.inl (n, g)) => .inl (c2, n, .inr (.inr (.inr (.inr fun j => (g j).map fun k => b + k))))
  | .inr (.inr (ci, fs)) => .inr (ci, fs.map (ma_cv b sa))
def ma_ws (cI c2 : ClassId) (b sa : Nat) : Nat → ma_S → va_W
  | _, [] => []
  | j, e :: σ => (b + j, ma_ce cI c2 b sa e) :: ma_ws cI c2 b sa (j + 1) σ
theorem ma_cv_cat (b sa : Nat) (v : Value) : (ma_cv b sa v).category = 1 := by cases v <;> rfl
theorem ma_ws_get (cI c2 : ClassId) (b sa : Nat) (σ : ma_S) : ∀ j k : Nat, (ma_ws cI c2 b sa j σ)[k]? = (σ[k]?).map fun e => (b + (j + k), ma_ce cI c2 b sa e) := by
  induction σ with
  | nil => intro j k; simp [ma_ws]
  | cons e σ ih =>
    intro j k
    cases k with
    | zero => simp [ma_ws]
    | succ k =>
      rw [ma_ws, List.getElem?_cons_succ, List.getElem?_cons_succ, ih (j + 1) k, show j + 1 + k = j + (k + 1) by omega]
theorem ma_ws_at {cI c2 : ClassId} {b sa : Nat} {σ : ma_S} {k : Nat} {e : ma_C} (h : σ[k]? = some e) : (ma_ws cI c2 b sa 0 σ)[k]? = some (b + k, ma_ce cI c2 b sa e) := by
  rw [ma_ws_get, h, Option.map_some, Nat.zero_add]
theorem ma_ws_set' (cI c2 : ClassId) (b sa : Nat) (e : ma_C) (σ : ma_S) : ∀ j k : Nat, (ma_ws cI c2 b sa j σ).set k (b + (j + k), ma_ce cI c2 b sa e) = ma_ws cI c2 b sa j (σ.set k e) := by
  induction σ with
  | nil => intro j k; simp [ma_ws]
  | cons x σ ih =>
    intro j k
    cases k with
    | zero => simp [ma_ws]
    | succ k =>
      rw [ma_ws, List.set_cons_succ, List.set_cons_succ, ma_ws, show j + (k + 1) = j + 1 + k by omega, ih (j + 1) k]
theorem ma_ws_set {cI c2 : ClassId} {b sa : Nat} {e : ma_C} {σ : ma_S} {k : Nat} : (ma_ws cI c2 b sa 0 σ).set k (b + k, ma_ce cI c2 b sa e) = ma_ws cI c2 b sa 0 (σ.set k e) := by
  have h := ma_ws_set' cI c2 b sa e σ 0 k
  rwa [Nat.zero_add] at h
theorem ma_ws_app (cI c2 : ClassId) (b sa : Nat) (τ σ : ma_S) : ∀ j : Nat, ma_ws cI c2 b sa j (σ ++ τ) = ma_ws cI c2 b sa j σ ++ ma_ws cI c2 b sa (j + σ.length) τ := by
  induction σ with
  | nil => intro j; simp [ma_ws]
  | cons x σ ih =>
    intro j
    rw [List.cons_append, ma_ws, ma_ws, ih (j + 1), List.cons_append, List.length_cons, show j + 1 + σ.length = j + (σ.length + 1) by omega]
theorem ma_ws_D (cI c2 : ClassId) (b sa : Nat) (σ : ma_S) : va_D (fun q => b ≤ q) (ma_ws cI c2 b sa 0 σ) := by
  have key : ∀ (k : Nat) (q : Nat × va_E), (ma_ws cI c2 b sa 0 σ)[k]? = some q → q.1 = b + k := by
    intro k q h
    rw [ma_ws_get, Option.map_eq_some_iff] at h
    obtain ⟨e, -, h2⟩ := h
    rw [← h2]
    show b + (0 + k) = b + k
    omega
  refine ⟨fun i j x y hx hy h => ?_, fun k q h => ?_⟩
  · have h1 := key i x hx
    have h2 := key j y hy
    omega
  · have h1 := key k q h
    show b ≤ q.1
    omega
/-- the locals -/
def ma_lv (g : Value → Value) : Nat → List (Option Value) → List (Nat × Value)
  | _, [] => []
  | i, none :: L => ma_lv g (i + 1) L
  | i, some v :: L => (i, g v) :: ma_lv g (i + 1) L
theorem ma_lv_mem (g : Value → Value) (L : List (Option Value)) : ∀ (i j : Nat) (w : Value), (j, w) ∈ ma_lv g i L ↔ ∃ k v, L[k]? = some (some v) ∧ j = i + k ∧ w = g v := by
  induction L with
  | nil => intro i j w; simp [ma_lv]
  | cons o L ih =>
    intro i j w
    have key : (j, w) ∈ ma_lv g (i + 1) L ↔ ∃ k v, (o :: L)[k + 1]? = some (some v) ∧ j = i + (k + 1) ∧ w = g v := by
      rw [ih (i + 1) j w]
      constructor
      · rintro ⟨k, v, h1, h2, h3⟩
        exact ⟨k, v, by rw [List.getElem?_cons_succ]; exact h1, by omega, h3⟩
      · rintro ⟨k, v, h1, h2, h3⟩
        rw [List.getElem?_cons_succ] at h1
        exact ⟨k, v, h1, by omega, h3⟩
    cases o with
    | none =>
      rw [ma_lv, key]
      constructor
      · rintro ⟨k, v, h1, h2, h3⟩
        exact ⟨k + 1, v, h1, h2, h3⟩
      · rintro ⟨k, v, h1, h2, h3⟩
        cases k with
        | zero => simp at h1
        | succ k => exact ⟨k, v, h1, h2, h3⟩
    | some u =>
      rw [ma_lv, List.mem_cons, key]
      constructor
      · rintro (h | ⟨k, v, h1, h2, h3⟩)
        · cases h
          exact ⟨0, u, by simp, by omega, rfl⟩
        · exact ⟨k + 1, v, h1, h2, h3⟩
      · rintro ⟨k, v, h1, h2, h3⟩
        cases k with
        | zero =>
          rw [List.getElem?_cons_zero] at h1
          cases h1
          left
          rw [h2, h3, Nat.add_zero]
        | succ k => exact Or.inr ⟨k, v, h1, h2, h3⟩
theorem ma_lv_at {g : Value → Value} {ls : Array Slot} {nL : Nat} {L : List (Option Value)} (h : lv_has ls nL (ma_lv g 0 L)) {j : Nat} {v : Value} (hj : L[j]? = some (some v)) : ls[j]? = some (.val (g v)) :=
  h.2.2 (j, g v) ((ma_lv_mem g L 0 j (g v)).mpr ⟨j, v, hj, by omega, rfl⟩)
theorem ma_lv_put {g : Value → Value} (hg : ∀ v, (g v).category = 1) {ls' : Array Slot} {nL : Nat} {L : List (Option Value)} {j : Nat} {v : Value} (hj : j < L.length)
    (h : lv_has ls' nL ((j, g v) :: (ma_lv g 0 L).filter (fun q => !(q.1 == j) && !(q.1 + 1 == j && q.2.category == 2)))) : lv_has ls' nL (ma_lv g 0 (L.set j (some v))) := by
  refine ⟨h.1, h.2.1, fun q hq => h.2.2 q ?_⟩
  obtain ⟨q1, q2⟩ := q
  obtain ⟨k, u, h1, h2, h3⟩ := (ma_lv_mem g (L.set j (some v)) 0 q1 q2).mp hq
  have e : q1 = k := by omega
  subst e
  by_cases hk : q1 = j
  · subst hk
    rw [List.getElem?_set_self hj] at h1
    cases h1
    rw [h3]
    exact List.mem_cons_self
  · rw [List.getElem?_set_ne (Ne.symm hk)] at h1
    refine List.mem_cons_of_mem _ (List.mem_filter.mpr ⟨(ma_lv_mem g L 0 q1 q2).mpr ⟨q1, u, h1, by omega, h3⟩, ?_⟩)
    have hc : q2.category = 1 := by rw [h3]; exact hg u
    simp [hk, hc]
theorem ma_lv_args (b sa : Nat) (as : List Value) (n : Nat) : ∀ (i : Nat) (q : Nat × Value), q ∈ ma_lv (ma_cv b sa) i (as.map some ++ List.replicate n none) → q ∈ lv_args i (as.map (ma_cv b sa)) := by
  induction as with
  | nil =>
    intro i q h
    exfalso
    obtain ⟨q1, q2⟩ := q
    obtain ⟨k, v, h1, -, -⟩ := (ma_lv_mem _ _ i q1 q2).mp h
    simp [List.getElem?_replicate] at h1
  | cons a as ih =>
    intro i q h
    rw [List.map_cons, List.cons_append, ma_lv, List.mem_cons] at h
    rw [List.map_cons, lv_args, ma_cv_cat, if_neg (by decide), List.mem_cons]
    rcases h with h | h
    · exact Or.inl h
    · exact Or.inr (ih (i + 1) q h)
theorem ma_sl_len (b sa : Nat) (as : List Value) : (lg_sl (as.map (ma_cv b sa))).length = as.length := by
  induction as with
  | nil => rfl
  | cons a as ih =>
    rw [List.map_cons, lg_sl, List.flatMap_cons, List.length_append, ma_cv_cat, if_neg (by decide)]
    have ih' : ((as.map (ma_cv b sa)).flatMap fun v => if v.category = 2 then [Slot.val v, .second] else [.val v]).length = as.length := ih
    rw [ih', List.length_cons, List.length_cons, List.length_nil]
    omega
