/-! 60.rules: behind the constructors: a fixed skeleton filled by whole numbers S; from a place in the code a method ends with Post -/
/-- an int array of that length; rows (cells r, r + 1 ..); an object: its number, its fields (none: an int; some r: the cell r, for good) -/
abbrev sk_K : Type := Nat ⊕ ((Nat × Nat) ⊕ (Nat × List (Option Nat)))
abbrev sk_S : Type := Nat → Nat → Int
abbrev vi (x : Int) : Value := .int (Int32.ofInt x)
def rg (x : Int) : Prop := -2147483648 ≤ x ∧ x < 2147483648
def sk_fs (g : Nat → Int) : Nat → List (Option Nat) → List Value
  | _, [] => []
  | j, none :: fs => vi (g j) :: sk_fs g (j + 1) fs
  | j, some r :: fs => .ref r :: sk_fs g (j + 1) fs
def sk_c (g : Nat → Int) : sk_K → ma_C
  | .inl n => .inl (n, fun j => Int32.ofInt (g j))
  | .inr (.inl (r, n)) => .inr (.inl (n, fun j => if j < n then some (r + j) else none))
  | .inr (.inr (ci, fs)) => .inr (.inr (ci, sk_fs g 0 fs))
def sk_e (S : sk_S) : Nat → List sk_K → ma_S
  | _, [] => []
  | k, c :: K => sk_c (S k) c :: sk_e S (k + 1) K
def sk_i (g : Nat → Int) (j : Nat) (v : Int) : Nat → Int := fun i => if i = j then v else g i
/-- a whole row becomes another one -/
def sk_r (S : sk_S) (k : Nat) (g : Nat → Int) : sk_S := fun i => if i = k then g else S i
def sk_u (S : sk_S) (k j : Nat) (v : Int) : sk_S := sk_r S k (sk_i (S k) j v)
def sk_cp (f g : Nat → Int) (sp dp n : Nat) : Nat → Int := fun k => if dp ≤ k ∧ k < dp + n then f (sp + (k - dp)) else g k
theorem sk_e_get (S : sk_S) (K : List sk_K) : ∀ j k : Nat, (sk_e S j K)[k]? = (K[k]?).map fun c => sk_c (S (j + k)) c := by
  induction K with
  | nil => intro j k; simp [sk_e]
  | cons c K ih =>
    intro j k
    cases k with
    | zero => simp [sk_e]
    | succ k => rw [sk_e, List.getElem?_cons_succ, List.getElem?_cons_succ, ih (j + 1) k, show j + 1 + k = j + (k + 1) by omega]
theorem sk_e_at {S : sk_S} {K : List sk_K} {k : Nat} {c : sk_K} (h : K[k]? = some c) : (sk_e S 0 K)[k]? = some (sk_c (S k) c) := by
  rw [sk_e_get, h, Option.map_some, Nat.zero_add]
theorem sk_e_set {S : sk_S} {K : List sk_K} {k : Nat} {c : sk_K} (h : K[k]? = some c) (g : Nat → Int) : (sk_e S 0 K).set k (sk_c g c) = sk_e (sk_r S k g) 0 K := by
  apply List.ext_getElem?
  intro i
  rw [sk_e_get, Nat.zero_add]
  by_cases hi : i = k
  · subst hi
    have hl : i < (sk_e S 0 K).length := (List.getElem?_eq_some_iff.mp (sk_e_at (S := S) h)).1
    rw [List.getElem?_set_self hl, h, Option.map_some]
    simp [sk_r]
  · rw [List.getElem?_set_ne (Ne.symm hi), sk_e_get, Nat.zero_add]
    simp [sk_r, hi]
theorem sk_fs_get (g : Nat → Int) (fs : List (Option Nat)) : ∀ i j : Nat, (sk_fs g i fs)[j]? = (fs[j]?).map fun o => match o with
    | none => vi (g (i + j))
    | some r => .ref r := by
  induction fs with
  | nil => intro i j; simp [sk_fs]
  | cons o fs ih =>
    intro i j
    cases j with
    | zero => cases o <;> simp [sk_fs]
    | succ j => cases o <;> rw [sk_fs, List.getElem?_cons_succ, List.getElem?_cons_succ, ih (i + 1) j, show i + 1 + j = i + (j + 1) by omega]
theorem sk_fs_set {g : Nat → Int} {fs : List (Option Nat)} {j : Nat} (h : fs[j]? = some none) (v : Int) : (sk_fs g 0 fs).set j (vi v) = sk_fs (sk_i g j v) 0 fs := by
  apply List.ext_getElem?
  intro i
  rw [sk_fs_get, Nat.zero_add]
  by_cases hi : i = j
  · subst hi
    have hl : i < (sk_fs g 0 fs).length := by
      have h2 : (sk_fs g 0 fs)[i]? = some (vi (g i)) := by rw [sk_fs_get, h]; simp
      exact (List.getElem?_eq_some_iff.mp h2).1
    rw [List.getElem?_set_self hl, h]
    simp [sk_i]
  · rw [List.getElem?_set_ne (Ne.symm hi), sk_fs_get, Nat.zero_add]
    cases hf : fs[i]? with
    | none => rfl
    | some o => cases o <;> simp [sk_i, hi]
theorem sk_good_r {S : sk_S} (h : ∀ k j, rg (S k j)) {k : Nat} {g : Nat → Int} (hg : ∀ j, rg (g j)) : ∀ i j, rg (sk_r S k g i j) := by
  intro i j
  unfold sk_r
  split
  · exact hg j
  · exact h i j
theorem sk_good_u {S : sk_S} (h : ∀ k j, rg (S k j)) {k j : Nat} {v : Int} (hv : rg v) : ∀ i q, rg (sk_u S k j v i q) := by
  refine sk_good_r h fun q => ?_
  unfold sk_i
  split
  · exact hv
  · exact h k q
/-- numbers in range, as the machine has them -/
theorem rg_to {x : Int} (h : rg x) : (Int32.ofInt x).toInt = x := Int32.toInt_ofInt_of_le h.1 h.2
theorem rg_nat {x : Int} (h : rg x) : (Int32.ofInt x).toNatClampNeg = x.toNat := Int32.toNatClampNeg_ofInt_of_le h.1 h.2
theorem rg_lt {x y : Int} (hx : rg x) (hy : rg y) : Int32.ofInt x < Int32.ofInt y ↔ x < y := by rw [Int32.lt_iff_toInt_lt, rg_to hx, rg_to hy]
theorem rg_le {x y : Int} (hx : rg x) (hy : rg y) : Int32.ofInt x ≤ Int32.ofInt y ↔ x ≤ y := by rw [Int32.le_iff_toInt_le, rg_to hx, rg_to hy]
theorem rg_eq {x y : Int} (hx : rg x) (hy : rg y) : Int32.ofInt x = Int32.ofInt y ↔ x = y := by rw [← Int32.toInt_inj, rg_to hx, rg_to hy]
theorem rg_0 : rg 0 := by unfold rg; omega
theorem rg_z : Int32.ofInt 0 = 0 := rfl
theorem rg_out {i : Int} {n : Nat} (h0 : 0 ≤ i) (h1 : i < n) (hn : n ≤ 65536) : rg i ∧ ma_out (Int32.ofInt i) n = false := by
  have hr : rg i := by unfold rg; omega
  refine ⟨hr, ?_⟩
  unfold ma_out
  rw [← rg_z, rg_nat hr]
  simp only [Bool.or_eq_false_iff, decide_eq_false_iff_not, rg_lt hr rg_0]
  omega
/-- what a method returns, and entry at a pc -/
def ma_cd (P : List ma_M) (mi pc : Nat) : Option (Option FieldType × ma_I) := match P[mi]? with
  | some mt => match mt.2.2.2.2.2.2.lookup pc with
    | some i => some (mt.2.2.2.1, i)
    | none => none
  | none => none
theorem ma_cd_at {P : List ma_M} {mi pc : Nat} {rt : Option FieldType} {i : ma_I} (h : ma_cd P mi pc = some (rt, i)) : ∃ mt, P[mi]? = some mt ∧ mt.2.2.2.2.2.2.lookup pc = some i ∧ mt.2.2.2.1 = rt := by
  unfold ma_cd at h
  split at h
  · rename_i mt hm
    split at h
    · rename_i j hj
      cases h
      exact ⟨mt, hm, hj, rfl⟩
    · cases h
  · cases h
theorem ma_ex_one {cls : List vw_C} {P : List ma_M} {scr : Nat × (Nat → Int32)} {n d mi : Nat} {f f' : ma_F} {rt : Option FieldType} {i : ma_I} (h : ma_cd P mi f.1 = some (rt, i)) (h1 : ma_callee i = none) (h2 : ma_isr i.1 = false) (h3 : ma_one cls scr d i f = some f') : ma_ex cls P scr (n + 1) d mi f = ma_ex cls P scr n d mi f' := by
  obtain ⟨mt, g1, g2, g3⟩ := ma_cd_at h
  rw [ma_ex, g1]
  dsimp only
  rw [g2]
  dsimp only
  rw [h1]
  dsimp only
  rw [if_neg (by rw [h2]; decide), h3]
theorem ma_ex_ret {cls : List vw_C} {P : List ma_M} {scr : Nat × (Nat → Int32)} {n d mi : Nat} {f : ma_F} {rt : Option FieldType} {i : ma_I} {r : Option Value} (h : ma_cd P mi f.1 = some (rt, i)) (h1 : ma_callee i = none) (h2 : ma_isr i.1 = true) (h3 : ma_rt rt i f = some r) : ma_ex cls P scr (n + 1) d mi f = some (r, f.2.2.2) := by
  obtain ⟨mt, g1, g2, g3⟩ := ma_cd_at h
  rw [ma_ex, g1]
  dsimp only
  rw [g2]
  dsimp only
  rw [h1]
  dsimp only
  rw [if_pos h2, g3, h3]
theorem ma_ex_call {cls : List vw_C} {P : List ma_M} {scr : Nat × (Nat → Int32)} {n d mi : Nat} {f : ma_F} {rt : Option FieldType} {i : ma_I} {cy : Nat} {my : ma_M} {r : Option Value} {σ : ma_S} {mc ms : Nat} (h : ma_cd P mi f.1 = some (rt, i)) (h1 : ma_callee i = some cy) (h2 : P[cy]? = some my) (h3 : ¬ (f.2.2.1.length < i.2.2.2.1 ∨ 8 + i.2.2.2.1 < f.2.2.1.length ∨ my.2.2.1 < i.2.2.2.1 ∨ ma_rcv i (f.2.2.1.take i.2.2.2.1).reverse f.2.2.2.1 = false))
    (h4 : ma_ex cls P scr n d cy (ma_in my (f.2.2.1.take i.2.2.2.1).reverse f.2.2.2.1) = some (r, σ, mc, ms)) : ma_ex cls P scr (n + 1) (d + 1) mi f = ma_ex cls P scr n (d + 1) mi (f.1 + 3, f.2.1, r.toList ++ f.2.2.1.drop i.2.2.2.1, σ, f.2.2.2.2.1 + mc, f.2.2.2.2.2 + ms) := by
  obtain ⟨mt, g1, g2, g3⟩ := ma_cd_at h
  rw [ma_ex, g1]
  dsimp only
  rw [g2]
  dsimp only
  rw [h1]
  dsimp only
  rw [h2]
  dsimp only
  rw [if_neg h3, h4]
theorem ma_mono {cls : List vw_C} {P : List ma_M} {scr : Nat × (Nat → Int32)} : ∀ (n d mi : Nat) (f : ma_F) (x : Option Value × ma_S × Nat × Nat), ma_ex cls P scr n d mi f = some x → ma_ex cls P scr (n + 1) d mi f = some x := by
  intro n
  induction n with
  | zero => intro d mi f x h; simp [ma_ex] at h
  | succ n ih =>
    intro d mi f x h
    rw [ma_ex] at h ⊢
    cases hm : P[mi]? with
    | none => rw [hm] at h; cases h
    | some mt =>
      rw [hm] at h
      dsimp only at h ⊢
      cases hi : mt.2.2.2.2.2.2.lookup f.1 with
      | none => rw [hi] at h; cases h
      | some i =>
        rw [hi] at h
        dsimp only at h ⊢
        cases hcy : ma_callee i with
        | some cy =>
          rw [hcy] at h
          dsimp only at h ⊢
          cases d with
          | zero => cases h
          | succ d' =>
            dsimp only at h ⊢
            cases hmy : P[cy]? with
            | none => rw [hmy] at h; cases h
            | some my =>
              rw [hmy] at h
              dsimp only at h ⊢
              by_cases hcond : f.2.2.1.length < i.2.2.2.1 ∨ 8 + i.2.2.2.1 < f.2.2.1.length ∨ my.2.2.1 < i.2.2.2.1 ∨ ma_rcv i (f.2.2.1.take i.2.2.2.1).reverse f.2.2.2.1 = false
              · rw [if_pos hcond] at h; cases h
              · rw [if_neg hcond] at h ⊢
                cases h4 : ma_ex cls P scr n d' cy (ma_in my (f.2.2.1.take i.2.2.2.1).reverse f.2.2.2.1) with
                | none => rw [h4] at h; cases h
                | some res =>
                  rw [h4] at h
                  rw [ih _ _ _ _ h4]
                  obtain ⟨r, σ, mc, ms⟩ := res
                  dsimp only at h ⊢
                  exact ih _ _ _ _ h
        | none =>
          rw [hcy] at h
          dsimp only at h ⊢
          by_cases h2 : ma_isr i.1 = true
          · rw [if_pos h2] at h ⊢
            exact h
          · rw [if_neg h2] at h ⊢
            cases h3 : ma_one cls scr d i f with
            | none => rw [h3] at h; cases h
            | some f' =>
              rw [h3] at h
              dsimp only at h ⊢
              exact ih _ _ _ _ h
theorem ma_mono_le {cls : List vw_C} {P : List ma_M} {scr : Nat × (Nat → Int32)} {n n' d mi : Nat} {f : ma_F} {x : Option Value × ma_S × Nat × Nat} (hn : n ≤ n') (h : ma_ex cls P scr n d mi f = some x) : ma_ex cls P scr n' d mi f = some x := by
  induction hn with
  | refl => exact h
  | step _ ih => exact ma_mono _ _ _ _ _ ih
/-- from here the method ends, with Post of its answer and the filling behind it; no cell is made -/
def Ev (cls : List vw_C) (P : List ma_M) (scr : Nat × (Nat → Int32)) (K : List sk_K) (d mi pc : Nat) (L : List (Option Value)) (st : List Value) (S : sk_S) (Post : Option Int → sk_S → Prop) : Prop :=
  (∀ k j, rg (S k j)) → ∃ (n : Nat) (r : Option Int) (S' : sk_S), (∀ c s : Nat, ma_ex cls P scr n d mi (pc, L, st, sk_e S 0 K, c, s) = some (r.map vi, sk_e S' 0 K, c, s)) ∧ (∀ k j, rg (S' k j)) ∧ (∀ x, r = some x → rg x) ∧ Post r S'
/-- a number comes back; nothing comes back -/
def pI (T : Int → sk_S → Prop) : Option Int → sk_S → Prop := fun r S => ∃ x, r = some x ∧ T x S
def pV (T : sk_S → Prop) : Option Int → sk_S → Prop := fun r S => r = none ∧ T S
section EV
variable {cls : List vw_C} {P : List ma_M} {scr : Nat × (Nat → Int32)} {K : List sk_K} {d mi pc : Nat} {L : List (Option Value)} {st : List Value} {S : sk_S} {Post : Option Int → sk_S → Prop} {rt : Option FieldType}
theorem Ev.mono {Post' : Option Int → sk_S → Prop} (h : Ev cls P scr K d mi pc L st S Post) (hp : ∀ r S', (∀ k j, rg (S' k j)) → (∀ x, r = some x → rg x) → Post r S' → Post' r S') : Ev cls P scr K d mi pc L st S Post' := by
  intro hS
  obtain ⟨n, r, S', h1, h2, h3, h4⟩ := h hS
  exact ⟨n, r, S', h1, h2, h3, hp r S' h2 h3 h4⟩
theorem Ev.good (h : (∀ k j, rg (S k j)) → Ev cls P scr K d mi pc L st S Post) : Ev cls P scr K d mi pc L st S Post := fun hS => h hS hS
theorem Ev.I {T T' : Int → sk_S → Prop} (h : Ev cls P scr K d mi pc L st S (pI T)) (hp : ∀ x S', (∀ k j, rg (S' k j)) → rg x → T x S' → T' x S') : Ev cls P scr K d mi pc L st S (pI T') :=
  h.mono fun r S' g1 g2 ⟨x, h1, h2⟩ => ⟨x, h1, hp x S' g1 (g2 x h1) h2⟩
theorem Ev.V {T T' : sk_S → Prop} (h : Ev cls P scr K d mi pc L st S (pV T)) (hp : ∀ S', (∀ k j, rg (S' k j)) → T S' → T' S') : Ev cls P scr K d mi pc L st S (pV T') :=
  h.mono fun r S' g1 _ ⟨h1, h2⟩ => ⟨h1, hp S' g1 h2⟩
theorem ev_one {i : ma_I} {pc' : Nat} {L' : List (Option Value)} {st' : List Value} {S' : sk_S} (k : Ev cls P scr K d mi pc' L' st' S' Post) (hc : ma_cd P mi pc = some (rt, i)) (h1 : ma_callee i = none) (h2 : ma_isr i.1 = false) (hs : ∀ c s : Nat, ma_one cls scr d i (pc, L, st, sk_e S 0 K, c, s) = some (pc', L', st', sk_e S' 0 K, c, s)) (hg : (∀ k j, rg (S k j)) → ∀ k j, rg (S' k j)) : Ev cls P scr K d mi pc L st S Post := by
  intro hS
  obtain ⟨n, r, S2, h3, h4⟩ := k (hg hS)
  exact ⟨n + 1, r, S2, fun c s => by rw [ma_ex_one hc h1 h2 (hs c s)]; exact h3 c s, h4⟩
theorem ev_iconst {v : Int} (hc : ma_cd P mi pc = some (rt, .iconst v, 1, 0, 0, 0)) (k : Ev cls P scr K d mi (pc + 1) L (vi v :: st) S Post) : Ev cls P scr K d mi pc L st S Post := ev_one k hc rfl rfl (fun _ _ => rfl) id
theorem ev_bipush {v w : Int} (hc : ma_cd P mi pc = some (rt, .bipush v, 2, 0, 0, 0)) (hw : (Int8.ofInt v).toInt32 = Int32.ofInt w) (k : Ev cls P scr K d mi (pc + 2) L (vi w :: st) S Post) : Ev cls P scr K d mi pc L st S Post := ev_one k hc rfl rfl (fun _ _ => by unfold vi; rw [← hw]; rfl) id
theorem ev_sipush {v w : Int} (hc : ma_cd P mi pc = some (rt, .sipush v, 3, 0, 0, 0)) (hw : (Int16.ofInt v).toInt32 = Int32.ofInt w) (k : Ev cls P scr K d mi (pc + 3) L (vi w :: st) S Post) : Ev cls P scr K d mi pc L st S Post := ev_one k hc rfl rfl (fun _ _ => by unfold vi; rw [← hw]; rfl) id
theorem ma_ild_at {f : ma_F} {j n : Nat} {x : Int32} (hj : f.2.1[j]? = some (some (.int x))) : ma_ild f j n = ma_go f n (.int x :: f.2.2.1) := by unfold ma_ild; rw [hj]
theorem ma_ald_at {f : ma_F} {j n : Nat} {x : Nat} (hj : f.2.1[j]? = some (some (.ref x))) : ma_ald f j n = ma_go f n (.ref x :: f.2.2.1) := by unfold ma_ald; rw [hj]
theorem ev_iload_n {j : Fin 4} {x : Int} (hc : ma_cd P mi pc = some (rt, .iload_n j, 1, 0, 0, 0)) (hj : L[(j : Nat)]? = some (some (vi x))) (k : Ev cls P scr K d mi (pc + 1) L (vi x :: st) S Post) : Ev cls P scr K d mi pc L st S Post := ev_one k hc rfl rfl (fun _ _ => ma_ild_at hj) id
theorem ev_iload {j : Nat} {x : Int} (hc : ma_cd P mi pc = some (rt, .iload j, 2, 0, 0, 0)) (hj : L[j]? = some (some (vi x))) (k : Ev cls P scr K d mi (pc + 2) L (vi x :: st) S Post) : Ev cls P scr K d mi pc L st S Post := ev_one k hc rfl rfl (fun _ _ => ma_ild_at hj) id
theorem ev_aload_n {j : Fin 4} {x : Nat} (hc : ma_cd P mi pc = some (rt, .aload_n j, 1, 0, 0, 0)) (hj : L[(j : Nat)]? = some (some (.ref x))) (k : Ev cls P scr K d mi (pc + 1) L (.ref x :: st) S Post) : Ev cls P scr K d mi pc L st S Post := ev_one k hc rfl rfl (fun _ _ => ma_ald_at hj) id
theorem ev_aload {j : Nat} {x : Nat} (hc : ma_cd P mi pc = some (rt, .aload j, 2, 0, 0, 0)) (hj : L[j]? = some (some (.ref x))) (k : Ev cls P scr K d mi (pc + 2) L (.ref x :: st) S Post) : Ev cls P scr K d mi pc L st S Post := ev_one k hc rfl rfl (fun _ _ => ma_ald_at hj) id
theorem ma_ald_sc {f : ma_F} {j n : Nat} {x : Nat} (hj : f.2.1[j]? = some (some (.retAddr x))) : ma_ald f j n = ma_go f n (.retAddr x :: f.2.2.1) := by unfold ma_ald; rw [hj]
theorem ev_sload_n {j : Fin 4} {x : Nat} (hc : ma_cd P mi pc = some (rt, .aload_n j, 1, 0, 0, 0)) (hj : L[(j : Nat)]? = some (some (.retAddr x))) (k : Ev cls P scr K d mi (pc + 1) L (.retAddr x :: st) S Post) : Ev cls P scr K d mi pc L st S Post := ev_one k hc rfl rfl (fun _ _ => ma_ald_sc hj) id
theorem ma_sto_at {f : ma_F} {j n : Nat} {v : Value} {st' : List Value} (hj : j < f.2.1.length) : ma_sto f j n v st' = some (f.1 + n, f.2.1.set j (some v), st', f.2.2.2) := by unfold ma_sto; rw [if_pos hj]
theorem ev_istore_n {j : Fin 4} {x : Int} {L' : List (Option Value)} (hc : ma_cd P mi pc = some (rt, .istore_n j, 1, 0, 0, 0)) (hj : (j : Nat) < L.length) (hL : L.set (j : Nat) (some (vi x)) = L') (k : Ev cls P scr K d mi (pc + 1) L' st S Post) : Ev cls P scr K d mi pc L (vi x :: st) S Post := by
  subst hL
  exact ev_one k hc rfl rfl (fun _ _ => ma_sto_at hj) id
theorem ev_istore {j : Nat} {x : Int} {L' : List (Option Value)} (hc : ma_cd P mi pc = some (rt, .istore j, 2, 0, 0, 0)) (hj : j < L.length) (hL : L.set j (some (vi x)) = L') (k : Ev cls P scr K d mi (pc + 2) L' st S Post) : Ev cls P scr K d mi pc L (vi x :: st) S Post := by
  subst hL
  exact ev_one k hc rfl rfl (fun _ _ => ma_sto_at hj) id
theorem ev_astore_n {j : Fin 4} {x : Nat} {L' : List (Option Value)} (hc : ma_cd P mi pc = some (rt, .astore_n j, 1, 0, 0, 0)) (hj : (j : Nat) < L.length) (hL : L.set (j : Nat) (some (.ref x)) = L') (k : Ev cls P scr K d mi (pc + 1) L' st S Post) : Ev cls P scr K d mi pc L (.ref x :: st) S Post := by
  subst hL
  exact ev_one k hc rfl rfl (fun _ _ => ma_sto_at hj) id
theorem ev_astore {j : Nat} {x : Nat} {L' : List (Option Value)} (hc : ma_cd P mi pc = some (rt, .astore j, 2, 0, 0, 0)) (hj : j < L.length) (hL : L.set j (some (.ref x)) = L') (k : Ev cls P scr K d mi (pc + 2) L' st S Post) : Ev cls P scr K d mi pc L (.ref x :: st) S Post := by
  subst hL
  exact ev_one k hc rfl rfl (fun _ _ => ma_sto_at hj) id
theorem ev_iinc {j : Nat} {v x : Int} {L' : List (Option Value)} (hc : ma_cd P mi pc = some (rt, .iinc j v, 3, 0, 0, 0)) (hj : L[j]? = some (some (vi x))) (hL : L.set j (some (vi (x + v))) = L') (k : Ev cls P scr K d mi (pc + 3) L' st S Post) : Ev cls P scr K d mi pc L st S Post := by
  subst hL
  refine ev_one k hc rfl rfl (fun c s => ?_) id
  have hl : j < L.length := (List.getElem?_eq_some_iff.mp hj).1
  have e : ma_one cls scr d (.iinc j v, 3, 0, 0, 0) (pc, L, st, sk_e S 0 K, c, s) = ma_sto (pc, L, st, sk_e S 0 K, c, s) j 3 (.int (Int32.ofInt x + Int32.ofInt v)) st := by
    show (match L[j]? with
      | some (some (.int x)) => ma_sto (pc, L, st, sk_e S 0 K, c, s) j 3 (.int (x + Int32.ofInt v)) st
      | _ => none) = _
    rw [hj]
  rw [e, ma_sto_at hl, ← Int32.ofInt_add]
theorem ev_iadd {x y : Int} (hc : ma_cd P mi pc = some (rt, .iadd, 1, 0, 0, 0)) (k : Ev cls P scr K d mi (pc + 1) L (vi (x + y) :: st) S Post) : Ev cls P scr K d mi pc L (vi y :: vi x :: st) S Post := ev_one k hc rfl rfl (fun _ _ => by unfold vi; rw [Int32.ofInt_add]; rfl) id
theorem ev_isub {x y : Int} (hc : ma_cd P mi pc = some (rt, .isub, 1, 0, 0, 0)) (k : Ev cls P scr K d mi (pc + 1) L (vi (x - y) :: st) S Post) : Ev cls P scr K d mi pc L (vi y :: vi x :: st) S Post := ev_one k hc rfl rfl (fun _ _ => by unfold vi; rw [Int32.ofInt_sub]; rfl) id
theorem ev_imul {x y : Int} (hc : ma_cd P mi pc = some (rt, .imul, 1, 0, 0, 0)) (k : Ev cls P scr K d mi (pc + 1) L (vi (x * y) :: st) S Post) : Ev cls P scr K d mi pc L (vi y :: vi x :: st) S Post := ev_one k hc rfl rfl (fun _ _ => by unfold vi; rw [Int32.ofInt_mul]; rfl) id
theorem ev_ineg {x : Int} (hc : ma_cd P mi pc = some (rt, .ineg, 1, 0, 0, 0)) (k : Ev cls P scr K d mi (pc + 1) L (vi (-x) :: st) S Post) : Ev cls P scr K d mi pc L (vi x :: st) S Post := ev_one k hc rfl rfl (fun _ _ => by unfold vi; rw [Int32.ofInt_neg]; rfl) id
theorem ev_dup {v : Value} (hc : ma_cd P mi pc = some (rt, .dup, 1, 0, 0, 0)) (k : Ev cls P scr K d mi (pc + 1) L (v :: v :: st) S Post) : Ev cls P scr K d mi pc L (v :: st) S Post := ev_one k hc rfl rfl (fun _ _ => rfl) id
theorem ev_dup2 {v w : Value} (hc : ma_cd P mi pc = some (rt, .dup2, 1, 0, 0, 0)) (k : Ev cls P scr K d mi (pc + 1) L (v :: w :: v :: w :: st) S Post) : Ev cls P scr K d mi pc L (v :: w :: st) S Post := ev_one k hc rfl rfl (fun _ _ => rfl) id
theorem ev_dup_x1 {v w : Value} (hc : ma_cd P mi pc = some (rt, .dup_x1, 1, 0, 0, 0)) (k : Ev cls P scr K d mi (pc + 1) L (v :: w :: v :: st) S Post) : Ev cls P scr K d mi pc L (v :: w :: st) S Post := ev_one k hc rfl rfl (fun _ _ => rfl) id
theorem ev_pop {v : Value} (hc : ma_cd P mi pc = some (rt, .pop, 1, 0, 0, 0)) (k : Ev cls P scr K d mi (pc + 1) L st S Post) : Ev cls P scr K d mi pc L (v :: st) S Post := ev_one k hc rfl rfl (fun _ _ => rfl) id
theorem ev_idiv {x y : Int} (hc : ma_cd P mi pc = some (rt, .idiv, 1, 0, 0, 0)) (hx : rg x) (hx0 : 0 ≤ x) (hy : rg y) (hy0 : 0 < y) (k : Ev cls P scr K d mi (pc + 1) L (vi (x / y) :: st) S Post) : Ev cls P scr K d mi pc L (vi y :: vi x :: st) S Post := by
  refine ev_one k hc rfl rfl (fun c s => ?_) id
  have hne : ¬ Int32.ofInt y = 0 := by rw [← rg_z, rg_eq hy rg_0]; omega
  have e : Int32.ofInt (x / y) = Int32.ofInt x / Int32.ofInt y := by
    rw [← Int.tdiv_eq_ediv_of_nonneg hx0]
    exact Int32.ofInt_tdiv hx.1 (by have := hx.2; show x ≤ 2147483647; omega) hy.1 (by have := hy.2; show y ≤ 2147483647; omega)
  show (if Int32.ofInt y = 0 then none else ma_go (pc, L, vi y :: vi x :: st, sk_e S 0 K, c, s) 1 (.int (Int32.ofInt x / Int32.ofInt y) :: st)) = _
  rw [if_neg hne, ← e]
  rfl
theorem ev_irem {x y : Int} (hc : ma_cd P mi pc = some (rt, .irem, 1, 0, 0, 0)) (hx : rg x) (hx0 : 0 ≤ x) (hy : rg y) (hy0 : 0 < y) (k : Ev cls P scr K d mi (pc + 1) L (vi (x % y) :: st) S Post) : Ev cls P scr K d mi pc L (vi y :: vi x :: st) S Post := by
  refine ev_one k hc rfl rfl (fun c s => ?_) id
  have hne : ¬ Int32.ofInt y = 0 := by rw [← rg_z, rg_eq hy rg_0]; omega
  have e : Int32.ofInt (x / y) = Int32.ofInt x / Int32.ofInt y := by
    rw [← Int.tdiv_eq_ediv_of_nonneg hx0]
    exact Int32.ofInt_tdiv hx.1 (by have := hx.2; show x ≤ 2147483647; omega) hy.1 (by have := hy.2; show y ≤ 2147483647; omega)
  have e2 : Int32.ofInt (x % y) = Int32.ofInt x - Int32.ofInt x / Int32.ofInt y * Int32.ofInt y := by
    rw [← e, ← Int32.ofInt_mul, ← Int32.ofInt_sub, Int.emod_def, Int.mul_comm]
  show (if Int32.ofInt y = 0 then none else ma_go (pc, L, vi y :: vi x :: st, sk_e S 0 K, c, s) 1 (.int (Int32.ofInt x - Int32.ofInt x / Int32.ofInt y * Int32.ofInt y) :: st)) = _
  rw [if_neg hne, ← e2]
  rfl
theorem rg_and31 (x : Int) : Int32.ofInt x &&& Int32.ofInt 31 = Int32.ofInt (x % 32) := by
  apply Int32.toBitVec.inj
  apply BitVec.eq_of_toNat_eq
  have e1 : (Int32.ofInt x &&& Int32.ofInt 31).toBitVec = BitVec.ofInt 32 x &&& 31#32 := rfl
  have e2 : (Int32.ofInt (x % 32)).toBitVec = BitVec.ofInt 32 (x % 32) := rfl
  rw [e1, e2, BitVec.toNat_and, BitVec.toNat_ofInt, BitVec.toNat_ofInt]
  have e3 : (31#32).toNat = 2 ^ 5 - 1 := rfl
  rw [e3, Nat.and_two_pow_sub_one_eq_mod]
  omega
theorem ev_iand31 {x : Int} (hc : ma_cd P mi pc = some (rt, .iand, 1, 0, 0, 0)) (k : Ev cls P scr K d mi (pc + 1) L (vi (x % 32) :: st) S Post) : Ev cls P scr K d mi pc L (vi 31 :: vi x :: st) S Post := ev_one k hc rfl rfl (fun _ _ => by unfold vi; rw [← rg_and31]; rfl) id
theorem ev_ixor {x y : Int} (hc : ma_cd P mi pc = some (rt, .ixor, 1, 0, 0, 0)) (hx : rg x) (hx0 : 0 ≤ x) (hy : rg y) (hy0 : 0 ≤ y) (k : ∀ z, 0 ≤ z → rg z → Ev cls P scr K d mi (pc + 1) L (vi z :: st) S Post) : Ev cls P scr K d mi pc L (vi y :: vi x :: st) S Post := by
  have h0 : ∀ w : Int, rg w → 0 ≤ w → (Int32.ofInt w).toBitVec.msb = false := by
    intro w hw hw0
    rw [← Bool.not_eq_true, BitVec.msb_eq_toInt, decide_eq_true_eq]
    have : (Int32.ofInt w).toBitVec.toInt = w := rg_to hw
    omega
  have hz : rg (Int32.ofInt x ^^^ Int32.ofInt y).toInt := ⟨Int32.le_toInt _, Int32.toInt_lt _⟩
  have hm : (Int32.ofInt x ^^^ Int32.ofInt y).toBitVec.msb = false := by
    show ((Int32.ofInt x).toBitVec ^^^ (Int32.ofInt y).toBitVec).msb = false
    rw [BitVec.msb_xor, h0 x hx hx0, h0 y hy hy0]
    rfl
  have hz0 : 0 ≤ (Int32.ofInt x ^^^ Int32.ofInt y).toInt := by
    rw [← Bool.not_eq_true, BitVec.msb_eq_toInt, decide_eq_true_eq] at hm
    show 0 ≤ (Int32.ofInt x ^^^ Int32.ofInt y).toBitVec.toInt
    omega
  refine ev_one (k (Int32.ofInt x ^^^ Int32.ofInt y).toInt hz0 hz) hc rfl rfl (fun _ _ => ?_) id
  unfold vi
  rw [Int32.ofInt_toInt]
  rfl
end EV
