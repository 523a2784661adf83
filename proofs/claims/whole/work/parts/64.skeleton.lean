/-! 64.skeleton: the cells behind the constructors (written by gen3.py) -/
def KK : List sk_K := [.inr (.inr (0, [some 1, some 32, some 55, some 62])), .inr (.inr (5, [none, some 9, some 10, some 23, some 2, some 8])), .inr (.inr (4, [some 3, some 6, some 7])), .inr (.inl (4, 2)), .inl 1000, .inl 1000, .inl 2, .inl 2, .inr (.inr (1, [none, none, none])), .inr (.inr (7, [none, none, none, some 10, some 23])), .inr (.inr (2, [none, some 11, some 12, some 13, some 14, some 15, some 16, some 17, some 18, some 19, some 22])), .inl 200, .inl 200, .inl 200, .inl 200, .inl 200, .inl 200, .inl 200, .inl 200, .inr (.inl (20, 2)), .inl 40, .inl 40, .inl 2, .inr (.inr (6, [some 24, some 25, some 26, some 27])), .inl 4, .inl 4, .inl 4, .inr (.inl (28, 4)), .inl 128, .inl 128, .inl 128, .inl 128, .inr (.inr (7, [none, none, none, some 33, some 46])), .inr (.inr (2, [none, some 34, some 35, some 36, some 37, some 38, some 39, some 40, some 41, some 42, some 45])), .inl 200, .inl 200, .inl 200, .inl 200, .inl 200, .inl 200, .inl 200, .inl 200, .inr (.inl (43, 2)), .inl 40, .inl 40, .inl 2, .inr (.inr (6, [some 47, some 48, some 49, some 50])), .inl 4, .inl 4, .inl 4, .inr (.inl (51, 4)), .inl 128, .inl 128, .inl 128, .inl 128, .inr (.inr (3, [none, some 56, some 57, some 58, some 59])), .inl 64, .inl 64, .inl 64, .inr (.inl (60, 2)), .inl 1000, .inl 1000, .inr (.inr (8, [none, some 63])), .inr (.inl (64, 2)), .inl 1000, .inl 1000, .inr (.inr (9, [none, some 67, some 68, some 69, some 70, some 71, some 72, some 73, some 74, some 75, some 76, none, some 77, some 78, some 79, none, none, none, some 80, some 81, some 82, some 83, none, none])), .inl 32, .inl 400, .inl 400, .inl 400, .inl 400, .inl 400, .inl 400, .inl 400, .inl 400, .inl 400, .inl 1024, .inl 1001, .inl 1001, .inl 2000, .inl 2000, .inl 64, .inl 64]
theorem kk0 : KK[0]? = some (.inr (.inr (0, [some 1, some 32, some 55, some 62]))) := rfl
theorem kk1 : KK[1]? = some (.inr (.inr (5, [none, some 9, some 10, some 23, some 2, some 8]))) := rfl
theorem kk2 : KK[2]? = some (.inr (.inr (4, [some 3, some 6, some 7]))) := rfl
theorem kk3 : KK[3]? = some (.inr (.inl (4, 2))) := rfl
theorem kk4 : KK[4]? = some (.inl 1000) := rfl
theorem kk5 : KK[5]? = some (.inl 1000) := rfl
theorem kk6 : KK[6]? = some (.inl 2) := rfl
theorem kk7 : KK[7]? = some (.inl 2) := rfl
theorem kk8 : KK[8]? = some (.inr (.inr (1, [none, none, none]))) := rfl
theorem kk9 : KK[9]? = some (.inr (.inr (7, [none, none, none, some 10, some 23]))) := rfl
theorem kk10 : KK[10]? = some (.inr (.inr (2, [none, some 11, some 12, some 13, some 14, some 15, some 16, some 17, some 18, some 19, some 22]))) := rfl
theorem kk11 : KK[11]? = some (.inl 200) := rfl
theorem kk12 : KK[12]? = some (.inl 200) := rfl
theorem kk13 : KK[13]? = some (.inl 200) := rfl
theorem kk14 : KK[14]? = some (.inl 200) := rfl
theorem kk15 : KK[15]? = some (.inl 200) := rfl
theorem kk16 : KK[16]? = some (.inl 200) := rfl
theorem kk17 : KK[17]? = some (.inl 200) := rfl
theorem kk18 : KK[18]? = some (.inl 200) := rfl
theorem kk19 : KK[19]? = some (.inr (.inl (20, 2))) := rfl
theorem kk20 : KK[20]? = some (.inl 40) := rfl
theorem kk21 : KK[21]? = some (.inl 40) := rfl
theorem kk22 : KK[22]? = some (.inl 2) := rfl
theorem kk23 : KK[23]? = some (.inr (.inr (6, [some 24, some 25, some 26, some 27]))) := rfl
theorem kk24 : KK[24]? = some (.inl 4) := rfl
theorem kk25 : KK[25]? = some (.inl 4) := rfl
theorem kk26 : KK[26]? = some (.inl 4) := rfl
theorem kk27 : KK[27]? = some (.inr (.inl (28, 4))) := rfl
theorem kk28 : KK[28]? = some (.inl 128) := rfl
theorem kk29 : KK[29]? = some (.inl 128) := rfl
theorem kk30 : KK[30]? = some (.inl 128) := rfl
theorem kk31 : KK[31]? = some (.inl 128) := rfl
theorem kk32 : KK[32]? = some (.inr (.inr (7, [none, none, none, some 33, some 46]))) := rfl
theorem kk33 : KK[33]? = some (.inr (.inr (2, [none, some 34, some 35, some 36, some 37, some 38, some 39, some 40, some 41, some 42, some 45]))) := rfl
theorem kk34 : KK[34]? = some (.inl 200) := rfl
theorem kk35 : KK[35]? = some (.inl 200) := rfl
theorem kk36 : KK[36]? = some (.inl 200) := rfl
theorem kk37 : KK[37]? = some (.inl 200) := rfl
theorem kk38 : KK[38]? = some (.inl 200) := rfl
theorem kk39 : KK[39]? = some (.inl 200) := rfl
theorem kk40 : KK[40]? = some (.inl 200) := rfl
theorem kk41 : KK[41]? = some (.inl 200) := rfl
theorem kk42 : KK[42]? = some (.inr (.inl (43, 2))) := rfl
theorem kk43 : KK[43]? = some (.inl 40) := rfl
theorem kk44 : KK[44]? = some (.inl 40) := rfl
theorem kk45 : KK[45]? = some (.inl 2) := rfl
theorem kk46 : KK[46]? = some (.inr (.inr (6, [some 47, some 48, some 49, some 50]))) := rfl
theorem kk47 : KK[47]? = some (.inl 4) := rfl
theorem kk48 : KK[48]? = some (.inl 4) := rfl
theorem kk49 : KK[49]? = some (.inl 4) := rfl
theorem kk50 : KK[50]? = some (.inr (.inl (51, 4))) := rfl
theorem kk51 : KK[51]? = some (.inl 128) := rfl
theorem kk52 : KK[52]? = some (.inl 128) := rfl
theorem kk53 : KK[53]? = some (.inl 128) := rfl
theorem kk54 : KK[54]? = some (.inl 128) := rfl
theorem kk55 : KK[55]? = some (.inr (.inr (3, [none, some 56, some 57, some 58, some 59]))) := rfl
theorem kk56 : KK[56]? = some (.inl 64) := rfl
theorem kk57 : KK[57]? = some (.inl 64) := rfl
theorem kk58 : KK[58]? = some (.inl 64) := rfl
theorem kk59 : KK[59]? = some (.inr (.inl (60, 2))) := rfl
theorem kk60 : KK[60]? = some (.inl 1000) := rfl
theorem kk61 : KK[61]? = some (.inl 1000) := rfl
theorem kk62 : KK[62]? = some (.inr (.inr (8, [none, some 63]))) := rfl
theorem kk63 : KK[63]? = some (.inr (.inl (64, 2))) := rfl
theorem kk64 : KK[64]? = some (.inl 1000) := rfl
theorem kk65 : KK[65]? = some (.inl 1000) := rfl
theorem kk66 : KK[66]? = some (.inr (.inr (9, [none, some 67, some 68, some 69, some 70, some 71, some 72, some 73, some 74, some 75, some 76, none, some 77, some 78, some 79, none, none, none, some 80, some 81, some 82, some 83, none, none]))) := rfl
theorem kk67 : KK[67]? = some (.inl 32) := rfl
theorem kk68 : KK[68]? = some (.inl 400) := rfl
theorem kk69 : KK[69]? = some (.inl 400) := rfl
theorem kk70 : KK[70]? = some (.inl 400) := rfl
theorem kk71 : KK[71]? = some (.inl 400) := rfl
theorem kk72 : KK[72]? = some (.inl 400) := rfl
theorem kk73 : KK[73]? = some (.inl 400) := rfl
theorem kk74 : KK[74]? = some (.inl 400) := rfl
theorem kk75 : KK[75]? = some (.inl 400) := rfl
theorem kk76 : KK[76]? = some (.inl 400) := rfl
theorem kk77 : KK[77]? = some (.inl 1024) := rfl
theorem kk78 : KK[78]? = some (.inl 1001) := rfl
theorem kk79 : KK[79]? = some (.inl 1001) := rfl
theorem kk80 : KK[80]? = some (.inl 2000) := rfl
theorem kk81 : KK[81]? = some (.inl 2000) := rfl
theorem kk82 : KK[82]? = some (.inl 64) := rfl
theorem kk83 : KK[83]? = some (.inl 64) := rfl
theorem kkr4 : ∀ t, t < 2 → KK[4 + t]? = some (.inl 1000)
  | 0, _ => rfl
  | 1, _ => rfl
theorem kkr20 : ∀ t, t < 2 → KK[20 + t]? = some (.inl 40)
  | 0, _ => rfl
  | 1, _ => rfl
theorem kkr28 : ∀ t, t < 4 → KK[28 + t]? = some (.inl 128)
  | 0, _ => rfl
  | 1, _ => rfl
  | 2, _ => rfl
  | 3, _ => rfl
theorem kkr43 : ∀ t, t < 2 → KK[43 + t]? = some (.inl 40)
  | 0, _ => rfl
  | 1, _ => rfl
theorem kkr51 : ∀ t, t < 4 → KK[51 + t]? = some (.inl 128)
  | 0, _ => rfl
  | 1, _ => rfl
  | 2, _ => rfl
  | 3, _ => rfl
theorem kkr60 : ∀ t, t < 2 → KK[60 + t]? = some (.inl 1000)
  | 0, _ => rfl
  | 1, _ => rfl
theorem kkr64 : ∀ t, t < 2 → KK[64 + t]? = some (.inl 1000)
  | 0, _ => rfl
  | 1, _ => rfl
abbrev EE (scr : Nat × (Nat → Int32)) (d mi pc : Nat) (L : List (Option Value)) (S : sk_S) (Post : Option Int → sk_S → Prop) : Prop := Ev CLS PP scr KK d mi pc L [] S Post
theorem rg_c (c : Int) (h : decide (-2147483648 ≤ c ∧ c < 2147483648) = true) : rg c := by
  unfold rg
  exact of_decide_eq_true h
theorem rg_max {x y : Int} (hx : rg x) (hy : rg y) : rg (max x y) := by unfold rg at *; omega
theorem rg_min {x y : Int} (hx : rg x) (hy : rg y) : rg (min x y) := by unfold rg at *; omega
theorem rg_mod {x y : Int} (hy : rg y) (h : 0 < y) : rg (x % y) := by
  have h1 := Int.emod_nonneg x (show y ≠ 0 by omega)
  have h2 := Int.emod_lt_of_pos x h
  unfold rg at *
  omega
theorem rg_div {x y : Int} (hx : rg x) (h0 : 0 ≤ x) (h : 0 < y) : rg (x / y) := by
  have h1 := Int.ediv_nonneg h0 (show 0 ≤ y by omega)
  have h2 := Int.ediv_le_self y h0
  unfold rg at *
  omega
theorem rg_i32 (x : Int32) : rg x.toInt := ⟨Int32.le_toInt x, Int32.toInt_lt x⟩
theorem rg_sc {n : Nat} (h : n ≤ 65536) : rg (n : Int) := by unfold rg; omega
theorem ix_lt {i : Int} {n : Nat} (h0 : 0 ≤ i) (h1 : i < n) : i.toNat < n := by omega
