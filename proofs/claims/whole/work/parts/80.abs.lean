/-! 80.abs: the market as numbers and two lines.
Rows of M: 0 owner, 1 side, 2 kind, 3 status, 4 quantity, 5 price, 6 peak, 7 shown part (by order); 8: 0 accepted, 1 phase, 2 last, 3 reference; 9 expected, 10 extra, 11 number of reports (by session); 12 + s: the reports of session s, four numbers each. The lines: orders from the best on. -/
abbrev ab : Type := sk_S × (Nat → List Nat)
def ab_u (A : ab) (r j : Nat) (v : Int) : ab := (sk_u A.1 r j v, A.2)
def ab_l (A : ab) (s : Nat) (l : List Nat) : ab := (A.1, fun t => if t = s then l else A.2 t)
def ab_sd (A : ab) (i : Nat) : Nat := (A.1 1 i).toNat
def ab_tell (A : ab) (s t o q p : Int) : ab :=
  ab_u (ab_u (ab_u (ab_u (ab_u A (12 + s.toNat) (A.1 11 s.toNat % 32 * 4).toNat t) (12 + s.toNat) (A.1 11 s.toNat % 32 * 4 + 1).toNat o) (12 + s.toNat) (A.1 11 s.toNat % 32 * 4 + 2).toNat q) (12 + s.toNat) (A.1 11 s.toNat % 32 * 4 + 3).toNat p) 11 s.toNat (A.1 11 s.toNat + 1)
/-- the price that is told -/
def ab_told (A : ab) (i : Nat) : Int := if A.1 2 i = 1 ∨ A.1 2 i = 4 then 0 else A.1 5 i
/-- strictly better, on a side -/
def ab_bt (s : Int) (p q : Int) : Bool := if s = 0 then decide (q < p) else decide (p < q)
/-- into a line: behind all that are as good or better -/
def ab_ins (A : ab) (i : Nat) : List Nat → List Nat
  | [] => [i]
  | j :: l => if ab_bt (A.1 1 i) (A.1 5 i) (A.1 5 j) = true then i :: j :: l else j :: ab_ins A i l
def ab_rest (A : ab) (i : Nat) : ab := ab_l (ab_u (ab_u A 3 i 1) 7 i (min (A.1 6 i) (A.1 4 i))) (ab_sd A i) (ab_ins A i (A.2 (ab_sd A i)))
def ab_out (A : ab) (i : Nat) : ab := ab_u (ab_u (ab_l A (ab_sd A i) ((A.2 (ab_sd A i)).filter fun j => decide (¬ j = i))) 7 i 0) 3 i 0
def ab_drop (A : ab) (i : Nat) : ab := ab_u (ab_out (ab_tell A (A.1 0 i) 3 i (A.1 4 i) (ab_told A i)) i) 4 i 0
def ab_meets (A : ab) (b i : Nat) : Bool := decide (A.1 2 i = 1 ∨ A.1 2 i = 4) || (if A.1 1 i = 0 then decide (A.1 5 b ≤ A.1 5 i) else decide (A.1 5 i ≤ A.1 5 b))
def ab_wild (band : Int) (A : ab) (p : Int) : Bool := decide (band < p - A.1 8 3 ∨ band < A.1 8 3 - p)
/-- order i trades with the resting b -/
def ab_trade (A : ab) (b i : Nat) : ab :=
  let v := min (A.1 4 i) (A.1 7 b)
  let p := A.1 5 b
  let A1 := ab_tell (ab_tell (ab_u (ab_u (ab_u A 8 2 p) 4 i (A.1 4 i - v)) 4 b (A.1 4 b - v)) (A.1 0 b) 2 b v p) (A.1 0 i) 2 i v p
  if 0 < A.1 7 b - v then ab_u A1 7 b (A.1 7 b - v) else if 0 < A.1 4 b - v then ab_rest (ab_out A1 b) b else ab_out A1 b
def ab_loop (band : Int) : Nat → ab → Nat → ab
  | 0, A, _ => A
  | f + 1, A, i => if 0 < A.1 4 i then match A.2 (1 - ab_sd A i) with
    | [] => A
    | b :: _ => if ab_meets A b i = false then A else if ab_wild band A (A.1 5 b) = true then ab_u A 8 1 4 else if A.1 0 b = A.1 0 i then ab_loop band f (ab_drop A b) i else ab_loop band f (ab_trade A b i) i
    else A
def ab_settle (A : ab) (i : Nat) : ab := if A.1 4 i = 0 then A else if A.1 2 i = 0 ∨ A.1 2 i = 5 then ab_rest A i else ab_drop A i
def ab_sum (band : Int) (A : ab) (i : Nat) : List Nat → Int
  | [] => 0
  | b :: l => if ab_meets A b i = false ∨ ab_wild band A (A.1 5 b) = true then 0 else (if A.1 0 b = A.1 0 i then 0 else A.1 4 b) + ab_sum band A i l
def ab_match (band : Int) (A : ab) (i : Nat) : ab := ab_settle (ab_loop band 1040 A i) i
def ab_in (band : Int) (A : ab) (i : Nat) : ab :=
  if A.1 2 i = 4 then ab_u A 3 i 2
  else if A.1 8 1 = 2 ∧ (¬ A.1 2 i = 3 ∨ A.1 4 i ≤ ab_sum band A i (A.2 (1 - ab_sd A i))) then ab_match band A i else ab_settle A i
def ab_due (A : ab) (i : Nat) : Bool := decide (A.1 3 i = 2) && (if A.1 1 i = 0 then decide (A.1 5 i ≤ A.1 8 2) else decide (A.1 8 2 ≤ A.1 5 i))
def ab_n (A : ab) : Nat := (A.1 8 0).toNat
def ab_stop (A : ab) : Option Nat := (List.range (ab_n A)).find? (ab_due A)
def ab_stops (band : Int) : Nat → ab → ab
  | 0, A => A
  | f + 1, A => if A.1 8 1 = 2 then match ab_stop A with
    | none => A
    | some i => ab_stops band f (ab_match band (ab_u (ab_u A 3 i 0) 2 i 1) i)
    else A
def ab_dem (A : ab) (p : Int) : Int := ((A.2 0).map fun i => if p ≤ A.1 5 i then A.1 4 i else 0).sum
def ab_sup (A : ab) (p : Int) : Int := ((A.2 1).map fun i => if A.1 5 i ≤ p then A.1 4 i else 0).sum
/-- price, volume, imbalance: is p better -/
def ab_w1 (A : ab) (w : Int × Int × Int) (p : Int) : Int × Int × Int :=
  let v := min (ab_dem A p) (ab_sup A p)
  let m := max (ab_dem A p - ab_sup A p) (ab_sup A p - ab_dem A p)
  if 0 < v ∧ (w.2.1 < v ∨ (v = w.2.1 ∧ (m < w.2.2 ∨ (m = w.2.2 ∧ max (p - A.1 8 3) (A.1 8 3 - p) ≤ max (w.1 - A.1 8 3) (A.1 8 3 - w.1))))) then (p, v, m) else w
def ab_wto (A : ab) : Nat → Int × Int × Int
  | 0 => (0, 0, 0)
  | k + 1 => ab_w1 A (ab_wto A k) (k + 1)
/-- what an auction would come to -/
def ab_weigh (A : ab) : Int × Int × Int := ab_wto A 999
def ab_fill1 (A : ab) (i : Nat) (v p : Int) : ab :=
  let A1 := ab_tell (ab_u A 4 i (A.1 4 i - v)) (A.1 0 i) 2 i v p
  if A.1 4 i - v = 0 then ab_out A1 i else ab_u A1 7 i (min (A.1 6 i) (A.1 4 i - v))
def ab_fill (s : Nat) (p : Int) : Nat → ab → Int → ab
  | 0, A, _ => A
  | f + 1, A, left => if 0 < left then match A.2 s with
    | [] => A
    | i :: _ => ab_fill s p f (ab_fill1 A i (min left (A.1 4 i)) p) (left - min left (A.1 4 i))
    else A
def ab_auction (A : ab) : ab :=
  let w := ab_weigh A
  if w.2.1 = 0 then A else ab_u (ab_u (ab_fill 1 w.1 40 (ab_fill 0 w.1 40 A w.2.1) w.2.1) 8 2 w.1) 8 3 w.1
/-- every open order below k is cancelled -/
def ab_all (A : ab) : Nat → ab
  | 0 => A
  | k + 1 => if (ab_all A k).1 3 k = 0 then ab_all A k else ab_drop (ab_all A k) k
def ab_call (p : Int) : Bool := decide (p = 1 ∨ p = 3 ∨ p = 4)
def ab_step (A : ab) (p : Int) : ab :=
  let A1 := ab_u (if ab_call (A.1 8 1) = true then ab_auction A else A) 8 1 p
  if p = 0 then ab_all A1 (ab_n A1) else A1
/-- what a level shows -/
def ab_lev (A : ab) (s : Nat) (p : Int) : Int := ((A.2 s).map fun i => if A.1 5 i = p then A.1 7 i else 0).sum
def ab_open (A : ab) : Int := ((List.range (ab_n A)).countP fun i => decide (¬ A.1 3 i = 0) : Nat)
/-- may an order come in -/
def ab_ok (A : ab) (s w q p : Int) : Bool :=
  decide (0 ≤ w ∧ w ≤ 11 ∧ 1 ≤ q ∧ q ≤ 1000) && decide ((w / 2 = 1 ∨ w / 2 = 4) ∨ (1 ≤ p ∧ p ≤ 999)) && decide (w / 2 = 4 → 1 ≤ A.1 10 s.toNat ∧ A.1 10 s.toNat ≤ 999) && decide (w / 2 = 5 → 1 ≤ A.1 10 s.toNat ∧ A.1 10 s.toNat ≤ q ∧ q ≤ 10 * A.1 10 s.toNat) &&
  decide (A.1 8 1 = 2 ∨ ab_call (A.1 8 1) = true ∧ (w / 2 = 0 ∨ w / 2 = 5 ∨ w / 2 = 4)) && decide (A.1 8 0 < 200) && decide (ab_open A < 40)
def ab_acc (A : ab) (s w q p : Int) : ab :=
  let i := ab_n A
  let x := A.1 10 s.toNat
  ab_u (ab_u (ab_u (ab_u (ab_u (ab_u (ab_u (ab_u (ab_u A 8 0 (A.1 8 0 + 1)) 0 i s) 1 i (w % 2)) 2 i (w / 2)) 3 i 0) 4 i q) 5 i (if w / 2 = 4 then x else p)) 6 i (if w / 2 = 5 then x else 1000)) 7 i 0
def ab_order (band : Int) (A : ab) (s w q p : Int) : ab :=
  let i := ab_n A
  let A1 := ab_acc A s w q p
  ab_in band (ab_tell A1 s 1 i q (ab_told A1 i)) i
def ab_repl (band : Int) (A : ab) (i : Nat) (q p : Int) : ab :=
  let A1 := ab_tell A (A.1 0 i) 5 i q p
  if p = A.1 5 i ∧ q ≤ A.1 4 i then ab_u (ab_u A1 4 i q) 7 i (min (A.1 7 i) q) else ab_in band (ab_u (ab_u (ab_out A1 i) 4 i q) 5 i p) i
