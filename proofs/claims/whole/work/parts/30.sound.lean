/-! 30.sound: what the small machine answers, the real one does -/
def ma_nest (w : Cond) : Bool := match w with
  | .fieldLinkNest _ _ _ _ _ _ => true
  | .methodLinkNest _ _ _ _ => true
  | _ => false
abbrev ma_ty2 (cI c2 : ClassId) : List (ClassId × FieldType) := [(cI, .int), (c2, .array .int)]
/-- what the tables and the script say at a state -/
def ma_N (cls : List vw_C) (NS : List Cond) (D : va_G) (cI c2 : ClassId) (b sa : Nat) (scr : Nat × (Nat → Int32)) (U : State) (H : Heap) : Prop :=
  va_K D cls (ma_ty2 cI c2) U ∧ va_X sa scr.1 scr.2 U H ∧ sa < b ∧ b ≤ H.size ∧ (∃ kA : Class, U.vm.classes[c2]? = some kA ∧ kA.kind = .array cI (.array .int)) ∧ ∀ w ∈ NS, va_Nw w U
def ma_Wd (cls : List vw_C) (D : va_G) (cI c2 : ClassId) (b sa : Nat) (σ : ma_S) (H0 H : Heap) (locs : List Loc) : Prop :=
  H.size = b + σ.length ∧ va_P D cls (ma_ws cI c2 b sa 0 σ) H ∧ va_S (fun q => b ≤ q) H0 H locs
def ma_Pc (cls : List vw_C) (NS : List Cond) (D : va_G) (cI c2 : ClassId) (b sa : Nat) (scr : Nat × (Nat → Int32)) (as : List Value) (σ : ma_S) : Array Value → State → Prop := fun v U =>
  v = (as.map (ma_cv b sa)).toArray ∧ U.heap.size = b + σ.length ∧ va_P D cls (ma_ws cI c2 b sa 0 σ) U.heap ∧ ma_N cls NS D cI c2 b sa scr U U.heap
def ma_Qc (cls : List vw_C) (D : va_G) (cI c2 : ClassId) (b sa : Nat) (r : Option Value) (σ : ma_S) : Array Value → State → Outcome → State → Prop := fun _ st o t =>
  o = .returned (r.map (ma_cv b sa)) ∧ t.heap.size = b + σ.length ∧ va_P D cls (ma_ws cI c2 b sa 0 σ) t.heap ∧ va_F (fun q => b ≤ q) st t
def ma_rm (d mc ms : Nat) : Room := { frames := d, cells := mc, slots := ms, locals := 37 * d }
def ma_wy (my : ma_M) (Ts : List Cond) : List Cond := Cond.code my.1 my.2.1 my.2.2.1 my.2.2.2.1 :: Ts
def ma_Ctx (cls : List vw_C) (Ts NS : List Cond) (D : va_G) (cI c2 : ClassId) (b sa : Nat) (scr : Nat × (Nat → Int32)) (mt : ma_M) (p : Program) (s : State) (m : MethodId) (args : Array Value) (meth : Method) (c : Code) : Prop :=
  p.tables.exec = Jvm.exec ∧ c.code = mt.2.1 ∧ c.maxLocals = mt.2.2.1 ∧ meth.sig.returnType = mt.2.2.2.1 ∧ (∀ w ∈ Ts, w.before args s = true) ∧ s.vm.findClass mt.1.cls = some m.cls ∧ meth.locks = false ∧ meth.name = mt.1.name ∧ ma_N cls NS D cI c2 b sa scr s s.heap
/-- how long an instruction is -/
def ma_nl (j : Instr) (n : Nat) : Bool := match j with
  | .bipush _ => n == 2
  | .sipush _ => n == 3
  | .iload _ => n == 2
  | .aload _ => n == 2
  | .istore _ => n == 2
  | .astore _ => n == 2
  | .iinc _ _ => n == 3
  | .ifCond _ _ => n == 3
  | .if_icmp _ _ => n == 3
  | .goto _ => n == 3
  | .getfield _ => n == 3
  | .putfield _ => n == 3
  | .new _ => n == 3
  | .invokestatic _ => n == 3
  | .invokevirtual _ => n == 3
  | .invokespecial _ => n == 3
  | .newarray _ => n == 2
  | .multianewarray _ _ => n == 4
  | .tableswitch _ _ _ _ => true
  | .lookupswitch _ _ => true
  | _ => n == 1
/-- a class of the table is as the machine takes it -/
def ma_okC (q : vw_C) : Bool :=
  (List.range q.2.2).all (fun j => (match parseFieldDescriptor (q.2.1 j).2.2.1 with
    | some .int => decide ((q.2.1 j).2.2.1 = "I")
    | some (.object _) => decide (¬ (q.2.1 j).2.2.1 = "I")
    | some (.array _) => decide (¬ (q.2.1 j).2.2.1 = "I")
    | _ => false) && decide ((q.2.1 j).1 = q.1) && (List.range q.2.2).all fun k => decide (j = k) || decide (¬ (q.2.1 j).2.1 = (q.2.1 k).2.1))
/-- the words that an entry's link wants -/
def ma_wd (cls : List vw_C) (P : List ma_M) (mt : ma_M) (i : ma_I) : List Cond := match i.1 with
  | .getfield ix => match i.2.2.2.2, cls[i.2.2.1]? with
    | 0, some (C, T, _) => [.fieldLink mt.1.cls ix C (T i.2.2.2.1).2.1 (T i.2.2.2.1).2.2.1]
    | _, _ => []
  | .putfield ix => match i.2.2.2.2, cls[i.2.2.1]? with
    | 0, some (C, T, _) => [.fieldLink mt.1.cls ix C (T i.2.2.2.1).2.1 (T i.2.2.2.1).2.2.1]
    | _, _ => []
  | .new ix => match cls[i.2.2.1]? with
    | some (C, _, N) => [.classLink mt.1.cls ix C, .instantiable C N, .initialized C]
    | none => []
  | .newarray .int => [.arrayClass .int]
  | .multianewarray ix 2 => [.classLink mt.1.cls ix "[[I", .arrayClass .int]
  | .invokestatic ix => match i.2.2.1 with
    | 1 => [.methodLink mt.1.cls ix Lib.Math.max.name, .static Lib.Math.max.name, .initialized "java/lang/Math", .code Lib.Math.max.name Lib.Math.max.code 2 (some .int)]
    | 2 => [.methodLink mt.1.cls ix Lib.Math.min.name, .static Lib.Math.min.name, .initialized "java/lang/Math", .code Lib.Math.min.name Lib.Math.min.code 2 (some .int)]
    | 3 => [.methodLink mt.1.cls ix Lib.Math.abs.name, .static Lib.Math.abs.name, .initialized "java/lang/Math", .code Lib.Math.abs.name Lib.Math.abs.code 1 (some .int)]
    | 4 => [.methodLink mt.1.cls ix arraycopyName, .native arraycopyName, .static arraycopyName, .initialized "java/lang/System"]
    | a => match P[a - 10]?, i.2.2.2.2 / 100 with
      | some my, 0 => [.static my.1, .methodLink mt.1.cls ix my.1]
      | some my, _ => [.static my.1]
      | none, _ => []
  | .invokevirtual ix => match P[i.2.2.1 - 10]?, i.2.2.2.2 / 100 with
    | some my, 0 => [.instanceMethod my.1, .selects my.1.cls my.1 my.1, .methodLink mt.1.cls ix my.1]
    | some my, _ => [.instanceMethod my.1, .selects my.1.cls my.1 my.1]
    | none, _ => []
  | .invokespecial ix => if i.2.2.1 = 5 then [.methodLink mt.1.cls ix Lib.objectInit, .instanceMethod Lib.objectInit, .code Lib.objectInit ⟨#[0xb1]⟩ 1 none]
    else match P[i.2.2.1 - 10]?, i.2.2.2.2 / 100 with
    | some my, 0 => [.instanceMethod my.1, .methodLink mt.1.cls ix my.1]
    | some my, _ => [.instanceMethod my.1]
    | none, _ => []
  | _ => []
/-- the nest mates' words that an entry's link wants -/
def ma_wn (hs : String) (cls : List vw_C) (P : List ma_M) (mt : ma_M) (i : ma_I) : List Cond := match i.1 with
  | .getfield ix => match i.2.2.2.2, cls[i.2.2.1]? with
    | _ + 1, some (C, T, _) => [.fieldLinkNest mt.1.cls ix C (T i.2.2.2.1).2.1 (T i.2.2.2.1).2.2.1 hs]
    | _, _ => []
  | .putfield ix => match i.2.2.2.2, cls[i.2.2.1]? with
    | _ + 1, some (C, T, _) => [.fieldLinkNest mt.1.cls ix C (T i.2.2.2.1).2.1 (T i.2.2.2.1).2.2.1 hs]
    | _, _ => []
  | .invokestatic ix => match P[i.2.2.1 - 10]?, i.2.2.2.2 / 100 with
    | some my, _ + 1 => [.methodLinkNest mt.1.cls ix my.1 hs]
    | _, _ => []
  | .invokevirtual ix => match P[i.2.2.1 - 10]?, i.2.2.2.2 / 100 with
    | some my, _ + 1 => [.methodLinkNest mt.1.cls ix my.1 hs]
    | _, _ => []
  | .invokespecial ix => match P[i.2.2.1 - 10]?, i.2.2.2.2 / 100 with
    | some my, _ + 1 => [.methodLinkNest mt.1.cls ix my.1 hs]
    | _, _ => []
  | _ => []
/-- what else an entry's numbers must be -/
def ma_lk (cls : List vw_C) (P : List ma_M) (mt : ma_M) (i : ma_I) : Bool := match i.1 with
  | .getfield _ => match cls[i.2.2.1]? with
    | some q => decide (i.2.2.2.1 < q.2.2)
    | none => false
  | .putfield _ => match cls[i.2.2.1]? with
    | some q => decide (i.2.2.2.1 < q.2.2) && (!(q.2.1 i.2.2.2.1).2.2.2 || (decide (mt.1.name = "<init>") && decide (q.1 = mt.1.cls)))
    | none => false
  | .invokestatic _ => decide (i.2.2.1 < 10) || (match P[i.2.2.1 - 10]? with
    | some my => decide (i.2.2.2.1 = my.2.2.2.2.1) && decide (11 ≤ i.2.2.1)
    | none => false)
  | .invokevirtual _ => match P[i.2.2.1 - 10]? with
    | some my => decide (i.2.2.2.1 = my.2.2.2.2.1 + 1) && decide (i.2.2.2.2 % 100 = my.2.2.2.2.2.1) && decide (11 ≤ i.2.2.1)
    | none => false
  | .invokespecial _ => decide (i.2.2.1 < 10) || (match P[i.2.2.1 - 10]? with
    | some my => decide (i.2.2.2.1 = my.2.2.2.2.1 + 1) && decide (my.1.name = "<init>") && my.2.2.2.1.isNone && decide (11 ≤ i.2.2.1)
    | none => false)
  | .lookupswitch _ ps => (ps.toList.zip (ps.toList.drop 1)).all (fun (a, next) => a.1 < next.1)
  | _ => true
def ma_okM (cls : List vw_C) (P : List ma_M) (mt : ma_M) : Bool :=
  plainFor mt.1 && decide (mt.1.cls ≠ "java/lang/invoke/MethodHandle") && decide (mt.1.cls ≠ "java/lang/invoke/VarHandle") && decide (mt.2.2.1 ≤ 18) && decide ((parseMethodDescriptor mt.1.desc).map (fun d => d.parameters.length) = some mt.2.2.2.2.1) && (match cls[mt.2.2.2.2.2.1]? with
    | some q => decide (q.1 = mt.1.cls)
    | none => true) &&
  mt.2.2.2.2.2.2.all (fun x => (match decode mt.2.1 x.1 with
    | .ok (j, n) => decide (j = x.2.1) && decide (n = x.2.2.1)
    | _ => false) && ma_nl x.2.1 x.2.2.1 && ma_lk cls P mt x.2)
def ma_wm (cls : List vw_C) (P : List ma_M) (mt : ma_M) : List Cond := mt.2.2.2.2.2.2.flatMap fun x => ma_wd cls P mt x.2
def ma_wnm (hs : String) (cls : List vw_C) (P : List ma_M) (mt : ma_M) : List Cond := mt.2.2.2.2.2.2.flatMap fun x => ma_wn hs cls P mt x.2
/-- all that a program decides -/
def ma_Ok (hs : String) (cls : List vw_C) (Ts NS : List Cond) (P : List ma_M) : Prop :=
  (∀ q ∈ cls, ma_okC q = true ∧ ∀ w ∈ u_ws q.1 q.2.1 q.2.2, w ∈ Ts) ∧ (∀ w ∈ Ts, (w.onTables && w.keeps) = true ∨ ∃ ty, w = .arrayClass ty) ∧ (∀ w ∈ NS, ma_nest w = true) ∧ (∀ mt ∈ P, ma_okM cls P mt = true ∧ (∀ w ∈ ma_wm cls P mt, w ∈ Ts) ∧ ∀ w ∈ ma_wnm hs cls P mt, w ∈ NS) ∧ ∀ (i : Nat) (my : ma_M), P[i + 1]? = some my → Cond.code my.1 my.2.1 my.2.2.1 my.2.2.2.1 ∈ Ts ∧ Cond.initialized my.1.cls ∈ Ts
theorem ma_N.warm {cls : List vw_C} {NS : List Cond} {D : va_G} {cI c2 : ClassId} {b sa : Nat} {scr : Nat × (Nat → Int32)} (hNS : ∀ w ∈ NS, ma_nest w = true) {s U : State} {H0 H : Heap} {locs : List Loc} (h : ma_N cls NS D cI c2 b sa scr s H0) (hW : s.WarmedH U.vm) (hS : va_S (fun q => b ≤ q) H0 H locs) : ma_N cls NS D cI c2 b sa scr U H := by
  obtain ⟨hK, hX, h1, h2, ⟨kA, hkA, hkd⟩, hN⟩ := h
  refine ⟨va_K.moved hW.alike hK, (hX.kept (hS.2.1 sa (by omega) (by show ¬ b ≤ sa; omega))).moved hW.alike, h1, Nat.le_trans h2 hS.1, ?_, fun w hw => ?_⟩
  · obtain ⟨k', hk', he⟩ := hW.alike.2.2 _ _ hkA
    exact ⟨k', hk', by rw [he]; exact hkd⟩
  have hn := hNS w hw
  have hz := hN w hw
  cases w with
  | fieldLinkNest a i r n d h => exact va_Nw.warmF hW hz
  | methodLinkNest a i x h => exact va_Nw.warmM hW hz
  | _ => simp [ma_nest] at hn
theorem ma_blind (cls : List vw_C) (NS : List Cond) (hNS : ∀ w ∈ NS, ma_nest w = true) (D : va_G) (cI c2 : ClassId) (b sa : Nat) (scr : Nat × (Nat → Int32)) (as : List Value) (σ : ma_S) : FrameBlind (ma_Pc cls NS D cI c2 b sa scr as σ) := by
  intro a U g mk h
  obtain ⟨h1, h2, h3, hK, hX, h5, h6, hA, hN⟩ := h
  refine ⟨h1, h2, h3, va_K.moved (u := U) (U := U.calling g mk a) (Vm.Alike.refl U.vm) hK, va_X.moved (u := U) (U := U.calling g mk a) (Vm.Alike.refl U.vm) hX, h5, h6, hA, fun w hw => ?_⟩
  have hn := hNS w hw
  refine va_Nw.same ?_ (u := U) (U := U.calling g mk a) rfl (hN w hw)
  cases w with
  | fieldLinkNest => rfl
  | methodLinkNest => rfl
  | _ => simp [ma_nest] at hn
section MSD
variable {p : Program} {l : Launch} {e : Env} {R : Room} {s : State} {m : MethodId} {args : Array Value} {below : List Frame} {meth : Method} {c : Code} {H : Heap} {locs : List Loc} {cells slots : Nat} {Q : State → Prop}
variable {cls : List vw_C} {Ts NS : List Cond} {D : va_G} {cI c2 : ClassId} {b sa : Nat} {scr : Nat × (Nat → Int32)} {σ : ma_S}
variable {cc : ByteArray} {pc : Nat} {ls : Array Slot} {rest : List Value} {H0 : Heap}
/-- a cell of the store is another one: all else stays -/
theorem ma_Wd.put {H1 : Heap} {o k : Nat} {e0 e1 : ma_C} (h : ma_Wd cls D cI c2 b sa σ H0 H locs) (ho : σ[o]? = some e0) (he : va_at D cls (b + o, ma_ce cI c2 b sa e1) H1) (hz : H1.size = H.size) (oq : ∀ q : Nat, q ≠ b + o → H1[q]? = H[q]?) : ma_Wd cls D cI c2 b sa (σ.set o e1) H0 H1 (locs ++ [⟨b + o, k⟩]) := by
  obtain ⟨h1, h2, h3⟩ := h
  refine ⟨by rw [hz, h1, List.length_set], ?_, h3.put hz oq (Nat.le_add_right b o)⟩
  rw [← ma_ws_set]
  exact h2.set (ma_ws_D cI c2 b sa σ) (ma_ws_at ho) he oq
/-- a new cell -/
theorem ma_Wd.push {H1 : Heap} {e1 : ma_C} (hb0 : b ≤ H0.size) (h : ma_Wd cls D cI c2 b sa σ H0 H locs) (he : va_at D cls (b + σ.length, ma_ce cI c2 b sa e1) H1) (hz : H1.size = H.size + 1) (oq : ∀ q : Nat, q < H.size → H1[q]? = H[q]?) : ma_Wd cls D cI c2 b sa (σ ++ [e1]) H0 H1 locs := by
  obtain ⟨h1, h2, h3⟩ := h
  refine ⟨by rw [hz, h1, List.length_append, List.length_cons, List.length_nil]; omega, ?_, Nat.le_trans h3.1 (by omega), fun q g1 g2 => (oq q (Nat.lt_of_lt_of_le g1 h3.1)).trans (h3.2.1 q g1 g2), h3.2.2⟩
  rw [ma_ws_app, Nat.zero_add]
  refine (h2.kept fun k q hq => oq q.1 ((h2 k q hq).lt)).app fun k q hq => ?_
  rw [ma_ws, ma_ws] at hq
  have hk : k < 1 := (List.getElem?_eq_some_iff.mp hq).1
  rw [show k = 0 by omega] at hq
  cases hq
  exact he
theorem ma_iast (hexec : p.tables.exec = Jvm.exec) (hb : c.code = cc) (hK : va_K D cls (ma_ty2 cI c2) s) (hw : ma_Wd cls D cI c2 b sa σ H0 H locs) {o n : Nat} {f : Nat → Int32} (ho : σ[o]? = some (.inl (n, f))) {i x : Int32} (hin : vp_in i n) (hdg : decode cc pc = .ok (.iastore, 1))
    (kk : ∀ (H1 : Heap) (locs1 : List Loc), ma_Wd cls D cI c2 b sa (σ.set o (.inl (n, upd f i.toNatClampNeg x))) H0 H1 locs1 → W p l e R s m args below meth c H1 locs1 cells slots Q (F0 m (pc + 1) ls rest)) : W p l e R s m args below meth c H locs cells slots Q (F0 m pc ls (.int x :: .int i :: .ref (b + o) :: rest)) := by
  have hc : H[b + o]? = some (vp_cell cI (n, .inl f)) := hw.2.1 o _ (ma_ws_at ho)
  refine W.iast hexec hb hc ((hK.2 0 _ rfl).1 n (fun j => .int (f j))) (fun q => by cases q) (by show ¬ (i < 0 ∨ (arrV _ _ _).slots.size ≤ _); rw [arrV_size]; exact hin) rfl rfl hdg fun H1 e1 z oq => ?_
  refine kk H1 _ (hw.put ho ?_ z oq)
  show H1[b + o]? = some (vp_cell cI (n, .inl (upd f i.toNatClampNeg x)))
  rw [e1, vp_cell_i, vp_cell_i, arrV_store]
  congr 2
  funext q
  by_cases hq : q = i.toNatClampNeg <;> simp [updV, upd, hq]
theorem ma_putf (hexec : p.tables.exec = Jvm.exec) (hb : c.code = cc) {own C : String} {T : u_T} {N ci index : Nat} (hts : ∀ w ∈ Ts, w.before args s = true) (hin : ∀ w ∈ u_ws C T N, w ∈ Ts) (ty0 : Nat → FieldType) (hty : ∀ k, k < N → parseFieldDescriptor (T k).2.2.1 = some (ty0 k)) (hnm : ∀ a, a < N → ∀ b, b < N → a ≠ b → (T a).2.1 ≠ (T b).2.1) (hown : s.vm.findClass own = some m.cls) (hK : va_K D cls (ma_ty2 cI c2) s)
    (hw : ma_Wd cls D cI c2 b sa σ H0 H locs) {o : Nat} {fs : List Value} (ho : σ[o]? = some (.inr (.inr (ci, fs)))) (hc : cls[ci]? = some (C, T, N)) (k : Nat) (hk : k < N) (hdc : (T k).1 = C) (hlink : (Cond.fieldLink own index C (T k).2.1 (T k).2.2.1).before args s = true ∨ ∃ host, (Cond.fieldLinkNest own index C (T k).2.1 (T k).2.2.1 host).before args s = true)
    (hfin : (T k).2.2.2 = false ∨ (meth.name = "<init>" ∧ C = own)) {v : Value} (hn : narrow (ty0 k) (ma_cv b sa v) = ma_cv b sa v) (hfit : fits (ty0 k) (ma_cv b sa v) = true) (hl : k < fs.length) (hdg : decode cc pc = .ok (.putfield index, 3))
    (kk : ∀ (H1 : Heap) (locs1 : List Loc), ma_Wd cls D cI c2 b sa (σ.set o (.inr (.inr (ci, fs.set k v)))) H0 H1 locs1 → W p l e R s m args below meth c H1 locs1 cells slots Q (F0 m (pc + 3) ls rest)) : W p l e R s m args below meth c H locs cells slots Q (F0 m pc ls (ma_cv b sa v :: .ref (b + o) :: rest)) := by
  have hap := va_apart (own := own) hts hin ty0 hty hnm hK hc
  obtain ⟨r, h1, cell, q1, q2, q3, q4⟩ := hw.2.1 o _ (ma_ws_at ho)
  have hr : r = (C, T, N) := Option.some.inj (h1.symm.trans hc)
  subst hr
  obtain ⟨hS, hfc, kC, hkC, hkind⟩ := hK.1 ci _ hc
  obtain ⟨cf, kf, fi, f, hi, hsl⟩ := hS k hk
  have hlays := u_lays hts hin hk
  have hst := (u_facts hfc hkC hlays hi).1
  have h6 := u_fits hfc hkC hkind hlays hi (hty k hk) hn hfit
  have hi' : s.fieldFound? C (T k).2.1 (T k).2.2.1 = some (cf, kf, fi, f) := by rw [← hdc]; exact hi
  have hfl : hasFlag f.accessFlags Acc.final = false ∨ (m.cls = cf ∧ meth.name = "<init>") := by
    have hlay := hts _ (hin _ (u_in_lay hk))
    unfold u_lay at hlay
    by_cases hf : (T k).2.2.2 = true
    · rw [if_pos hf] at hlay
      rcases hfin with h | ⟨h7, h8⟩
      · rw [hf] at h; cases h
      · obtain ⟨_, _, c', _, _, _, -, -, hf', -, -, -, hown2, -⟩ := Cond.laysFinal_spec hlay
        have e1 : c' = cf := by have := hi.symm.trans hf'; simp at this; exact this.1.symm
        rw [hdc, h8] at hown2
        exact Or.inr ⟨by rw [← e1]; exact Option.some.inj (hown.symm.trans hown2), h7⟩
    · rw [if_neg hf] at hlay
      exact Or.inl (u_store hfc hkC hkind hlay hi (hty k hk) hn hfit).1
  have hlt : b + o < H.size := (Array.getElem?_eq_some_iff.mp q1).1
  have hkn : cell.vm ≠ .unknown := by rw [q3]; exact fun h => by cases h
  have hsz : f.slot < cell.slots.size := by rw [hsl]; exact k2_hasslot (q4 k hk)
  have hfs : s.fitsSlot cell.cls cell.vm f.slot (ma_cv b sa v) = true := by rw [q2, q3]; exact h6.2
  have hgo : W p l e R s m args below meth c (H.setIfInBounds (b + o) (cell.setSlot f.slot (ma_cv b sa v))) (locs ++ [⟨b + o, f.slot⟩]) cells slots Q (F0 m (pc + 3) ls rest) := by
    refine kk _ _ (hw.put ho ?_ (by simp) fun q hq => by simp [Array.getElem?_setIfInBounds, Ne.symm hq])
    show va_at D cls (b + o, .inr (ci, (fs.set k v).map (ma_cv b sa))) _
    rw [List.map_set]
    refine ⟨_, hc, t_OB.to (V := updV (vp_V (fs.map (ma_cv b sa))) k (ma_cv b sa v)) ⟨cell.setSlot f.slot (ma_cv b sa v), ?_, q2, q3, ?_⟩ fun j _ => vp_updV_set (by rw [List.length_map]; exact hl) _ j⟩
    · simp [Array.getElem?_setIfInBounds, hlt]
    · rw [hsl]
      exact t_set q4 hap hk _
  rcases hlink with h | ⟨host, h⟩
  · exact W.putf hexec hb hown h hi' hst hfl q1 hkn hsz h6.1 hfs rfl rfl hdg hgo
  · exact va_Wputf hexec hb hown h hi' hst hfl q1 hkn hsz h6.1 hfs rfl rfl hdg hgo
/-- behind a call -/
theorem ma_run {r : Option Value} {σ' : ma_S} {st0 : List Value} {mc ms : Nat} {a : Array Value} (hr : va_Run p l e R s m args below meth c H locs cells slots mc ms (F0 m pc ls st0) rest (ma_Qc cls D cI c2 b sa r σ' a) (fun q => b ≤ q)) (hw : ma_Wd cls D cI c2 b sa σ s.heap H locs)
    (kk : ∀ (H1 : Heap) (locs1 : List Loc), ma_Wd cls D cI c2 b sa σ' s.heap H1 locs1 → W p l e R s m args below meth c H1 locs1 (cells + mc) (slots + ms) Q (F0 m (pc + 3) ls ((r.map (ma_cv b sa)).toList ++ rest))) : W p l e R s m args below meth c H locs cells slots Q (F0 m pc ls st0) := by
  intro T hT X
  obtain ⟨v, st₀, t, T', L, h0, X', hL, e1, e2, ⟨hv, hz, hP, hF1, hF2⟩, st⟩ := hr T hT X
  have hv' : v = r.map (ma_cv b sa) := Outcome.returned.inj hv
  subst hv'
  rw [h0] at hF1 hF2
  obtain ⟨-, -, hS⟩ := hw
  obtain ⟨t2, a1, b1⟩ := kk T'.heap (locs ++ L) ⟨by rw [e1]; exact hz, by rw [e1]; exact hP, Nat.le_trans hS.1 (by rw [e1]; exact hF1), fun q g1 g2 => by rw [e1, hF2 q (Nat.lt_of_lt_of_le g1 hS.1) g2]; exact hS.2.1 q g1 g2, fun q hq => by
    rcases List.mem_append.mp hq with h | h
    · exact hS.2.2 q h
    · exact hL q h⟩ T' rfl X'
  exact ⟨t2, st t2 a1, b1⟩
end MSD
