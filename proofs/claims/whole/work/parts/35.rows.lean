/-! 35.rows: rows of my own for the small machine: two-dimensional arrays, System.arraycopy, new cells -/
def ma_mo (cA : ClassId) (N h0 i : Nat) : Cell := arrV cA N (fun j => if j < i then .ref (h0 + 1 + j) else .null)
def ma_mi (comp : ClassId) (M : Nat) : Cell := arrV comp M (fun _ => .int 0)
/-- the rows of a two-dimensional array come one by one -/
def ma_mf (s : State) (cA comp : ClassId) (N M : Nat) : Nat → State
  | 0 => s.pushCell (ma_mo cA N s.heap.size 0)
  | i + 1 => ((ma_mf s cA comp N M i).pushCell (ma_mi comp M)).setCell s.heap.size (ma_mo cA N s.heap.size (i + 1))
theorem ma_mo_set (cA : ClassId) (N h0 i : Nat) : (ma_mo cA N h0 i).setSlot i (.ref (h0 + 1 + i)) = ma_mo cA N h0 (i + 1) := by
  unfold ma_mo
  rw [arrV_store]
  congr 1
  funext j
  by_cases h : j = i
  · subst h
    simp [updV]
  · have e : (j < i + 1) = (j < i) := propext ⟨fun q => by omega, fun q => by omega⟩
    simp [updV, h, e]
theorem ma_mf_at (s : State) (cA comp : ClassId) (N M : Nat) : ∀ i : Nat, (ma_mf s cA comp N M i).heap.size = s.heap.size + 1 + i ∧ (ma_mf s cA comp N M i).heap[s.heap.size]? = some (ma_mo cA N s.heap.size i) ∧ (∀ q : Nat, q < s.heap.size → (ma_mf s cA comp N M i).heap[q]? = s.heap[q]?) ∧
    (∀ j : Nat, j < i → (ma_mf s cA comp N M i).heap[s.heap.size + 1 + j]? = some (ma_mi comp M)) ∧ (ma_mf s cA comp N M i).vm = s.vm ∧ (ma_mf s cA comp N M i).slotsUsed = s.slotsUsed + N + i * M := by
  intro i
  induction i with
  | zero => exact ⟨by simp [ma_mf], by simp [ma_mf], fun q hq => State.heap_pushCell_of_lt _ _ hq, fun j hj => absurd hj (Nat.not_lt_zero _), rfl, by simp [ma_mf, ma_mo, arrV_size]⟩
  | succ i ih =>
    obtain ⟨h1, h2, h3, h4, h5, h6⟩ := ih
    have hl : s.heap.size < (ma_mf s cA comp N M i).heap.size := by omega
    have h7 : ((ma_mf s cA comp N M i).pushCell (ma_mi comp M)).heap[s.heap.size]? = some (ma_mo cA N s.heap.size i) := by rw [State.heap_pushCell_of_lt _ _ hl]; exact h2
    have hm : (ma_mi comp M).slots.size = M := arrV_size _ _ _
    refine ⟨?_, State.heap_setCell_self h7, fun q hq => ?_, fun j hj => ?_, h5, ?_⟩
    · simp [ma_mf, State.setCell, h1]
      omega
    · show (((ma_mf s cA comp N M i).pushCell (ma_mi comp M)).setCell s.heap.size _).heap[q]? = _
      rw [heapAt_setCell_ne _ (Nat.ne_of_gt hq), State.heap_pushCell_of_lt _ _ (Nat.lt_trans hq hl)]
      exact h3 q hq
    · show (((ma_mf s cA comp N M i).pushCell (ma_mi comp M)).setCell s.heap.size _).heap[s.heap.size + 1 + j]? = _
      rw [heapAt_setCell_ne _ (show s.heap.size ≠ s.heap.size + 1 + j by omega)]
      by_cases hji : j < i
      · rw [State.heap_pushCell_of_lt _ _ (show s.heap.size + 1 + j < (ma_mf s cA comp N M i).heap.size by omega)]
        exact h4 j hji
      · have e : s.heap.size + 1 + j = (ma_mf s cA comp N M i).heap.size := by omega
        rw [e]
        exact State.heap_pushCell_size _ _
    · have e : (ma_mf s cA comp N M (i + 1)).slotsUsed = (ma_mf s cA comp N M i).slotsUsed + (ma_mi comp M).slots.size := by simp [ma_mf]
      rw [e, h6, hm, Nat.succ_mul]
      omega
theorem ma_mf_top (s : State) (g : JFrame) (cA comp : ClassId) (N M : Nat) : ∀ i : Nat, ma_mf (s.setTop g) cA comp N M i = (ma_mf s cA comp N M i).setTop g := by
  intro i
  induction i with
  | zero => rfl
  | succ i ih => simp only [ma_mf, ih, State.heap_setTop, State.pushCell_setTop, State.setCell_setTop]
theorem ma_wpn {E : CtlPost} {e : Env} {d : Bool} {acts : List Action} {s : State} {cA comp : ClassId} {k : Class} {ty : FieldType} {len : Nat} {v : Value} (hk : s.vm.classes[cA]? = some k) (hkind : k.kind = .array comp ty) (hl : len ≤ e.platform.arrayLengthLimit) (hh : len * componentBytes ty ≤ e.platform.maxHeapBytes)
    (hf : fits ty v = true) (hd : v.isDefault = true) (h1 : s.heap.size < e.platform.maxCells) (h2 : s.slotsUsed + len ≤ e.platform.maxSlots) {Q : Addr → Pre} (hq : Q s.heap.size d acts (s.pushCell (arrV cA len fun _ => v))) : Sem.wp (Jvm.newArray cA len v) Q E e d acts s := by
  rw [← arrV_new] at hq
  have hfs : ∀ i w, (Array.replicate len v)[i]? = some w → s.fitsSlot cA .none i w = true := by
    intro i w hw
    rw [Array.getElem?_replicate] at hw
    split at hw
    · cases hw
      simp [State.fitsSlot, State.slotType?, hk, hkind, hf]
    · cases hw
  have ha : allocActs (Array.replicate len v) s.heap.size acts = acts := by
    unfold allocActs
    rw [if_pos]
    rw [Array.all_replicate]
    split <;> simp [hd]
  have n1 : ¬ len > e.platform.arrayLengthLimit := by omega
  have n2 : ¬ len * componentBytes ty > e.platform.maxHeapBytes := by omega
  simp only [Jvm.newArray, Jvm.arrayFits, Sem.wp_bind', Jvm.W.ask, Jvm.W.ite, n1, n2, if_false, Sem.wp_pure', Jvm.W.theClass, hk, hkind, Jvm.W.alloc, Jvm.W.stop, Option.some.injEq, exists_eq_left', Array.size_replicate, ha]
  rw [if_neg (by omega)]
  exact ⟨h1, h2, hfs, hq⟩
theorem ma_wpm {E : CtlPost} {e : Env} {d : Bool} {acts : List Action} {s : State} {cA comp cc : ClassId} {k kc : Class} {n m : Int32} (hk : s.vm.classes[cA]? = some k) (hkind : k.kind = .array comp (.array .int)) (hkc : s.vm.classes[comp]? = some kc) (hkindc : kc.kind = .array cc .int) (hn : ¬ n < 0) (hm : ¬ m < 0)
    (hl1 : n.toNatClampNeg ≤ e.platform.arrayLengthLimit) (hh1 : n.toNatClampNeg * 4 ≤ e.platform.maxHeapBytes) (hl2 : m.toNatClampNeg ≤ e.platform.arrayLengthLimit) (hh2 : m.toNatClampNeg * 4 ≤ e.platform.maxHeapBytes)
    (h1 : s.heap.size + 1 + n.toNatClampNeg ≤ e.platform.maxCells) (h2 : s.slotsUsed + n.toNatClampNeg + n.toNatClampNeg * m.toNatClampNeg ≤ e.platform.maxSlots) {Q : Addr → Pre} (hq : ∀ d' acts', Q s.heap.size d' acts' (ma_mf s cA comp n.toNatClampNeg m.toNatClampNeg n.toNatClampNeg)) : Sem.wp (Op.multianewarray.make cA [n, m]) Q E e d acts s := by
  have hz : ([m].find? (· < 0)) = none := by simp [hm]
  rw [Op.multianewarray.make]
  simp only [Sem.wp_bind', Jvm.W.ite, hn, if_false, Sem.wp_pure', Jvm.W.theClass, hk, hkind, Option.some.injEq, exists_eq_left']
  have hz2 : s.slotsUsed + n.toNatClampNeg ≤ e.platform.maxSlots := Nat.le_trans (Nat.le_add_right _ _) h2
  refine ma_wpn hk hkind hl1 hh1 rfl rfl (by omega) hz2 ?_
  simp only [hz]
  rw [ite_self, Sem.wp_bind', Std.Legacy.Range.forIn_eq_forIn_range']
  have hs : ([:n.toNatClampNeg] : Std.Legacy.Range).size = n.toNatClampNeg := by simp [Std.Legacy.Range.size]
  rw [hs]
  show Sem.wp (forIn (List.range' 0 n.toNatClampNeg 1) PUnit.unit _) _ E e d acts _
  refine Jvm.wp_forIn_inv (fun rest s' => ∃ i, i ≤ n.toNatClampNeg ∧ rest = List.range' i (n.toNatClampNeg - i) ∧ s' = ma_mf s cA comp n.toNatClampNeg m.toNatClampNeg i) _ _ ⟨0, Nat.zero_le _, rfl, ?_⟩ ?_ ?_
  · show s.pushCell _ = s.pushCell _
    congr 1
  · rintro x rest s' d' acts' Q' ⟨i, hi, hl, rfl⟩ hnext
    have hlt : i < n.toNatClampNeg := by
      apply Nat.lt_of_not_le
      intro hge
      rw [Nat.sub_eq_zero_of_le hge] at hl
      cases hl
    have hl' : x :: rest = i :: List.range' (i + 1) (n.toNatClampNeg - (i + 1)) := by
      rw [hl, show n.toNatClampNeg - i = (n.toNatClampNeg - (i + 1)) + 1 by omega, List.range'_succ]
    obtain ⟨rfl, hr⟩ := List.cons.inj hl'
    obtain ⟨g1, g2, g3, g4, g5, g6⟩ := ma_mf_at s cA comp n.toNatClampNeg m.toNatClampNeg x
    have hmul : x * m.toNatClampNeg + m.toNatClampNeg ≤ n.toNatClampNeg * m.toNatClampNeg := by
      rw [← Nat.succ_mul]
      exact Nat.mul_le_mul_right _ hlt
    simp only [Sem.wp_bind']
    rw [Op.multianewarray.make]
    simp only [Sem.wp_bind', Jvm.W.ite, hm, if_false, Sem.wp_pure', Jvm.W.theClass, g5, hkc, hkindc, Option.some.injEq, exists_eq_left']
    refine ma_wpn (by rw [g5]; exact hkc) hkindc hl2 hh2 rfl rfl (by rw [g1]; omega) (by rw [g6]; omega) ?_
    have hl0 : s.heap.size < (ma_mf s cA comp n.toNatClampNeg m.toNatClampNeg x).heap.size := by rw [g1]; omega
    simp only [Sem.wp_bind', Jvm.W.writeLoc, Sem.wp_pure']
    refine ⟨ma_mo cA n.toNatClampNeg s.heap.size x, by rw [State.heap_pushCell_of_lt _ _ hl0]; exact g2, by simp [ma_mo, arrV], by rw [ma_mo, arrV_size]; exact hlt, ?_, hnext _ _ _ ⟨x + 1, hlt, hr, ?_⟩⟩
    · simp [State.fitsSlot, State.slotType?, g5, hk, hkind, ma_mo, arrV, fits]
    · rw [g1, ma_mo_set]
      rfl
  · rintro s' d' acts' ⟨i, hi, hl, rfl⟩
    have hin : i = n.toNatClampNeg := by
      apply Nat.le_antisymm hi
      apply Nat.le_of_not_lt
      intro hlt
      rw [show n.toNatClampNeg - i = (n.toNatClampNeg - (i + 1)) + 1 by omega, List.range'_succ] at hl
      cases hl
    subst hin
    simp only [Sem.wp_pure']
    exact hq _ _
theorem ma_over {args : Array Value} {s : State} (h : (Cond.arrayOver (.array .int)).before args s = true) : ∃ comp cA k, s.vm.findClass "[I" = some comp ∧ s.vm.classes[cA]? = some k ∧ k.kind = .array comp (.array .int) ∧ s.vm.findClass "[[I" = some cA := by
  have e1 : (FieldType.array .int).toString = "[I" := by decide
  have e2 : "[" ++ "[I" = "[[I" := by decide
  simp only [Cond.before, Cond.holds, Cond.value, beq_iff_eq, e1, e2] at h
  cases hc : s.vm.findClass "[I" with
  | none => simp [hc] at h
  | some comp =>
    simp only [hc, Option.bind_some, Option.bind_eq_some_iff, Option.map_eq_some_iff] at h
    obtain ⟨cA, hi, k, hk, hb⟩ := h
    obtain ⟨hlt, hp, -⟩ := Array.findIdx?_eq_some_iff_getElem.mp hi
    have hkk : s.vm.classes[cA] = k := (Array.getElem?_eq_some_iff.mp hk).2
    rw [hkk] at hp
    cases hkind : k.kind with
    | array component ty =>
      rw [hkind] at hb hp
      simp at hb hp
      exact ⟨comp, cA, k, rfl, hk, by rw [hkind, hp, hb.1], hb.2⟩
    | _ => rw [hkind] at hb; simp at hb
section MRW
variable {p : Program} {l : Launch} {e : Env} {R : Room} {s : State} {m : MethodId} {args : Array Value} {below : List Frame} {meth : Method} {c : Code} {H : Heap} {locs : List Loc} {cells slots : Nat} {Q : State → Prop}
theorem ma_mfS {T : State} (X : Stand p l e R s m args below meth c T locs cells slots) (cA comp : ClassId) (N M : Nat) : ∀ i : Nat, Stand p l e R s m args below meth c (ma_mf T cA comp N M i) (locs ++ (List.range i).map fun j => (⟨T.heap.size, j⟩ : Loc)) (cells + 1 + i) (slots + N + i * M) := by
  intro i
  induction i with
  | zero =>
    have h := X.pushed (ma_mo cA N T.heap.size 0)
    rw [show (ma_mo cA N T.heap.size 0).slots.size = N from arrV_size _ _ _] at h
    simpa [ma_mf] using h
  | succ i ih =>
    obtain ⟨g1, g2, -⟩ := ma_mf_at T cA comp N M i
    have hl : T.heap.size < (ma_mf T cA comp N M i).heap.size := by omega
    have h := (ih.pushed (ma_mi comp M)).stored (a := T.heap.size) (cell := ma_mo cA N T.heap.size i) (by rw [State.heap_pushCell_of_lt _ _ hl]; exact g2) i (.ref (T.heap.size + 1 + i))
    rw [ma_mo_set, show (ma_mi comp M).slots.size = M from arrV_size _ _ _] at h
    have e2 : (locs ++ (List.range (i + 1)).map fun j => (⟨T.heap.size, j⟩ : Loc)) = (locs ++ (List.range i).map fun j => (⟨T.heap.size, j⟩ : Loc)) ++ [⟨T.heap.size, i⟩] := by simp [List.range_succ, List.append_assoc]
    have e3 : slots + N + (i + 1) * M = slots + N + i * M + M := by rw [Nat.succ_mul]; omega
    rw [e2, e3]
    exact h
variable {cc : ByteArray} {pc : Nat} {ls : Array Slot} {rest : List Value} {H0 : Heap}
variable {cls : List vw_C} {Ts NS : List Cond} {D : va_G} {cI c2 : ClassId} {b sa : Nat} {scr : Nat × (Nat → Int32)} {σ : ma_S}
set_option maxHeartbeats 4000000 in
theorem ma_multi (hexec : p.tables.exec = Jvm.exec) (hb : c.code = cc) {own : String} {index : Nat} (hown : s.vm.findClass own = some m.cls) (hclink : (Cond.classLink own index "[[I").before args s = true) (hAO : ∃ kA : Class, s.vm.classes[c2]? = some kA ∧ kA.kind = .array cI (.array .int)) (harr : (Cond.arrayClass .int).before args s = true) (hK : va_K D cls (ma_ty2 cI c2) s)
    (hw : ma_Wd cls D cI c2 b sa σ s.heap H locs) (hb0 : b ≤ s.heap.size) {n k : Int32} (hn : ¬ n < 0) (hk : ¬ k < 0) (hn6 : n.toNatClampNeg ≤ 65536) (hk6 : k.toNatClampNeg ≤ 65536) (hcells : cells + (1 + n.toNatClampNeg) ≤ R.cells) (hslots : slots + (n.toNatClampNeg + n.toNatClampNeg * k.toNatClampNeg) ≤ R.slots) (hdg : decode cc pc = .ok (.multianewarray index 2, 4))
    (kk : ∀ (H1 : Heap) (locs1 : List Loc), ma_Wd cls D cI c2 b sa (σ ++ .inr (.inl (n.toNatClampNeg, fun j => if j < n.toNatClampNeg then some (σ.length + 1 + j) else none)) :: List.replicate n.toNatClampNeg (.inl (k.toNatClampNeg, fun _ => 0))) s.heap H1 locs1 →
      W p l e R s m args below meth c H1 locs1 (cells + 1 + n.toNatClampNeg) (slots + n.toNatClampNeg + n.toNatClampNeg * k.toNatClampNeg) Q (F0 m (pc + 4) ls (.ref (b + σ.length) :: rest))) : W p l e R s m args below meth c H locs cells slots Q (F0 m pc ls (.int k :: .int n :: rest)) := by
  intro T hT X
  subst hT; subst hb
  have hpl : e.platform.magicAccessors = ({} : Platform).magicAccessors := by rw [X.admits.platform]
  obtain ⟨kA, hkA, hkindA⟩ := hAO
  have hnameA : s.vm.findClass "[[I" = some c2 := (hK.2 1 _ rfl).2
  obtain ⟨comp', kC, cc, hcomp', hkC, hkindC⟩ := Cond.arrayClass_spec harr
  obtain ⟨c0, hfc0, hcl⟩ := Cond.classLink_spec hown hclink e.platform hpl
  have e0 : c2 = c0 := Option.some.inj (hnameA.symm.trans hfc0)
  subst e0
  have eI : comp' = cI := Option.some.inj (hcomp'.symm.trans (hK.2 0 _ rfl).2)
  subst eI
  obtain ⟨hg₁, hwarm₁, hready₁⟩ := State.classEntry (e := e) X.warmed hcl
  generalize T.vm.noted m.cls index (.cls c2) = vm₁ at hg₁ hwarm₁ hready₁
  have hal : s.vm.Alike vm₁ := hwarm₁.alike
  obtain ⟨kA₁, hkA₁, heA⟩ := hal.2.2 _ _ hkA
  obtain ⟨kC₁, hkC₁, heC⟩ := hal.2.2 _ _ hkC
  have hkindA₁ : kA₁.kind = .array comp' (.array .int) := by rw [heA]; exact hkindA
  have hkindC₁ : kC₁.kind = .array cc .int := by rw [heC]; exact hkindC
  have X₁ := X.noted hwarm₁
  obtain ⟨hr1, hr2⟩ := X.roomAbove hcells hslots
  have XF := ma_mfS X₁ c2 comp' n.toNatClampNeg k.toNatClampNeg n.toNatClampNeg
  obtain ⟨g1, g2, g3, g4, g5, g6⟩ := ma_mf_at (T.setVm vm₁) c2 comp' n.toNatClampNeg k.toNatClampNeg n.toNatClampNeg
  have hz : (T.setVm vm₁).heap = T.heap := rfl
  rw [hz] at g1 g2 g3 g4
  have hsz : T.heap.size = b + σ.length := hw.1
  have hw1 : ma_Wd cls D comp' c2 b sa (σ ++ .inr (.inl (n.toNatClampNeg, fun j => if j < n.toNatClampNeg then some (σ.length + 1 + j) else none)) :: List.replicate n.toNatClampNeg (.inl (k.toNatClampNeg, fun _ => 0))) s.heap (ma_mf (T.setVm vm₁) c2 comp' n.toNatClampNeg k.toNatClampNeg n.toNatClampNeg).heap (locs ++ (List.range n.toNatClampNeg).map fun j => (⟨T.heap.size, j⟩ : Loc)) := by
    refine ⟨?_, ?_, ?_⟩
    · rw [g1, List.length_append, List.length_cons, List.length_replicate, hsz]
      omega
    · rw [ma_ws_app, Nat.zero_add]
      refine (hw.2.1.kept fun kq q hq => g3 q.1 ((hw.2.1 kq q hq).lt)).app fun kq q hq => ?_
      rw [ma_ws_get] at hq
      cases kq with
      | zero =>
        rw [List.getElem?_cons_zero, Option.map_some] at hq
        cases hq
        show (ma_mf (T.setVm vm₁) c2 comp' n.toNatClampNeg k.toNatClampNeg n.toNatClampNeg).heap[b + (σ.length + 0)]? = some (vp_cell c2 (n.toNatClampNeg, .inr (.inr (.inr (.inr _)))))
        rw [Nat.add_zero, ← hsz, g2, vp_cell_q, ma_mo]
        congr 2
        funext j
        by_cases hj : j < n.toNatClampNeg
        · dsimp only
          rw [if_pos hj, if_pos hj]
          exact congrArg Value.ref (show T.heap.size + 1 + j = b + (σ.length + 1 + j) by omega)
        · dsimp only
          rw [if_neg hj, if_neg hj]
          rfl
      | succ j =>
        rw [List.getElem?_cons_succ, List.getElem?_replicate] at hq
        by_cases hj : j < n.toNatClampNeg
        · rw [if_pos hj, Option.map_some] at hq
          cases hq
          show (ma_mf (T.setVm vm₁) c2 comp' n.toNatClampNeg k.toNatClampNeg n.toNatClampNeg).heap[b + (σ.length + (j + 1))]? = some (vp_cell comp' (k.toNatClampNeg, .inl fun _ => 0))
          rw [show b + (σ.length + (j + 1)) = T.heap.size + 1 + j by omega, g4 j hj, vp_cell_i]
          rfl
        · rw [if_neg hj] at hq
          cases hq
    · refine ⟨Nat.le_trans hw.2.2.1 (by omega), fun q h1 h2 => (g3 q (Nat.lt_of_lt_of_le h1 hw.2.2.1)).trans (hw.2.2.2.1 q h1 h2), fun q hq => ?_⟩
      rcases List.mem_append.mp hq with h | h
      · exact hw.2.2.2.2 q h
      · obtain ⟨j, -, rfl⟩ := List.mem_map.mp h
        show b ≤ T.heap.size
        omega
  obtain ⟨t, a1, b1⟩ := kk _ _ hw1 _ rfl XF
  refine ⟨t, ?_, b1⟩
  rw [← hsz] at a1
  have hl1 : n.toNatClampNeg ≤ e.platform.arrayLengthLimit := by rw [Launch.admits_arrayLengthLimit X.admits]; omega
  have hh1 : n.toNatClampNeg * 4 ≤ e.platform.maxHeapBytes := by rw [Launch.admits_maxHeapBytes X.admits]; omega
  have hl2 : k.toNatClampNeg ≤ e.platform.arrayLengthLimit := by rw [Launch.admits_arrayLengthLimit X.admits]; omega
  have hh2 : k.toNatClampNeg * 4 ≤ e.platform.maxHeapBytes := by rw [Launch.admits_maxHeapBytes X.admits]; omega
  jvm_step X.here [hexec, hdg]
  simp only [Op.multianewarray.sem, Sem.wp_bind', Jvm.W.resolveClassAt_links (t := T.setTop (F0 m pc ls (.int k :: .int n :: rest))) (mm := m) (vm' := vm₁) (State.method?_setTop _ X.here.top) hg₁]
  rw [Jvm.W.popN, if_neg (by decide)]
  refine ⟨_, State.topJava?_setTop' (s := T.setVm vm₁) _ X.here.top, [.int n, .int k], rest, rfl, rfl, ?_⟩
  simp only [List.mapM_cons, List.mapM_nil, Sem.wp_bind', Sem.wp_pure']
  refine ma_wpm (k := kA₁) (kc := kC₁) (comp := comp') (cc := cc) hkA₁ hkindA₁ hkC₁ hkindC₁ hn hk hl1 hh1 hl2 hh2 (by show T.heap.size + 1 + _ ≤ _; omega) (by show T.slotsUsed + _ + _ ≤ _; omega) (fun d' acts' => ?_)
  have eS : ((T.setTop (F0 m pc ls (.int k :: .int n :: rest))).setVm vm₁).setTop { (F0 m pc ls (.int k :: .int n :: rest)) with stack := rest } = (T.setVm vm₁).setTop { (F0 m pc ls (.int k :: .int n :: rest)) with stack := rest } := by
    show ((T.setVm vm₁).setTop _).setTop _ = _
    rw [State.setTop_setTop]
  rw [eS, ma_mf_top]
  simp only [Sem.wp_bind', Jvm.W.mark, Jvm.W.pushRef, State.topJava?_setTop' _ XF.here.top, Option.some.injEq, exists_eq_left', State.setTop_setTop, State.heap_setTop]
  intro acts
  simp [jvm, XF.here.top]
  exact a1
theorem ma_aald (hexec : p.tables.exec = Jvm.exec) (hb : c.code = cc) (hK : va_K D cls (ma_ty2 cI c2) s) (hP : va_P D cls (ma_ws cI c2 b sa 0 σ) H) {o n r : Nat} {g : Nat → Option Nat} (ho : σ[o]? = some (.inr (.inl (n, g)))) {i : Int32} (hr : g i.toNatClampNeg = some r) (hin : vp_in i n) (hdg : decode cc pc = .ok (.aaload, 1))
    (kk : W p l e R s m args below meth c H locs cells slots Q (F0 m (pc + 1) ls (.ref (b + r) :: rest))) : W p l e R s m args below meth c H locs cells slots Q (F0 m pc ls (.int i :: .ref (b + o) :: rest)) := by
  have hlt : i.toNatClampNeg < n := Nat.not_le.mp fun q => hin (Or.inr q)
  have hc : H[b + o]? = some (vp_cell c2 (n, .inr (.inr (.inr (.inr fun j => (g j).map fun k => b + k))))) := hP o _ (ma_ws_at ho)
  exact W.aald (v := .ref (b + r)) (ty := .array .int) hexec hb hc ((hK.2 1 _ rfl).1 n (fun j => va_rf ((g j).map fun k => b + k))) rfl (fun q => by cases q) (by show ¬ (i < 0 ∨ (arrV _ _ _).slots.size ≤ _); rw [arrV_size]; exact hin) (by show (arrV _ _ _).slots[_]? = _; rw [arrV_read _ _ hlt]; simp [va_rf, hr]) rfl rfl hdg kk
theorem ma_newo (hexec : p.tables.exec = Jvm.exec) (hb : c.code = cc) {own C : String} {T : u_T} {N ci index : Nat} (hts : ∀ w ∈ Ts, w.before args s = true) (hin : ∀ w ∈ u_ws C T N, w ∈ Ts) (ty : Nat → FieldType) (hty : ∀ k, k < N → parseFieldDescriptor (T k).2.2.1 = some (ty k)) (hown : s.vm.findClass own = some m.cls) (hcl : (Cond.classLink own index C).before args s = true) (hinst : (Cond.instantiable C N).before args s = true) (hini : (Cond.initialized C).before args s = true)
    (hK : va_K D cls (ma_ty2 cI c2) s) (hw : ma_Wd cls D cI c2 b sa σ s.heap H locs) (hb0 : b ≤ s.heap.size) (hc : cls[ci]? = some (C, T, N)) {fs : List Value} (hfs : ∀ j, j < N → defaultValue (ty j) = vp_V (fs.map (ma_cv b sa)) j) (hcells : cells + 1 ≤ R.cells) (hslots : slots + N ≤ R.slots) (hdg : decode cc pc = .ok (.new index, 3))
    (kk : ∀ H1 : Heap, ma_Wd cls D cI c2 b sa (σ ++ [.inr (.inr (ci, fs))]) s.heap H1 locs → W p l e R s m args below meth c H1 locs (cells + 1) (slots + N) Q (F0 m (pc + 3) ls (.ref (b + σ.length) :: rest))) : W p l e R s m args below meth c H locs cells slots Q (F0 m pc ls rest) := by
  have hKn := hK.1 ci _ hc
  refine W.newcK hexec hb hown hcl hinst hini rfl hdg hcells hslots hKn.2.1 hw.1 fun H1 kC hkC e1 z1 o1 => ?_
  refine kk H1 (hw.push hb0 ?_ (by rw [z1, hw.1]) (fun q hq => o1 q (by rw [← hw.1]; exact hq)))
  exact ⟨_, hc, (u_born ty hts hin hKn hkC e1 hty).to hfs⟩
theorem ma_newa (hexec : p.tables.exec = Jvm.exec) (hb : c.code = cc) (harr : (Cond.arrayClass .int).before args s = true) (hK : va_K D cls (ma_ty2 cI c2) s) (hw : ma_Wd cls D cI c2 b sa σ s.heap H locs) (hb0 : b ≤ s.heap.size) {n : Int32} (hn : ¬ n < 0) (hn6 : n.toNatClampNeg ≤ 65536) (hcells : cells + 1 ≤ R.cells) (hslots : slots + n.toNatClampNeg ≤ R.slots) (hdg : decode cc pc = .ok (.newarray .int, 2))
    (kk : ∀ H1 : Heap, ma_Wd cls D cI c2 b sa (σ ++ [.inl (n.toNatClampNeg, fun _ => 0)]) s.heap H1 locs → W p l e R s m args below meth c H1 locs (cells + 1) (slots + n.toNatClampNeg) Q (F0 m (pc + 2) ls (.ref (b + σ.length) :: rest))) : W p l e R s m args below meth c H locs cells slots Q (F0 m pc ls (.int n :: rest)) := by
  refine va_newaK hexec hb (atype := .int) harr rfl hdg rfl hn rfl (by show n.toNatClampNeg * 4 ≤ _; omega) hcells hslots hw.1 fun H1 cA e1 z1 o1 hAr hNm => ?_
  have eI : cA = cI := Option.some.inj (hNm.symm.trans (hK.2 0 _ rfl).2)
  subst eI
  refine kk H1 (hw.push hb0 ?_ (by rw [z1, hw.1]) (fun q hq => o1 q (by rw [← hw.1]; exact hq)))
  exact e1
theorem ma_copy (hexec : p.tables.exec = Jvm.exec) (hb : c.code = cc) (hml : c.maxLocals = ls.size) {own : String} {index : Nat} (hown : s.vm.findClass own = some m.cls) (hlink : (Cond.methodLink own index arraycopyName).before args s = true) (hnat : (Cond.native arraycopyName).before args s = true) (hstat : (Cond.static arraycopyName).before args s = true) (hini : (Cond.initialized "java/lang/System").before args s = true)
    (hK : va_K D cls (ma_ty2 cI c2) s) (hw : ma_Wd cls D cI c2 b sa σ H0 H locs) {a0 a1 n0 n1 : Nat} {f g : Nat → Int32} (h0 : σ[a0]? = some (.inl (n0, f))) (h0' : σ[a1]? = some (.inl (n1, g))) {sp dp n : Int32} (h1 : ¬ sp < 0) (h2 : ¬ dp < 0) (h3 : ¬ n < 0) (h4 : sp.toNatClampNeg + n.toNatClampNeg ≤ n0) (h5 : dp.toNatClampNeg + n.toNatClampNeg ≤ n1)
    (hframes : 1 ≤ R.frames) (hlocals : (rest.map fun v => v.category).sum + (nativeFrameWords "java/lang/System" "arraycopy" 5 + 11) ≤ R.locals) (hdg : decode cc pc = .ok (.invokestatic index, 3))
    (kk : ∀ (H1 : Heap) (locs1 : List Loc), ma_Wd cls D cI c2 b sa (σ.set a1 (.inl (n1, va_cpy f g sp.toNatClampNeg dp.toNatClampNeg n.toNatClampNeg))) H0 H1 locs1 → W p l e R s m args below meth c H1 locs1 cells slots Q (F0 m (pc + 3) ls rest)) : W p l e R s m args below meth c H locs cells slots Q (F0 m pc ls (.int n :: .int dp :: .ref (b + a1) :: .int sp :: .ref (b + a0) :: rest)) := by
  have hc0 : H[b + a0]? = some (vp_cell cI (n0, .inl f)) := hw.2.1 a0 _ (ma_ws_at h0)
  have hc1 : H[b + a1]? = some (vp_cell cI (n1, .inl g)) := hw.2.1 a1 _ (ma_ws_at h0')
  have nn : ∀ z : Int32, ¬ z < 0 → z.toInt = (z.toNatClampNeg : Int) := by
    intro z hz
    have hz0 : (0 : Int) ≤ z.toInt := by simpa using Int32.le_iff_toInt_le.mp (Int32.not_lt.mp hz)
    show z.toInt = ((z.toInt.toNat : Nat) : Int)
    omega
  obtain ⟨-, k0, hk0, cm0, hkk0⟩ := (hK.2 0 _ rfl).1 n0 (fun j => .int (f j))
  obtain ⟨-, k1, hk1, cm1, hkk1⟩ := (hK.2 0 _ rfl).1 n1 (fun j => .int (g j))
  intro T hT X
  have q1 : ∀ i, i < n.toNatClampNeg → (vp_cell cI (n0, .inl f)).slots.getD (sp.toNatClampNeg + i) .null = .int (f (sp.toNatClampNeg + i)) := by
    intro i hi
    rw [vp_cell_i, Array.getD_eq_getD_getElem?, arrV_read _ _ (by omega)]
    rfl
  obtain ⟨vm', X', step⟩ := X.arraycopy hexec hown hlink hnat hstat hini (src := b + a0) (dst := b + a1) (cs := vp_cell cI (n0, .inl f)) (cd := vp_cell cI (n1, .inl g)) (srcPos := sp) (destPos := dp) (n := n) (by rw [hT]; exact hc0) (by rw [hT]; exact hc1)
    (fun _ h => by cases h) (fun _ h => by cases h) (fun h => by cases h) (fun h => by cases h) hk0 hk1 hkk0 hkk1 (by simp [refKind]) h1 h2 h3
    (by rw [nn sp h1, nn n h3, vp_cell_i, arrV_size]; omega) (by rw [nn dp h2, nn n h3, vp_cell_i, arrV_size]; omega)
    (fun vm₁ _ i hi => by rw [q1 i hi]; exact ⟨rfl, trivial⟩)
    (g := F0 m pc ls (.int n :: .int dp :: .ref (b + a1) :: .int sp :: .ref (b + a0) :: rest)) rfl (by rw [hml]) (rest := rest) rfl (by rw [hb]; exact hdg) hframes (by show 2 * 0 + _ + _ ≤ _; omega)
  have e1 : copied (vp_cell cI (n0, .inl f)) (vp_cell cI (n1, .inl g)) sp dp n = vp_cell cI (n1, .inl (va_cpy f g sp.toNatClampNeg dp.toNatClampNeg n.toNatClampNeg)) := va_copied (fun z => .int z) cI cI f g h4
  rw [e1] at X' step
  have hl : b + a1 < H.size := (Array.getElem?_eq_some_iff.mp hc1).1
  have hw1 : ma_Wd cls D cI c2 b sa (σ.set a1 (.inl (n1, va_cpy f g sp.toNatClampNeg dp.toNatClampNeg n.toNatClampNeg))) H0 (H.setIfInBounds (b + a1) (vp_cell cI (n1, .inl (va_cpy f g sp.toNatClampNeg dp.toNatClampNeg n.toNatClampNeg)))) (locs ++ [⟨b + a1, 0⟩]) :=
    hw.put h0' (by show (H.setIfInBounds (b + a1) _)[b + a1]? = some _; simp [Array.getElem?_setIfInBounds, hl]) (by simp) (fun q hq => by simp [Array.getElem?_setIfInBounds, Ne.symm hq])
  obtain ⟨t, r1, r2⟩ := kk (H.setIfInBounds (b + a1) (vp_cell cI (n1, .inl (va_cpy f g sp.toNatClampNeg dp.toNatClampNeg n.toNatClampNeg)))) _ ⟨hw1.1, hw1.2.1, hw1.2.2.1, hw1.2.2.2.1, fun q hq => by
      rcases List.mem_append.mp hq with h | h
      · exact hw.2.2.2.2 q h
      · obtain ⟨z, -, hz⟩ := List.mem_map.mp h
        rw [← hz]
        exact Nat.le_add_right b a1⟩ _ (by rw [← hT]; rfl) X'
  exact ⟨t, step t r1, r2⟩
end MRW
