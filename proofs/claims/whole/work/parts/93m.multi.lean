/-! a new array of arrays, both lengths told: the outer cell at the heap's end, the inner ones behind it (from the model's own text of the instruction; no law of Shelf42) -/
section MU
variable {p : Program} {l : Launch} {e : Env} {R : Room} {s : State} {m : MethodId} {args : Array Value} {below : List Frame} {meth : Method} {c : Code} {H : Heap} {locs : List Loc} {cells slots : Nat} {Q : State → Prop}
/-- one step, where the end that it leads to is known only behind it -/
theorem mu_instr {T : State} {g : JFrame} {i : Instr} {len : Nat} (h : At T g.method c below) (hd : decode c.code g.pc = .ok (i, len))
    (hw : wpRun (p.tables.exec i) (fun _ s₁ _ => ∃ t, (∀ acts, Steps p.tables e below (afterInstr e len (.ok () s₁ acts)).1 t) ∧ Q t) (fun _ _ _ => False) e (T.setTop g)) :
    ∃ t, Steps p.tables e below (T.setTop g) t ∧ Q t := by
  have hv := (wpRun_iff_run _ _ _ _ _).mp hw
  cases hr : (p.tables.exec i).run e (T.setTop g) with
  | ok a s₁ acts =>
    rw [hr] at hv
    obtain ⟨t, h1, h2⟩ := hv
    refine ⟨t, Steps.instr h ?_, h2⟩
    rw [hd]
    refine (wpRun_iff_run _ _ _ _ _).mpr ?_
    rw [hr]
    exact h1
  | ctl x s₁ acts =>
    rw [hr] at hv
    cases x <;> exact hv.elim
theorem mu_one {E : CtlPost} {d : Bool} {acts : List Action} {S : State} {ci cj : ClassId} {kC : Class} {ty : FieldType} {k : Int32} {Q : Addr → Pre} (hk : ¬ k < 0) (h1 : S.vm.classes[ci]? = some kC) (h2 : kC.kind = .array cj ty)
    (hl : ¬ k.toNatClampNeg > e.platform.arrayLengthLimit) (hh : ¬ k.toNatClampNeg * componentBytes ty > e.platform.maxHeapBytes) (hc : S.heap.size < e.platform.maxCells) (hs : S.slotsUsed + k.toNatClampNeg ≤ e.platform.maxSlots) (hf : fits ty (defaultValue ty) = true)
    (hq : ∀ acts', Q S.heap.size d acts' (S.pushCell { cls := ci, slots := Array.replicate k.toNatClampNeg (defaultValue ty) })) : wp (multianewarray.make ci [k]) Q E e d acts S := by
  rw [multianewarray.make]
  simp only [wp_bind', Jvm.W.ite, hk, if_false, wp_pure', Jvm.W.theClass, h1, Option.some.injEq, exists_eq_left', h2]
  exact Jvm.W.newArray_of h1 h2 hl hh hc hs hf hq
/-- i of the inner arrays are made -/
def mu_I (p : Program) (l : Launch) (e : Env) (R : Room) (s : State) (m : MethodId) (args : Array Value) (below : List Frame) (meth : Method) (c : Code) (locs : List Loc) (cells slots : Nat) (cA ci : ClassId) (vm : Vm) (N K : Nat) (v : Value) (H : Heap) (f : JFrame) (i : Nat) (S : State) : Prop :=
  ∃ (U : State) (J : List Loc), S = U.setTop f ∧ Stand p l e R s m args below meth c U (locs ++ J) (cells + 1 + i) (slots + N + i * K) ∧ (∀ x, x ∈ J → H.size ≤ x.base) ∧ U.vm = vm ∧ U.heap.size = H.size + 1 + i ∧ (∀ q, q < H.size → U.heap[q]? = H[q]?) ∧
    U.heap[H.size]? = some (arrV cA N (fun j => if j < i then .ref (H.size + 1 + j) else .null)) ∧ ∀ j, j < i → U.heap[H.size + 1 + j]? = some (arrV ci K (fun _ => v))
theorem mu_put (cA : ClassId) (N h i : Nat) : (arrV cA N (fun j => if j < i then Value.ref (h + 1 + j) else .null)).setSlot i (.ref (h + 1 + i)) = arrV cA N (fun j => if j < i + 1 then Value.ref (h + 1 + j) else .null) := by
  rw [arrV_store]
  congr 1
  funext j
  unfold updV
  by_cases z : j = i
  · subst z; rw [if_pos rfl, if_pos (by omega)]
  · rw [if_neg z]
    dsimp only
    by_cases q : j < i
    · rw [if_pos q, if_pos (by omega)]
    · rw [if_neg q, if_neg (by omega)]
theorem mu_all (cA : ClassId) (N h0 : Nat) : arrV cA N (fun j => if j < N then Value.ref (h0 + 1 + j) else .null) = arrV cA N (fun j => .ref (h0 + 1 + j)) := by
  unfold arrV
  congr 2
  funext j
  exact if_pos j.2
theorem mu_step {E : CtlPost} {d : Bool} {acts : List Action} {S : State} {cA ci cj : ClassId} {kA kC : Class} {vm : Vm} {ty : FieldType} {N i : Nat} {k : Int32} {f : JFrame} {Q : ForInStep PUnit → Pre} (hk : ¬ k < 0)
    (h1 : vm.classes[cA]? = some kA) (h2 : kA.kind = .array ci (.array ty)) (h3 : vm.classes[ci]? = some kC) (h4 : kC.kind = .array cj ty)
    (hl : ¬ k.toNatClampNeg > e.platform.arrayLengthLimit) (hh : ¬ k.toNatClampNeg * componentBytes ty > e.platform.maxHeapBytes) (hf : fits ty (defaultValue ty) = true)
    (hc : cells + (1 + N) ≤ R.cells) (hs : slots + (N + N * k.toNatClampNeg) ≤ R.slots) (hi : i < N)
    (I : mu_I p l e R s m args below meth c locs cells slots cA ci vm N k.toNatClampNeg (defaultValue ty) H f i S)
    (hq : ∀ S' d' acts', mu_I p l e R s m args below meth c locs cells slots cA ci vm N k.toNatClampNeg (defaultValue ty) H f (i + 1) S' → Q (.yield PUnit.unit) d' acts' S') :
    wp (multianewarray.make ci [k] >>= fun a => Jvm.writeLoc H.size i (.ref a) >>= fun _ => Pure.pure (ForInStep.yield PUnit.unit)) Q E e d acts S := by
  obtain ⟨U, J, rfl, X, hJ, hv, hz, ho, hO, hI⟩ := I
  have hm : (i + 1) * k.toNatClampNeg ≤ N * k.toNatClampNeg := Nat.mul_le_mul_right _ hi
  rw [Nat.succ_mul] at hm
  obtain ⟨hr1, hr2⟩ := X.roomAbove (a := 1) (b := k.toNatClampNeg) (by omega) (by omega)
  rw [wp_bind']
  refine mu_one hk (by show U.vm.classes[ci]? = _; rw [hv]; exact h3) h4 hl hh (by show U.heap.size < _; omega) (by show U.slotsUsed + _ ≤ _; exact hr2) hf (fun acts1 => ?_)
  have e1 : (U.pushCell { cls := ci, slots := Array.replicate k.toNatClampNeg (defaultValue ty) }).heap[H.size]? = some (arrV cA N (fun j => if j < i then .ref (H.size + 1 + j) else .null)) := by
    rw [State.heap_pushCell_of_lt _ _ (show H.size < U.heap.size by omega)]; exact hO
  have Y := (X.pushed { cls := ci, slots := Array.replicate k.toNatClampNeg (defaultValue ty) }).stored e1 i (.ref U.heap.size)
  rw [wp_bind']
  refine (Jvm.W.writeLoc _ _ _ _).mpr ⟨_, e1, (by intro h; cases h), (by rw [arrV_size]; exact hi), ?_, ?_⟩
  · have e2 : U.vm.classes[cA]? = some kA := by rw [hv]; exact h1
    show U.fitsSlot cA .none i (.ref U.heap.size) = true
    simp [State.fitsSlot, State.slotType?, e2, h2, fits]
  · rw [wp_pure']
    refine hq _ _ _ ⟨(U.pushCell { cls := ci, slots := Array.replicate k.toNatClampNeg (defaultValue ty) }).setCell H.size ((arrV cA N (fun j => if j < i then .ref (H.size + 1 + j) else .null)).setSlot i (.ref U.heap.size)), J ++ [⟨H.size, i⟩], rfl, ?_, ?_, hv, ?_, ?_, ?_, ?_⟩
    · rw [← List.append_assoc]
      have e3 : slots + N + (i + 1) * k.toNatClampNeg = slots + N + i * k.toNatClampNeg + (Array.replicate k.toNatClampNeg (defaultValue ty)).size := by rw [Array.size_replicate, Nat.succ_mul]; omega
      rw [e3]
      exact Y
    · intro x hx
      rcases List.mem_append.mp hx with h | h
      · exact hJ x h
      · rw [List.mem_singleton.mp h]; exact Nat.le_refl _
    · rw [size_setCell]
      show (U.heap.push _).size = _
      rw [Array.size_push]; omega
    · intro q hq'
      rw [heapAt_setCell_ne _ (show H.size ≠ q by omega), State.heap_pushCell_of_lt _ _ (show q < U.heap.size by omega)]
      exact ho q hq'
    · rw [heapAt_setCell_self _ (by show H.size < (U.heap.push _).size; rw [Array.size_push]; omega), hz, mu_put]
    · intro j hj
      rw [heapAt_setCell_ne _ (show H.size ≠ H.size + 1 + j by omega)]
      by_cases z : j = i
      · subst z
        rw [← hz, State.heap_pushCell_size, ← arrV_new]
      · rw [State.heap_pushCell_of_lt _ _ (show H.size + 1 + j < U.heap.size by omega)]
        exact hI j (by omega)
theorem mu_make {T : State} (X : Stand p l e R s m args below meth c T locs cells slots) {E : CtlPost} {d : Bool} {acts : List Action} {f : JFrame} {cA ci cj : ClassId} {kA kC : Class} {ty : FieldType} {n k : Int32} {Q : Addr → Pre} (hn : ¬ n < 0) (hk : ¬ k < 0)
    (h1 : T.vm.classes[cA]? = some kA) (h2 : kA.kind = .array ci (.array ty)) (h3 : T.vm.classes[ci]? = some kC) (h4 : kC.kind = .array cj ty)
    (hl1 : ¬ n.toNatClampNeg > e.platform.arrayLengthLimit) (hh1 : ¬ n.toNatClampNeg * componentBytes (.array ty) > e.platform.maxHeapBytes) (hl2 : ¬ k.toNatClampNeg > e.platform.arrayLengthLimit) (hh2 : ¬ k.toNatClampNeg * componentBytes ty > e.platform.maxHeapBytes) (hf : fits ty (defaultValue ty) = true)
    (hc : cells + (1 + n.toNatClampNeg) ≤ R.cells) (hs : slots + (n.toNatClampNeg + n.toNatClampNeg * k.toNatClampNeg) ≤ R.slots)
    (hq : ∀ S' d' acts', mu_I p l e R s m args below meth c locs cells slots cA ci T.vm n.toNatClampNeg k.toNatClampNeg (defaultValue ty) T.heap f n.toNatClampNeg S' → Q T.heap.size d' acts' S') :
    wp (multianewarray.make cA [n, k]) Q E e d acts (T.setTop f) := by
  have hfd : [k].find? (fun x => decide (x < 0)) = none := by simp [hk]
  obtain ⟨hr1, hr2⟩ := X.roomAbove (a := 1) (b := n.toNatClampNeg) (by omega) (by omega)
  rw [multianewarray.make]
  simp only [wp_bind', Jvm.W.ite, hn, if_false, wp_pure', Jvm.W.theClass, State.vm_setTop, h1, Option.some.injEq, exists_eq_left', h2]
  refine Jvm.W.newArray_of (s := T.setTop f) h1 h2 hl1 hh1 (by show T.heap.size < _; omega) (by show T.slotsUsed + _ ≤ _; exact hr2) rfl (fun acts1 => ?_)
  simp only [hfd, ite_self, Std.Legacy.Range.forIn_eq_forIn_range', Std.Legacy.Range.size, Nat.sub_zero, Nat.add_sub_cancel, Nat.div_one, wp_bind', wp_pure']
  refine Jvm.wp_forIn_inv (fun rest S => ∃ i, i ≤ n.toNatClampNeg ∧ rest = List.range' i (n.toNatClampNeg - i) ∧ mu_I p l e R s m args below meth c locs cells slots cA ci T.vm n.toNatClampNeg k.toNatClampNeg (defaultValue ty) T.heap f i S) _ _ ?_ ?_ ?_
  · refine ⟨0, Nat.zero_le _, rfl, T.pushCell { cls := cA, slots := Array.replicate n.toNatClampNeg .null }, [], rfl, ?_, (fun x hx => by cases hx), rfl, ?_, ?_, ?_, (fun j hj => absurd hj (by omega))⟩
    · have Y := X.pushed { cls := cA, slots := Array.replicate n.toNatClampNeg .null }
      rw [List.append_nil, Nat.zero_mul]
      have e3 : slots + n.toNatClampNeg + 0 = slots + (Array.replicate n.toNatClampNeg Value.null).size := by rw [Array.size_replicate]; omega
      rw [e3]
      exact Y
    · show (T.heap.push _).size = _
      rw [Array.size_push]
    · intro q hq'
      exact State.heap_pushCell_of_lt _ _ hq'
    · rw [State.heap_pushCell_size, arrV_new]
      congr 2
  · rintro x rest S d' acts' Q' ⟨i, hi, hr, I⟩ hQ
    have hlt : i < n.toNatClampNeg := by
      rcases Nat.lt_or_ge i n.toNatClampNeg with h | h
      · exact h
      · rw [Nat.sub_eq_zero_of_le h] at hr
        cases hr
    rw [show n.toNatClampNeg - i = (n.toNatClampNeg - (i + 1)) + 1 by omega, List.range'_succ] at hr
    obtain ⟨rfl, rfl⟩ := List.cons.inj hr
    exact mu_step hk h1 h2 h3 h4 hl2 hh2 hf hc hs hlt I (fun S' d'' acts'' I' => hQ _ _ _ ⟨_, hlt, rfl, I'⟩)
  · rintro S' d' acts' ⟨i, hi, hr, I⟩
    have hle : n.toNatClampNeg - i = 0 := by
      have := congrArg List.length hr
      rw [List.length_range'] at this
      exact this.symm
    have hin : i = n.toNatClampNeg := by omega
    subst hin
    exact hq _ _ _ I
theorem mu_new2 {cc : ByteArray} (hexec : p.tables.exec = Jvm.exec) (hb : c.code = cc) {own : String} {index : Nat} {ty : FieldType} (hown : s.vm.findClass own = some m.cls) (hcl : (Cond.classLink own index ("[" ++ (FieldType.array ty).toString)).before args s = true) (hover : (Cond.arrayOver (.array ty)).before args s = true) (harr : (Cond.arrayClass ty).before args s = true)
    {pc : Nat} {ls : Array Slot} {n k : Int32} {N K : Nat} {rest : List Value} (hN : n.toNatClampNeg = N) (hK : k.toNatClampNeg = K) (hn : ¬ n < 0) (hk : ¬ k < 0) (hb1 : N * 4 ≤ 536870912) (hb2 : K * componentBytes ty ≤ 536870912) (hb3 : K ≤ 536870912) (hdf : fits ty (defaultValue ty) = true) (hdd : (defaultValue ty).isDefault = true) (hcells : cells + (1 + N) ≤ R.cells) (hslots : slots + (N + N * K) ≤ R.slots)
    (hdg : decode cc pc = .ok (.multianewarray index 2, 4))
    (kk : ∀ (cA comp : ClassId) (H1 : Heap), ArrOfT s cA (.array ty) → s.vm.findClass ("[" ++ (FieldType.array ty).toString) = some cA → s.vm.findClass (FieldType.array ty).toString = some comp → H1.size = H.size + 1 + N → (∀ q, q < H.size → H1[q]? = H[q]?) → H1[H.size]? = some (arrV cA N (fun j => .ref (H.size + 1 + j))) → (∀ j, j < N → H1[H.size + 1 + j]? = some (arrV comp K (fun _ => defaultValue ty))) →
      W p l e R s m args below meth c H1 locs (cells + 1 + N) (slots + N + N * K) Q (F0 m (pc + 4) ls (.ref H.size :: rest))) : W p l e R s m args below meth c H locs cells slots Q (F0 m pc ls (.int k :: .int n :: rest)) := by
  intro T hT X
  subst hT; subst hb; subst hN; subst hK
  have hpl : e.platform.magicAccessors = ({} : Platform).magicAccessors := by rw [X.admits.platform]
  obtain ⟨comp, cA, kA, hcomp, -, hkA, hkindA, hnameA⟩ := arrayOverA_spec hover
  obtain ⟨cI, kI, cJ, hnameI, hkI, hkindI⟩ := Cond.arrayClass_spec harr
  obtain rfl : cI = comp := Option.some.inj (hnameI.symm.trans hcomp)
  obtain ⟨cL, hfL, hlk⟩ := Cond.classLink_spec hown hcl e.platform hpl
  cases hnameA.symm.trans hfL
  obtain ⟨hg₁, hwarm₁, -⟩ := State.classEntry (e := e) X.warmed hlk
  have hsz : (T.vm.noted m.cls index (.cls cA)).classes.size ≤ T.vm.classes.size := by no_record
  generalize T.vm.noted m.cls index (.cls cA) = vm₁ at hg₁ hwarm₁ hsz
  have hal : s.vm.Alike vm₁ := hwarm₁.alike
  obtain ⟨kA₁, hkA₁, heA⟩ := hal.2.2 _ _ hkA
  obtain ⟨kI₁, hkI₁, heI⟩ := hal.2.2 _ _ hkI
  have hkindA₁ : kA₁.kind = .array cI (.array ty) := by rw [heA]; exact hkindA
  have hkindI₁ : kI₁.kind = .array cJ ty := by rw [heI]; exact hkindI
  have hl1 : ¬ n.toNatClampNeg > e.platform.arrayLengthLimit := by rw [Launch.admits_arrayLengthLimit X.admits]; omega
  have hl2 : ¬ k.toNatClampNeg > e.platform.arrayLengthLimit := by rw [Launch.admits_arrayLengthLimit X.admits]; omega
  have hh1 : ¬ n.toNatClampNeg * componentBytes (.array ty) > e.platform.maxHeapBytes := by
    rw [Launch.admits_maxHeapBytes X.admits]; show ¬ n.toNatClampNeg * 4 > 536870912; omega
  have hh2 : ¬ k.toNatClampNeg * componentBytes ty > e.platform.maxHeapBytes := by rw [Launch.admits_maxHeapBytes X.admits]; omega
  have X₁ := X.noted hwarm₁
  refine mu_instr (i := .multianewarray index 2) (len := 4) (by simpa using X.here) hdg ?_
  rw [hexec]
  show wp (multianewarray.sem index 2) _ _ e false [] _
  unfold multianewarray.sem
  simp only [wp_bind']
  refine (Jvm.W.resolveClassAt_links (t := T.setTop (F0 m pc ls (.int k :: .int n :: rest))) (mm := m) (State.method?_setTop _ X.here.top) hg₁ hsz).mpr ?_
  simp only [wp_bind']
  refine (popN_top (s := T.setVm vm₁) (f := F0 m pc ls (.int k :: .int n :: rest)) (args := [.int n, .int k]) (rest := rest) X₁.here.top rfl).mpr ?_
  simp only [List.mapM_cons, List.mapM_nil, wp_bind', wp_pure']
  refine mu_make X₁ hn hk hkA₁ hkindA₁ hkI₁ hkindI₁ hl1 hh1 hl2 hh2 hdf hcells hslots ?_
  rintro S' d' acts' ⟨U, J, rfl, X', hJ, -, hz, ho, hO, hI⟩
  have hle : s.heap.size ≤ T.heap.size := X.same.2.1
  have X'' : Stand p l e R s m args below meth c U locs (cells + 1 + n.toNatClampNeg) (slots + n.toNatClampNeg + n.toNatClampNeg * k.toNatClampNeg) :=
    { X' with same := X'.same.drop_fresh (fun x hx => Nat.le_trans hle (hJ x hx)) }
  rw [mu_all] at hO
  obtain ⟨t, a1, b1⟩ := kk cA cI U.heap (fun N z => ⟨fun k h => (by cases h), kA, hkA, cI, hkindA⟩) hnameA hcomp hz ho hO hI U rfl X''
  simp only [wp_bind']
  refine (Jvm.W.mark _).mpr ?_
  refine (Jvm.W.pushRef _).mpr ?_
  refine ⟨_, State.topJava?_setTop' _ X'.here.top, t, fun acts => ?_, b1⟩
  rw [State.setTop_setTop, afterInstr_ok]
  exact a1
end MU
