/-! the law: its start -/
def R_law : String := "SupplyGridLaw"
def lw_P (b : Addr) (xs : List Int32) (args : Array Value) (s : State) : Prop := args = #[.ref b] ∧ s.IntsAt b xs ∧ xs.length ≤ 3072 ∧ (Jvm.Cond.and given_1 narrow_1).before args s = true
def lw_Q (_ : Array Value) (s : State) (o : Outcome) (t : State) : Prop := o = .returned (some (.int 1)) ∧ Framed s o t [] 600000 7302250
def lw_Z (below : List Frame) (a : Array Value) (s : State) : State → Prop := fun t => ∃ o, t.status = .running ∧ Ended t below o ∧ lw_Q a s o t
/-- the law's own end, with 1 on the stack, nothing written that was there before, its room as the claim has it -/
theorem lw_ret {p : Program} {l : Launch} {e : Env} {s : State} {m : MethodId} {below : List Frame} {meth : Method} {c : Code} {b : Nat} (hx : p.tables.exec = Jvm.exec) (hb : c.code = code) (hr : meth.sig.returnType = ret) (hlocks : meth.locks = false) {pc : Nat} {H : Heap} {ls : Array Slot} (hdg : decode code pc = .ok (.ireturn, 1)) : W p l e room_1 s m #[Value.ref b] below meth c H [] 600000 7302250 (lw_Z below #[Value.ref b] s) (F0 m pc ls [.int 1]) := by
  intro T hT X
  obtain ⟨fs, hret, hrun, hended, hW, hframe⟩ := X.leave (v := some (.int 1)) (hlocks := hlocks) (fun h => by rw [hr] at h; cases h)
  have hmeth' : T.vm.method? m = some meth := X.method'
  refine ⟨T.setFrames fs, ?_, .returned (some (.int 1)), hrun, hended, rfl, ⟨_, rfl⟩, hW, hframe⟩
  jvm_step X.here [X.here.top, hx, hb, hdg, hmeth', hr, ret, narrow_b1]
  (try refine ⟨rfl, ?_⟩); (try refine ⟨rfl, ?_⟩)
  first | (intro acts; rw [hret _ acts rfl rfl rfl]) | rw [hret _ _ rfl rfl rfl]
  exact Steps.refl _
/-- what holds at the law's entry: the machine, the code, the tables' words (any of lw_tbl by 'hts w (by decide +kernel)'), the script of L ints xs at the cell b, what the Statement gives of the start (any of its parts by flat_of_before) -/
def lw_At (p : Program) (s : State) (m : MethodId) (meth : Method) (c : Code) (b L : Nat) (xs : Nat → Int32) : Prop :=
  p.tables.exec = Jvm.exec ∧ c.code = code ∧ meth.sig.returnType = ret ∧ c.maxLocals = 4 ∧ s.vm.findClass R_law = some m.cls ∧ (∀ w ∈ lw_tbl, w.before #[Value.ref b] s = true) ∧ va_X b L xs s s.heap ∧ b < s.heap.size ∧ meth.locks = false ∧ (Jvm.Cond.and given_1 narrow_1).before #[Value.ref b] s = true
section ST
variable {args : Array Value} {s : State} {A : Nat → Prop}
def st_o (t : Term) (b : List Int32) (args : Array Value) (A : Nat → Prop) (s : State) (a v : Nat) : Prop := (va_O "java/lang/String" a A s s.heap ∧ va_OF "java/lang/String" "coder" "B" (.int 0) a A s s.heap ∧ va_OF "java/lang/String" "value" "[B" (.ref v) a A s s.heap ∧ va_T .byte v b.length (fun j => .int (b.getD j 0)) A s s.heap) ∧ t.eval args s none [] s = some (.ref a)
set_option maxRecDepth 100000 in
theorem st_0 (hf : ∀ c ∈ flatC (Jvm.Cond.and given_1 narrow_1), c.before args s = true) (hA : ∀ a : Nat, a < s.heap.size → ¬ A a) : ∃ a v, st_o (Term.string "SupplyGrid$Reader" 62) [103, 114, 105, 100] args A s a v := by
  obtain ⟨aK, aV, h1, h2⟩ := vk_Sof (N := 1) (tm := fun _ => Term.string "SupplyGrid$Reader" 62) (len := [4]) (byt := [[103, 114, 105, 100]]) (A := A) (args := args) (s := s)
    (fun i hi => by obtain rfl : i = 0 := by omega
                    decide)
    (fun _ _ => hf (Cond.exactly (Term.string "SupplyGrid$Reader" 62) "java/lang/String") (List.mem_of_getElem? (i := 33) (by decide +kernel)))
    (fun _ _ => hf (Cond.eq (Term.field (Term.string "SupplyGrid$Reader" 62) "java/lang/String" "coder" "B") (Term.int 0)) (List.mem_of_getElem? (i := 34) (by decide +kernel)))
    (fun _ _ => hf (Cond.arrayOf (Term.field (Term.string "SupplyGrid$Reader" 62) "java/lang/String" "value" "[B") .byte) (List.mem_of_getElem? (i := 35) (by decide +kernel)))
    (fun i hi => by obtain rfl : i = 0 := by omega
                    exact hf (Cond.eq (Term.length (Term.field (Term.string "SupplyGrid$Reader" 62) "java/lang/String" "value" "[B")) (Term.int 4)) (List.mem_of_getElem? (i := 36) (by decide +kernel)))
    (fun i hi j hj => by
      obtain rfl : i = 0 := by omega
      have hj : j < 4 := hj
      match j, hj with
      | 0, _ => exact hf (Cond.eq (Term.elem (Term.field (Term.string "SupplyGrid$Reader" 62) "java/lang/String" "value" "[B") (Term.int 0)) (Term.int 103)) (List.mem_of_getElem? (i := 37) (by decide +kernel))
      | 1, _ => exact hf (Cond.eq (Term.elem (Term.field (Term.string "SupplyGrid$Reader" 62) "java/lang/String" "value" "[B") (Term.int 1)) (Term.int 114)) (List.mem_of_getElem? (i := 38) (by decide +kernel))
      | 2, _ => exact hf (Cond.eq (Term.elem (Term.field (Term.string "SupplyGrid$Reader" 62) "java/lang/String" "value" "[B") (Term.int 2)) (Term.int 105)) (List.mem_of_getElem? (i := 39) (by decide +kernel))
      | 3, _ => exact hf (Cond.eq (Term.elem (Term.field (Term.string "SupplyGrid$Reader" 62) "java/lang/String" "value" "[B") (Term.int 3)) (Term.int 100)) (List.mem_of_getElem? (i := 40) (by decide +kernel))
      | j + 4, h => exact absurd h (by omega))
    (fun i j hi hj h => absurd (show i = j by omega) h) hA
  exact ⟨aK 0, aV 0, h1.1 0 (by omega), h2 0 (by omega)⟩
set_option maxRecDepth 100000 in
theorem st_1 (hf : ∀ c ∈ flatC (Jvm.Cond.and given_1 narrow_1), c.before args s = true) (hA : ∀ a : Nat, a < s.heap.size → ¬ A a) : ∃ a v, st_o (Term.string "SupplyGrid$Reader" 99) [99, 111, 108, 117, 109, 110, 115] args A s a v := by
  obtain ⟨aK, aV, h1, h2⟩ := vk_Sof (N := 1) (tm := fun _ => Term.string "SupplyGrid$Reader" 99) (len := [7]) (byt := [[99, 111, 108, 117, 109, 110, 115]]) (A := A) (args := args) (s := s)
    (fun i hi => by obtain rfl : i = 0 := by omega
                    decide)
    (fun _ _ => hf (Cond.exactly (Term.string "SupplyGrid$Reader" 99) "java/lang/String") (List.mem_of_getElem? (i := 41) (by decide +kernel)))
    (fun _ _ => hf (Cond.eq (Term.field (Term.string "SupplyGrid$Reader" 99) "java/lang/String" "coder" "B") (Term.int 0)) (List.mem_of_getElem? (i := 42) (by decide +kernel)))
    (fun _ _ => hf (Cond.arrayOf (Term.field (Term.string "SupplyGrid$Reader" 99) "java/lang/String" "value" "[B") .byte) (List.mem_of_getElem? (i := 43) (by decide +kernel)))
    (fun i hi => by obtain rfl : i = 0 := by omega
                    exact hf (Cond.eq (Term.length (Term.field (Term.string "SupplyGrid$Reader" 99) "java/lang/String" "value" "[B")) (Term.int 7)) (List.mem_of_getElem? (i := 44) (by decide +kernel)))
    (fun i hi j hj => by
      obtain rfl : i = 0 := by omega
      have hj : j < 7 := hj
      match j, hj with
      | 0, _ => exact hf (Cond.eq (Term.elem (Term.field (Term.string "SupplyGrid$Reader" 99) "java/lang/String" "value" "[B") (Term.int 0)) (Term.int 99)) (List.mem_of_getElem? (i := 45) (by decide +kernel))
      | 1, _ => exact hf (Cond.eq (Term.elem (Term.field (Term.string "SupplyGrid$Reader" 99) "java/lang/String" "value" "[B") (Term.int 1)) (Term.int 111)) (List.mem_of_getElem? (i := 46) (by decide +kernel))
      | 2, _ => exact hf (Cond.eq (Term.elem (Term.field (Term.string "SupplyGrid$Reader" 99) "java/lang/String" "value" "[B") (Term.int 2)) (Term.int 108)) (List.mem_of_getElem? (i := 47) (by decide +kernel))
      | 3, _ => exact hf (Cond.eq (Term.elem (Term.field (Term.string "SupplyGrid$Reader" 99) "java/lang/String" "value" "[B") (Term.int 3)) (Term.int 117)) (List.mem_of_getElem? (i := 48) (by decide +kernel))
      | 4, _ => exact hf (Cond.eq (Term.elem (Term.field (Term.string "SupplyGrid$Reader" 99) "java/lang/String" "value" "[B") (Term.int 4)) (Term.int 109)) (List.mem_of_getElem? (i := 49) (by decide +kernel))
      | 5, _ => exact hf (Cond.eq (Term.elem (Term.field (Term.string "SupplyGrid$Reader" 99) "java/lang/String" "value" "[B") (Term.int 5)) (Term.int 110)) (List.mem_of_getElem? (i := 50) (by decide +kernel))
      | 6, _ => exact hf (Cond.eq (Term.elem (Term.field (Term.string "SupplyGrid$Reader" 99) "java/lang/String" "value" "[B") (Term.int 6)) (Term.int 115)) (List.mem_of_getElem? (i := 51) (by decide +kernel))
      | j + 7, h => exact absurd h (by omega))
    (fun i j hi hj h => absurd (show i = j by omega) h) hA
  exact ⟨aK 0, aV 0, h1.1 0 (by omega), h2 0 (by omega)⟩
set_option maxRecDepth 100000 in
theorem st_2 (hf : ∀ c ∈ flatC (Jvm.Cond.and given_1 narrow_1), c.before args s = true) (hA : ∀ a : Nat, a < s.heap.size → ¬ A a) : ∃ a v, st_o (Term.string "SupplyGrid$Reader" 105) [114, 111, 119, 115] args A s a v := by
  obtain ⟨aK, aV, h1, h2⟩ := vk_Sof (N := 1) (tm := fun _ => Term.string "SupplyGrid$Reader" 105) (len := [4]) (byt := [[114, 111, 119, 115]]) (A := A) (args := args) (s := s)
    (fun i hi => by obtain rfl : i = 0 := by omega
                    decide)
    (fun _ _ => hf (Cond.exactly (Term.string "SupplyGrid$Reader" 105) "java/lang/String") (List.mem_of_getElem? (i := 52) (by decide +kernel)))
    (fun _ _ => hf (Cond.eq (Term.field (Term.string "SupplyGrid$Reader" 105) "java/lang/String" "coder" "B") (Term.int 0)) (List.mem_of_getElem? (i := 53) (by decide +kernel)))
    (fun _ _ => hf (Cond.arrayOf (Term.field (Term.string "SupplyGrid$Reader" 105) "java/lang/String" "value" "[B") .byte) (List.mem_of_getElem? (i := 54) (by decide +kernel)))
    (fun i hi => by obtain rfl : i = 0 := by omega
                    exact hf (Cond.eq (Term.length (Term.field (Term.string "SupplyGrid$Reader" 105) "java/lang/String" "value" "[B")) (Term.int 4)) (List.mem_of_getElem? (i := 55) (by decide +kernel)))
    (fun i hi j hj => by
      obtain rfl : i = 0 := by omega
      have hj : j < 4 := hj
      match j, hj with
      | 0, _ => exact hf (Cond.eq (Term.elem (Term.field (Term.string "SupplyGrid$Reader" 105) "java/lang/String" "value" "[B") (Term.int 0)) (Term.int 114)) (List.mem_of_getElem? (i := 56) (by decide +kernel))
      | 1, _ => exact hf (Cond.eq (Term.elem (Term.field (Term.string "SupplyGrid$Reader" 105) "java/lang/String" "value" "[B") (Term.int 1)) (Term.int 111)) (List.mem_of_getElem? (i := 57) (by decide +kernel))
      | 2, _ => exact hf (Cond.eq (Term.elem (Term.field (Term.string "SupplyGrid$Reader" 105) "java/lang/String" "value" "[B") (Term.int 2)) (Term.int 119)) (List.mem_of_getElem? (i := 58) (by decide +kernel))
      | 3, _ => exact hf (Cond.eq (Term.elem (Term.field (Term.string "SupplyGrid$Reader" 105) "java/lang/String" "value" "[B") (Term.int 3)) (Term.int 115)) (List.mem_of_getElem? (i := 59) (by decide +kernel))
      | j + 4, h => exact absurd h (by omega))
    (fun i j hi hj h => absurd (show i = j by omega) h) hA
  exact ⟨aK 0, aV 0, h1.1 0 (by omega), h2 0 (by omega)⟩
set_option maxRecDepth 100000 in
theorem st_3 (hf : ∀ c ∈ flatC (Jvm.Cond.and given_1 narrow_1), c.before args s = true) (hA : ∀ a : Nat, a < s.heap.size → ¬ A a) : ∃ a v, st_o (Term.string "SupplyGrid$Reader" 107) [119, 105, 100, 116, 104] args A s a v := by
  obtain ⟨aK, aV, h1, h2⟩ := vk_Sof (N := 1) (tm := fun _ => Term.string "SupplyGrid$Reader" 107) (len := [5]) (byt := [[119, 105, 100, 116, 104]]) (A := A) (args := args) (s := s)
    (fun i hi => by obtain rfl : i = 0 := by omega
                    decide)
    (fun _ _ => hf (Cond.exactly (Term.string "SupplyGrid$Reader" 107) "java/lang/String") (List.mem_of_getElem? (i := 60) (by decide +kernel)))
    (fun _ _ => hf (Cond.eq (Term.field (Term.string "SupplyGrid$Reader" 107) "java/lang/String" "coder" "B") (Term.int 0)) (List.mem_of_getElem? (i := 61) (by decide +kernel)))
    (fun _ _ => hf (Cond.arrayOf (Term.field (Term.string "SupplyGrid$Reader" 107) "java/lang/String" "value" "[B") .byte) (List.mem_of_getElem? (i := 62) (by decide +kernel)))
    (fun i hi => by obtain rfl : i = 0 := by omega
                    exact hf (Cond.eq (Term.length (Term.field (Term.string "SupplyGrid$Reader" 107) "java/lang/String" "value" "[B")) (Term.int 5)) (List.mem_of_getElem? (i := 63) (by decide +kernel)))
    (fun i hi j hj => by
      obtain rfl : i = 0 := by omega
      have hj : j < 5 := hj
      match j, hj with
      | 0, _ => exact hf (Cond.eq (Term.elem (Term.field (Term.string "SupplyGrid$Reader" 107) "java/lang/String" "value" "[B") (Term.int 0)) (Term.int 119)) (List.mem_of_getElem? (i := 64) (by decide +kernel))
      | 1, _ => exact hf (Cond.eq (Term.elem (Term.field (Term.string "SupplyGrid$Reader" 107) "java/lang/String" "value" "[B") (Term.int 1)) (Term.int 105)) (List.mem_of_getElem? (i := 65) (by decide +kernel))
      | 2, _ => exact hf (Cond.eq (Term.elem (Term.field (Term.string "SupplyGrid$Reader" 107) "java/lang/String" "value" "[B") (Term.int 2)) (Term.int 100)) (List.mem_of_getElem? (i := 66) (by decide +kernel))
      | 3, _ => exact hf (Cond.eq (Term.elem (Term.field (Term.string "SupplyGrid$Reader" 107) "java/lang/String" "value" "[B") (Term.int 3)) (Term.int 116)) (List.mem_of_getElem? (i := 67) (by decide +kernel))
      | 4, _ => exact hf (Cond.eq (Term.elem (Term.field (Term.string "SupplyGrid$Reader" 107) "java/lang/String" "value" "[B") (Term.int 4)) (Term.int 104)) (List.mem_of_getElem? (i := 68) (by decide +kernel))
      | j + 5, h => exact absurd h (by omega))
    (fun i j hi hj h => absurd (show i = j by omega) h) hA
  exact ⟨aK 0, aV 0, h1.1 0 (by omega), h2 0 (by omega)⟩
set_option maxRecDepth 100000 in
theorem st_4 (hf : ∀ c ∈ flatC (Jvm.Cond.and given_1 narrow_1), c.before args s = true) (hA : ∀ a : Nat, a < s.heap.size → ¬ A a) : ∃ a v, st_o (Term.string "SupplyGrid$Reader" 113) [108, 105, 109, 105, 116] args A s a v := by
  obtain ⟨aK, aV, h1, h2⟩ := vk_Sof (N := 1) (tm := fun _ => Term.string "SupplyGrid$Reader" 113) (len := [5]) (byt := [[108, 105, 109, 105, 116]]) (A := A) (args := args) (s := s)
    (fun i hi => by obtain rfl : i = 0 := by omega
                    decide)
    (fun _ _ => hf (Cond.exactly (Term.string "SupplyGrid$Reader" 113) "java/lang/String") (List.mem_of_getElem? (i := 69) (by decide +kernel)))
    (fun _ _ => hf (Cond.eq (Term.field (Term.string "SupplyGrid$Reader" 113) "java/lang/String" "coder" "B") (Term.int 0)) (List.mem_of_getElem? (i := 70) (by decide +kernel)))
    (fun _ _ => hf (Cond.arrayOf (Term.field (Term.string "SupplyGrid$Reader" 113) "java/lang/String" "value" "[B") .byte) (List.mem_of_getElem? (i := 71) (by decide +kernel)))
    (fun i hi => by obtain rfl : i = 0 := by omega
                    exact hf (Cond.eq (Term.length (Term.field (Term.string "SupplyGrid$Reader" 113) "java/lang/String" "value" "[B")) (Term.int 5)) (List.mem_of_getElem? (i := 72) (by decide +kernel)))
    (fun i hi j hj => by
      obtain rfl : i = 0 := by omega
      have hj : j < 5 := hj
      match j, hj with
      | 0, _ => exact hf (Cond.eq (Term.elem (Term.field (Term.string "SupplyGrid$Reader" 113) "java/lang/String" "value" "[B") (Term.int 0)) (Term.int 108)) (List.mem_of_getElem? (i := 73) (by decide +kernel))
      | 1, _ => exact hf (Cond.eq (Term.elem (Term.field (Term.string "SupplyGrid$Reader" 113) "java/lang/String" "value" "[B") (Term.int 1)) (Term.int 105)) (List.mem_of_getElem? (i := 74) (by decide +kernel))
      | 2, _ => exact hf (Cond.eq (Term.elem (Term.field (Term.string "SupplyGrid$Reader" 113) "java/lang/String" "value" "[B") (Term.int 2)) (Term.int 109)) (List.mem_of_getElem? (i := 75) (by decide +kernel))
      | 3, _ => exact hf (Cond.eq (Term.elem (Term.field (Term.string "SupplyGrid$Reader" 113) "java/lang/String" "value" "[B") (Term.int 3)) (Term.int 105)) (List.mem_of_getElem? (i := 76) (by decide +kernel))
      | 4, _ => exact hf (Cond.eq (Term.elem (Term.field (Term.string "SupplyGrid$Reader" 113) "java/lang/String" "value" "[B") (Term.int 4)) (Term.int 116)) (List.mem_of_getElem? (i := 77) (by decide +kernel))
      | j + 5, h => exact absurd h (by omega))
    (fun i j hi hj h => absurd (show i = j by omega) h) hA
  exact ⟨aK 0, aV 0, h1.1 0 (by omega), h2 0 (by omega)⟩
set_option maxRecDepth 100000 in
theorem st_5 (hf : ∀ c ∈ flatC (Jvm.Cond.and given_1 narrow_1), c.before args s = true) (hA : ∀ a : Nat, a < s.heap.size → ¬ A a) : ∃ a v, st_o (Term.string "SupplyGrid$Reader" 117) [119, 101, 97, 114] args A s a v := by
  obtain ⟨aK, aV, h1, h2⟩ := vk_Sof (N := 1) (tm := fun _ => Term.string "SupplyGrid$Reader" 117) (len := [4]) (byt := [[119, 101, 97, 114]]) (A := A) (args := args) (s := s)
    (fun i hi => by obtain rfl : i = 0 := by omega
                    decide)
    (fun _ _ => hf (Cond.exactly (Term.string "SupplyGrid$Reader" 117) "java/lang/String") (List.mem_of_getElem? (i := 78) (by decide +kernel)))
    (fun _ _ => hf (Cond.eq (Term.field (Term.string "SupplyGrid$Reader" 117) "java/lang/String" "coder" "B") (Term.int 0)) (List.mem_of_getElem? (i := 79) (by decide +kernel)))
    (fun _ _ => hf (Cond.arrayOf (Term.field (Term.string "SupplyGrid$Reader" 117) "java/lang/String" "value" "[B") .byte) (List.mem_of_getElem? (i := 80) (by decide +kernel)))
    (fun i hi => by obtain rfl : i = 0 := by omega
                    exact hf (Cond.eq (Term.length (Term.field (Term.string "SupplyGrid$Reader" 117) "java/lang/String" "value" "[B")) (Term.int 4)) (List.mem_of_getElem? (i := 81) (by decide +kernel)))
    (fun i hi j hj => by
      obtain rfl : i = 0 := by omega
      have hj : j < 4 := hj
      match j, hj with
      | 0, _ => exact hf (Cond.eq (Term.elem (Term.field (Term.string "SupplyGrid$Reader" 117) "java/lang/String" "value" "[B") (Term.int 0)) (Term.int 119)) (List.mem_of_getElem? (i := 82) (by decide +kernel))
      | 1, _ => exact hf (Cond.eq (Term.elem (Term.field (Term.string "SupplyGrid$Reader" 117) "java/lang/String" "value" "[B") (Term.int 1)) (Term.int 101)) (List.mem_of_getElem? (i := 83) (by decide +kernel))
      | 2, _ => exact hf (Cond.eq (Term.elem (Term.field (Term.string "SupplyGrid$Reader" 117) "java/lang/String" "value" "[B") (Term.int 2)) (Term.int 97)) (List.mem_of_getElem? (i := 84) (by decide +kernel))
      | 3, _ => exact hf (Cond.eq (Term.elem (Term.field (Term.string "SupplyGrid$Reader" 117) "java/lang/String" "value" "[B") (Term.int 3)) (Term.int 114)) (List.mem_of_getElem? (i := 85) (by decide +kernel))
      | j + 4, h => exact absurd h (by omega))
    (fun i j hi hj h => absurd (show i = j by omega) h) hA
  exact ⟨aK 0, aV 0, h1.1 0 (by omega), h2 0 (by omega)⟩
set_option maxRecDepth 100000 in
theorem st_6 (hf : ∀ c ∈ flatC (Jvm.Cond.and given_1 narrow_1), c.before args s = true) (hA : ∀ a : Nat, a < s.heap.size → ¬ A a) : ∃ a v, st_o (Term.string "SupplyGrid$Reader" 76) [115, 116, 114, 97, 112] args A s a v := by
  obtain ⟨aK, aV, h1, h2⟩ := vk_Sof (N := 1) (tm := fun _ => Term.string "SupplyGrid$Reader" 76) (len := [5]) (byt := [[115, 116, 114, 97, 112]]) (A := A) (args := args) (s := s)
    (fun i hi => by obtain rfl : i = 0 := by omega
                    decide)
    (fun _ _ => hf (Cond.exactly (Term.string "SupplyGrid$Reader" 76) "java/lang/String") (List.mem_of_getElem? (i := 86) (by decide +kernel)))
    (fun _ _ => hf (Cond.eq (Term.field (Term.string "SupplyGrid$Reader" 76) "java/lang/String" "coder" "B") (Term.int 0)) (List.mem_of_getElem? (i := 87) (by decide +kernel)))
    (fun _ _ => hf (Cond.arrayOf (Term.field (Term.string "SupplyGrid$Reader" 76) "java/lang/String" "value" "[B") .byte) (List.mem_of_getElem? (i := 88) (by decide +kernel)))
    (fun i hi => by obtain rfl : i = 0 := by omega
                    exact hf (Cond.eq (Term.length (Term.field (Term.string "SupplyGrid$Reader" 76) "java/lang/String" "value" "[B")) (Term.int 5)) (List.mem_of_getElem? (i := 89) (by decide +kernel)))
    (fun i hi j hj => by
      obtain rfl : i = 0 := by omega
      have hj : j < 5 := hj
      match j, hj with
      | 0, _ => exact hf (Cond.eq (Term.elem (Term.field (Term.string "SupplyGrid$Reader" 76) "java/lang/String" "value" "[B") (Term.int 0)) (Term.int 115)) (List.mem_of_getElem? (i := 90) (by decide +kernel))
      | 1, _ => exact hf (Cond.eq (Term.elem (Term.field (Term.string "SupplyGrid$Reader" 76) "java/lang/String" "value" "[B") (Term.int 1)) (Term.int 116)) (List.mem_of_getElem? (i := 91) (by decide +kernel))
      | 2, _ => exact hf (Cond.eq (Term.elem (Term.field (Term.string "SupplyGrid$Reader" 76) "java/lang/String" "value" "[B") (Term.int 2)) (Term.int 114)) (List.mem_of_getElem? (i := 92) (by decide +kernel))
      | 3, _ => exact hf (Cond.eq (Term.elem (Term.field (Term.string "SupplyGrid$Reader" 76) "java/lang/String" "value" "[B") (Term.int 3)) (Term.int 97)) (List.mem_of_getElem? (i := 93) (by decide +kernel))
      | 4, _ => exact hf (Cond.eq (Term.elem (Term.field (Term.string "SupplyGrid$Reader" 76) "java/lang/String" "value" "[B") (Term.int 4)) (Term.int 112)) (List.mem_of_getElem? (i := 94) (by decide +kernel))
      | j + 5, h => exact absurd h (by omega))
    (fun i j hi hj h => absurd (show i = j by omega) h) hA
  exact ⟨aK 0, aV 0, h1.1 0 (by omega), h2 0 (by omega)⟩
set_option maxRecDepth 100000 in
theorem st_7 (hf : ∀ c ∈ flatC (Jvm.Cond.and given_1 narrow_1), c.before args s = true) (hA : ∀ a : Nat, a < s.heap.size → ¬ A a) : ∃ a v, st_o (Term.string "SupplyGrid$Reader" 167) [97, 116] args A s a v := by
  obtain ⟨aK, aV, h1, h2⟩ := vk_Sof (N := 1) (tm := fun _ => Term.string "SupplyGrid$Reader" 167) (len := [2]) (byt := [[97, 116]]) (A := A) (args := args) (s := s)
    (fun i hi => by obtain rfl : i = 0 := by omega
                    decide)
    (fun _ _ => hf (Cond.exactly (Term.string "SupplyGrid$Reader" 167) "java/lang/String") (List.mem_of_getElem? (i := 95) (by decide +kernel)))
    (fun _ _ => hf (Cond.eq (Term.field (Term.string "SupplyGrid$Reader" 167) "java/lang/String" "coder" "B") (Term.int 0)) (List.mem_of_getElem? (i := 96) (by decide +kernel)))
    (fun _ _ => hf (Cond.arrayOf (Term.field (Term.string "SupplyGrid$Reader" 167) "java/lang/String" "value" "[B") .byte) (List.mem_of_getElem? (i := 97) (by decide +kernel)))
    (fun i hi => by obtain rfl : i = 0 := by omega
                    exact hf (Cond.eq (Term.length (Term.field (Term.string "SupplyGrid$Reader" 167) "java/lang/String" "value" "[B")) (Term.int 2)) (List.mem_of_getElem? (i := 98) (by decide +kernel)))
    (fun i hi j hj => by
      obtain rfl : i = 0 := by omega
      have hj : j < 2 := hj
      match j, hj with
      | 0, _ => exact hf (Cond.eq (Term.elem (Term.field (Term.string "SupplyGrid$Reader" 167) "java/lang/String" "value" "[B") (Term.int 0)) (Term.int 97)) (List.mem_of_getElem? (i := 99) (by decide +kernel))
      | 1, _ => exact hf (Cond.eq (Term.elem (Term.field (Term.string "SupplyGrid$Reader" 167) "java/lang/String" "value" "[B") (Term.int 1)) (Term.int 116)) (List.mem_of_getElem? (i := 100) (by decide +kernel))
      | j + 2, h => exact absurd h (by omega))
    (fun i j hi hj h => absurd (show i = j by omega) h) hA
  exact ⟨aK 0, aV 0, h1.1 0 (by omega), h2 0 (by omega)⟩
set_option maxRecDepth 100000 in
theorem st_8 (hf : ∀ c ∈ flatC (Jvm.Cond.and given_1 narrow_1), c.before args s = true) (hA : ∀ a : Nat, a < s.heap.size → ¬ A a) : ∃ a v, st_o (Term.string "SupplyGrid$Reader" 127) [101, 97, 115, 116] args A s a v := by
  obtain ⟨aK, aV, h1, h2⟩ := vk_Sof (N := 1) (tm := fun _ => Term.string "SupplyGrid$Reader" 127) (len := [4]) (byt := [[101, 97, 115, 116]]) (A := A) (args := args) (s := s)
    (fun i hi => by obtain rfl : i = 0 := by omega
                    decide)
    (fun _ _ => hf (Cond.exactly (Term.string "SupplyGrid$Reader" 127) "java/lang/String") (List.mem_of_getElem? (i := 101) (by decide +kernel)))
    (fun _ _ => hf (Cond.eq (Term.field (Term.string "SupplyGrid$Reader" 127) "java/lang/String" "coder" "B") (Term.int 0)) (List.mem_of_getElem? (i := 102) (by decide +kernel)))
    (fun _ _ => hf (Cond.arrayOf (Term.field (Term.string "SupplyGrid$Reader" 127) "java/lang/String" "value" "[B") .byte) (List.mem_of_getElem? (i := 103) (by decide +kernel)))
    (fun i hi => by obtain rfl : i = 0 := by omega
                    exact hf (Cond.eq (Term.length (Term.field (Term.string "SupplyGrid$Reader" 127) "java/lang/String" "value" "[B")) (Term.int 4)) (List.mem_of_getElem? (i := 104) (by decide +kernel)))
    (fun i hi j hj => by
      obtain rfl : i = 0 := by omega
      have hj : j < 4 := hj
      match j, hj with
      | 0, _ => exact hf (Cond.eq (Term.elem (Term.field (Term.string "SupplyGrid$Reader" 127) "java/lang/String" "value" "[B") (Term.int 0)) (Term.int 101)) (List.mem_of_getElem? (i := 105) (by decide +kernel))
      | 1, _ => exact hf (Cond.eq (Term.elem (Term.field (Term.string "SupplyGrid$Reader" 127) "java/lang/String" "value" "[B") (Term.int 1)) (Term.int 97)) (List.mem_of_getElem? (i := 106) (by decide +kernel))
      | 2, _ => exact hf (Cond.eq (Term.elem (Term.field (Term.string "SupplyGrid$Reader" 127) "java/lang/String" "value" "[B") (Term.int 2)) (Term.int 115)) (List.mem_of_getElem? (i := 107) (by decide +kernel))
      | 3, _ => exact hf (Cond.eq (Term.elem (Term.field (Term.string "SupplyGrid$Reader" 127) "java/lang/String" "value" "[B") (Term.int 3)) (Term.int 116)) (List.mem_of_getElem? (i := 108) (by decide +kernel))
      | j + 4, h => exact absurd h (by omega))
    (fun i j hi hj h => absurd (show i = j by omega) h) hA
  exact ⟨aK 0, aV 0, h1.1 0 (by omega), h2 0 (by omega)⟩
set_option maxRecDepth 100000 in
theorem st_9 (hf : ∀ c ∈ flatC (Jvm.Cond.and given_1 narrow_1), c.before args s = true) (hA : ∀ a : Nat, a < s.heap.size → ¬ A a) : ∃ a v, st_o (Term.string "SupplyGrid$Reader" 129) [115, 111, 117, 116, 104] args A s a v := by
  obtain ⟨aK, aV, h1, h2⟩ := vk_Sof (N := 1) (tm := fun _ => Term.string "SupplyGrid$Reader" 129) (len := [5]) (byt := [[115, 111, 117, 116, 104]]) (A := A) (args := args) (s := s)
    (fun i hi => by obtain rfl : i = 0 := by omega
                    decide)
    (fun _ _ => hf (Cond.exactly (Term.string "SupplyGrid$Reader" 129) "java/lang/String") (List.mem_of_getElem? (i := 109) (by decide +kernel)))
    (fun _ _ => hf (Cond.eq (Term.field (Term.string "SupplyGrid$Reader" 129) "java/lang/String" "coder" "B") (Term.int 0)) (List.mem_of_getElem? (i := 110) (by decide +kernel)))
    (fun _ _ => hf (Cond.arrayOf (Term.field (Term.string "SupplyGrid$Reader" 129) "java/lang/String" "value" "[B") .byte) (List.mem_of_getElem? (i := 111) (by decide +kernel)))
    (fun i hi => by obtain rfl : i = 0 := by omega
                    exact hf (Cond.eq (Term.length (Term.field (Term.string "SupplyGrid$Reader" 129) "java/lang/String" "value" "[B")) (Term.int 5)) (List.mem_of_getElem? (i := 112) (by decide +kernel)))
    (fun i hi j hj => by
      obtain rfl : i = 0 := by omega
      have hj : j < 5 := hj
      match j, hj with
      | 0, _ => exact hf (Cond.eq (Term.elem (Term.field (Term.string "SupplyGrid$Reader" 129) "java/lang/String" "value" "[B") (Term.int 0)) (Term.int 115)) (List.mem_of_getElem? (i := 113) (by decide +kernel))
      | 1, _ => exact hf (Cond.eq (Term.elem (Term.field (Term.string "SupplyGrid$Reader" 129) "java/lang/String" "value" "[B") (Term.int 1)) (Term.int 111)) (List.mem_of_getElem? (i := 114) (by decide +kernel))
      | 2, _ => exact hf (Cond.eq (Term.elem (Term.field (Term.string "SupplyGrid$Reader" 129) "java/lang/String" "value" "[B") (Term.int 2)) (Term.int 117)) (List.mem_of_getElem? (i := 115) (by decide +kernel))
      | 3, _ => exact hf (Cond.eq (Term.elem (Term.field (Term.string "SupplyGrid$Reader" 129) "java/lang/String" "value" "[B") (Term.int 3)) (Term.int 116)) (List.mem_of_getElem? (i := 116) (by decide +kernel))
      | 4, _ => exact hf (Cond.eq (Term.elem (Term.field (Term.string "SupplyGrid$Reader" 129) "java/lang/String" "value" "[B") (Term.int 4)) (Term.int 104)) (List.mem_of_getElem? (i := 117) (by decide +kernel))
      | j + 5, h => exact absurd h (by omega))
    (fun i j hi hj h => absurd (show i = j by omega) h) hA
  exact ⟨aK 0, aV 0, h1.1 0 (by omega), h2 0 (by omega)⟩
set_option maxRecDepth 100000 in
theorem st_10 (hf : ∀ c ∈ flatC (Jvm.Cond.and given_1 narrow_1), c.before args s = true) (hA : ∀ a : Nat, a < s.heap.size → ¬ A a) : ∃ a v, st_o (Term.string "SupplyGrid$Reader" 81) [112, 97, 100] args A s a v := by
  obtain ⟨aK, aV, h1, h2⟩ := vk_Sof (N := 1) (tm := fun _ => Term.string "SupplyGrid$Reader" 81) (len := [3]) (byt := [[112, 97, 100]]) (A := A) (args := args) (s := s)
    (fun i hi => by obtain rfl : i = 0 := by omega
                    decide)
    (fun _ _ => hf (Cond.exactly (Term.string "SupplyGrid$Reader" 81) "java/lang/String") (List.mem_of_getElem? (i := 118) (by decide +kernel)))
    (fun _ _ => hf (Cond.eq (Term.field (Term.string "SupplyGrid$Reader" 81) "java/lang/String" "coder" "B") (Term.int 0)) (List.mem_of_getElem? (i := 119) (by decide +kernel)))
    (fun _ _ => hf (Cond.arrayOf (Term.field (Term.string "SupplyGrid$Reader" 81) "java/lang/String" "value" "[B") .byte) (List.mem_of_getElem? (i := 120) (by decide +kernel)))
    (fun i hi => by obtain rfl : i = 0 := by omega
                    exact hf (Cond.eq (Term.length (Term.field (Term.string "SupplyGrid$Reader" 81) "java/lang/String" "value" "[B")) (Term.int 3)) (List.mem_of_getElem? (i := 121) (by decide +kernel)))
    (fun i hi j hj => by
      obtain rfl : i = 0 := by omega
      have hj : j < 3 := hj
      match j, hj with
      | 0, _ => exact hf (Cond.eq (Term.elem (Term.field (Term.string "SupplyGrid$Reader" 81) "java/lang/String" "value" "[B") (Term.int 0)) (Term.int 112)) (List.mem_of_getElem? (i := 122) (by decide +kernel))
      | 1, _ => exact hf (Cond.eq (Term.elem (Term.field (Term.string "SupplyGrid$Reader" 81) "java/lang/String" "value" "[B") (Term.int 1)) (Term.int 97)) (List.mem_of_getElem? (i := 123) (by decide +kernel))
      | 2, _ => exact hf (Cond.eq (Term.elem (Term.field (Term.string "SupplyGrid$Reader" 81) "java/lang/String" "value" "[B") (Term.int 2)) (Term.int 100)) (List.mem_of_getElem? (i := 124) (by decide +kernel))
      | j + 3, h => exact absurd h (by omega))
    (fun i j hi hj h => absurd (show i = j by omega) h) hA
  exact ⟨aK 0, aV 0, h1.1 0 (by omega), h2 0 (by omega)⟩
set_option maxRecDepth 100000 in
theorem st_11 (hf : ∀ c ∈ flatC (Jvm.Cond.and given_1 narrow_1), c.before args s = true) (hA : ∀ a : Nat, a < s.heap.size → ¬ A a) : ∃ a v, st_o (Term.string "SupplyGrid$Reader" 86) [108, 111, 97, 100] args A s a v := by
  obtain ⟨aK, aV, h1, h2⟩ := vk_Sof (N := 1) (tm := fun _ => Term.string "SupplyGrid$Reader" 86) (len := [4]) (byt := [[108, 111, 97, 100]]) (A := A) (args := args) (s := s)
    (fun i hi => by obtain rfl : i = 0 := by omega
                    decide)
    (fun _ _ => hf (Cond.exactly (Term.string "SupplyGrid$Reader" 86) "java/lang/String") (List.mem_of_getElem? (i := 125) (by decide +kernel)))
    (fun _ _ => hf (Cond.eq (Term.field (Term.string "SupplyGrid$Reader" 86) "java/lang/String" "coder" "B") (Term.int 0)) (List.mem_of_getElem? (i := 126) (by decide +kernel)))
    (fun _ _ => hf (Cond.arrayOf (Term.field (Term.string "SupplyGrid$Reader" 86) "java/lang/String" "value" "[B") .byte) (List.mem_of_getElem? (i := 127) (by decide +kernel)))
    (fun i hi => by obtain rfl : i = 0 := by omega
                    exact hf (Cond.eq (Term.length (Term.field (Term.string "SupplyGrid$Reader" 86) "java/lang/String" "value" "[B")) (Term.int 4)) (List.mem_of_getElem? (i := 128) (by decide +kernel)))
    (fun i hi j hj => by
      obtain rfl : i = 0 := by omega
      have hj : j < 4 := hj
      match j, hj with
      | 0, _ => exact hf (Cond.eq (Term.elem (Term.field (Term.string "SupplyGrid$Reader" 86) "java/lang/String" "value" "[B") (Term.int 0)) (Term.int 108)) (List.mem_of_getElem? (i := 129) (by decide +kernel))
      | 1, _ => exact hf (Cond.eq (Term.elem (Term.field (Term.string "SupplyGrid$Reader" 86) "java/lang/String" "value" "[B") (Term.int 1)) (Term.int 111)) (List.mem_of_getElem? (i := 130) (by decide +kernel))
      | 2, _ => exact hf (Cond.eq (Term.elem (Term.field (Term.string "SupplyGrid$Reader" 86) "java/lang/String" "value" "[B") (Term.int 2)) (Term.int 97)) (List.mem_of_getElem? (i := 131) (by decide +kernel))
      | 3, _ => exact hf (Cond.eq (Term.elem (Term.field (Term.string "SupplyGrid$Reader" 86) "java/lang/String" "value" "[B") (Term.int 3)) (Term.int 100)) (List.mem_of_getElem? (i := 132) (by decide +kernel))
      | j + 4, h => exact absurd h (by omega))
    (fun i j hi hj h => absurd (show i = j by omega) h) hA
  exact ⟨aK 0, aV 0, h1.1 0 (by omega), h2 0 (by omega)⟩
set_option maxRecDepth 100000 in
theorem st_12 (hf : ∀ c ∈ flatC (Jvm.Cond.and given_1 narrow_1), c.before args s = true) (hA : ∀ a : Nat, a < s.heap.size → ¬ A a) : ∃ a v, st_o (Term.string "SupplyGrid$Reader" 151) [100, 114, 97, 119, 115] args A s a v := by
  obtain ⟨aK, aV, h1, h2⟩ := vk_Sof (N := 1) (tm := fun _ => Term.string "SupplyGrid$Reader" 151) (len := [5]) (byt := [[100, 114, 97, 119, 115]]) (A := A) (args := args) (s := s)
    (fun i hi => by obtain rfl : i = 0 := by omega
                    decide)
    (fun _ _ => hf (Cond.exactly (Term.string "SupplyGrid$Reader" 151) "java/lang/String") (List.mem_of_getElem? (i := 133) (by decide +kernel)))
    (fun _ _ => hf (Cond.eq (Term.field (Term.string "SupplyGrid$Reader" 151) "java/lang/String" "coder" "B") (Term.int 0)) (List.mem_of_getElem? (i := 134) (by decide +kernel)))
    (fun _ _ => hf (Cond.arrayOf (Term.field (Term.string "SupplyGrid$Reader" 151) "java/lang/String" "value" "[B") .byte) (List.mem_of_getElem? (i := 135) (by decide +kernel)))
    (fun i hi => by obtain rfl : i = 0 := by omega
                    exact hf (Cond.eq (Term.length (Term.field (Term.string "SupplyGrid$Reader" 151) "java/lang/String" "value" "[B")) (Term.int 5)) (List.mem_of_getElem? (i := 136) (by decide +kernel)))
    (fun i hi j hj => by
      obtain rfl : i = 0 := by omega
      have hj : j < 5 := hj
      match j, hj with
      | 0, _ => exact hf (Cond.eq (Term.elem (Term.field (Term.string "SupplyGrid$Reader" 151) "java/lang/String" "value" "[B") (Term.int 0)) (Term.int 100)) (List.mem_of_getElem? (i := 137) (by decide +kernel))
      | 1, _ => exact hf (Cond.eq (Term.elem (Term.field (Term.string "SupplyGrid$Reader" 151) "java/lang/String" "value" "[B") (Term.int 1)) (Term.int 114)) (List.mem_of_getElem? (i := 138) (by decide +kernel))
      | 2, _ => exact hf (Cond.eq (Term.elem (Term.field (Term.string "SupplyGrid$Reader" 151) "java/lang/String" "value" "[B") (Term.int 2)) (Term.int 97)) (List.mem_of_getElem? (i := 139) (by decide +kernel))
      | 3, _ => exact hf (Cond.eq (Term.elem (Term.field (Term.string "SupplyGrid$Reader" 151) "java/lang/String" "value" "[B") (Term.int 3)) (Term.int 119)) (List.mem_of_getElem? (i := 140) (by decide +kernel))
      | 4, _ => exact hf (Cond.eq (Term.elem (Term.field (Term.string "SupplyGrid$Reader" 151) "java/lang/String" "value" "[B") (Term.int 4)) (Term.int 115)) (List.mem_of_getElem? (i := 141) (by decide +kernel))
      | j + 5, h => exact absurd h (by omega))
    (fun i j hi hj h => absurd (show i = j by omega) h) hA
  exact ⟨aK 0, aV 0, h1.1 0 (by omega), h2 0 (by omega)⟩
set_option maxRecDepth 100000 in
theorem st_13 (hf : ∀ c ∈ flatC (Jvm.Cond.and given_1 narrow_1), c.before args s = true) (hA : ∀ a : Nat, a < s.heap.size → ¬ A a) : ∃ a v, st_o (Term.string "SupplyGrid$Reader" 153) [103, 114, 111, 117, 112] args A s a v := by
  obtain ⟨aK, aV, h1, h2⟩ := vk_Sof (N := 1) (tm := fun _ => Term.string "SupplyGrid$Reader" 153) (len := [5]) (byt := [[103, 114, 111, 117, 112]]) (A := A) (args := args) (s := s)
    (fun i hi => by obtain rfl : i = 0 := by omega
                    decide)
    (fun _ _ => hf (Cond.exactly (Term.string "SupplyGrid$Reader" 153) "java/lang/String") (List.mem_of_getElem? (i := 142) (by decide +kernel)))
    (fun _ _ => hf (Cond.eq (Term.field (Term.string "SupplyGrid$Reader" 153) "java/lang/String" "coder" "B") (Term.int 0)) (List.mem_of_getElem? (i := 143) (by decide +kernel)))
    (fun _ _ => hf (Cond.arrayOf (Term.field (Term.string "SupplyGrid$Reader" 153) "java/lang/String" "value" "[B") .byte) (List.mem_of_getElem? (i := 144) (by decide +kernel)))
    (fun i hi => by obtain rfl : i = 0 := by omega
                    exact hf (Cond.eq (Term.length (Term.field (Term.string "SupplyGrid$Reader" 153) "java/lang/String" "value" "[B")) (Term.int 5)) (List.mem_of_getElem? (i := 145) (by decide +kernel)))
    (fun i hi j hj => by
      obtain rfl : i = 0 := by omega
      have hj : j < 5 := hj
      match j, hj with
      | 0, _ => exact hf (Cond.eq (Term.elem (Term.field (Term.string "SupplyGrid$Reader" 153) "java/lang/String" "value" "[B") (Term.int 0)) (Term.int 103)) (List.mem_of_getElem? (i := 146) (by decide +kernel))
      | 1, _ => exact hf (Cond.eq (Term.elem (Term.field (Term.string "SupplyGrid$Reader" 153) "java/lang/String" "value" "[B") (Term.int 1)) (Term.int 114)) (List.mem_of_getElem? (i := 147) (by decide +kernel))
      | 2, _ => exact hf (Cond.eq (Term.elem (Term.field (Term.string "SupplyGrid$Reader" 153) "java/lang/String" "value" "[B") (Term.int 2)) (Term.int 111)) (List.mem_of_getElem? (i := 148) (by decide +kernel))
      | 3, _ => exact hf (Cond.eq (Term.elem (Term.field (Term.string "SupplyGrid$Reader" 153) "java/lang/String" "value" "[B") (Term.int 3)) (Term.int 117)) (List.mem_of_getElem? (i := 149) (by decide +kernel))
      | 4, _ => exact hf (Cond.eq (Term.elem (Term.field (Term.string "SupplyGrid$Reader" 153) "java/lang/String" "value" "[B") (Term.int 4)) (Term.int 112)) (List.mem_of_getElem? (i := 150) (by decide +kernel))
      | j + 5, h => exact absurd h (by omega))
    (fun i j hi hj h => absurd (show i = j by omega) h) hA
  exact ⟨aK 0, aV 0, h1.1 0 (by omega), h2 0 (by omega)⟩
set_option maxRecDepth 100000 in
theorem st_14 (hf : ∀ c ∈ flatC (Jvm.Cond.and given_1 narrow_1), c.before args s = true) (hA : ∀ a : Nat, a < s.heap.size → ¬ A a) : ∃ a v, st_o (Term.string "SupplyGrid$Reader" 91) [98, 117, 100, 103, 101, 116] args A s a v := by
  obtain ⟨aK, aV, h1, h2⟩ := vk_Sof (N := 1) (tm := fun _ => Term.string "SupplyGrid$Reader" 91) (len := [6]) (byt := [[98, 117, 100, 103, 101, 116]]) (A := A) (args := args) (s := s)
    (fun i hi => by obtain rfl : i = 0 := by omega
                    decide)
    (fun _ _ => hf (Cond.exactly (Term.string "SupplyGrid$Reader" 91) "java/lang/String") (List.mem_of_getElem? (i := 151) (by decide +kernel)))
    (fun _ _ => hf (Cond.eq (Term.field (Term.string "SupplyGrid$Reader" 91) "java/lang/String" "coder" "B") (Term.int 0)) (List.mem_of_getElem? (i := 152) (by decide +kernel)))
    (fun _ _ => hf (Cond.arrayOf (Term.field (Term.string "SupplyGrid$Reader" 91) "java/lang/String" "value" "[B") .byte) (List.mem_of_getElem? (i := 153) (by decide +kernel)))
    (fun i hi => by obtain rfl : i = 0 := by omega
                    exact hf (Cond.eq (Term.length (Term.field (Term.string "SupplyGrid$Reader" 91) "java/lang/String" "value" "[B")) (Term.int 6)) (List.mem_of_getElem? (i := 154) (by decide +kernel)))
    (fun i hi j hj => by
      obtain rfl : i = 0 := by omega
      have hj : j < 6 := hj
      match j, hj with
      | 0, _ => exact hf (Cond.eq (Term.elem (Term.field (Term.string "SupplyGrid$Reader" 91) "java/lang/String" "value" "[B") (Term.int 0)) (Term.int 98)) (List.mem_of_getElem? (i := 155) (by decide +kernel))
      | 1, _ => exact hf (Cond.eq (Term.elem (Term.field (Term.string "SupplyGrid$Reader" 91) "java/lang/String" "value" "[B") (Term.int 1)) (Term.int 117)) (List.mem_of_getElem? (i := 156) (by decide +kernel))
      | 2, _ => exact hf (Cond.eq (Term.elem (Term.field (Term.string "SupplyGrid$Reader" 91) "java/lang/String" "value" "[B") (Term.int 2)) (Term.int 100)) (List.mem_of_getElem? (i := 157) (by decide +kernel))
      | 3, _ => exact hf (Cond.eq (Term.elem (Term.field (Term.string "SupplyGrid$Reader" 91) "java/lang/String" "value" "[B") (Term.int 3)) (Term.int 103)) (List.mem_of_getElem? (i := 158) (by decide +kernel))
      | 4, _ => exact hf (Cond.eq (Term.elem (Term.field (Term.string "SupplyGrid$Reader" 91) "java/lang/String" "value" "[B") (Term.int 4)) (Term.int 101)) (List.mem_of_getElem? (i := 159) (by decide +kernel))
      | 5, _ => exact hf (Cond.eq (Term.elem (Term.field (Term.string "SupplyGrid$Reader" 91) "java/lang/String" "value" "[B") (Term.int 5)) (Term.int 116)) (List.mem_of_getElem? (i := 160) (by decide +kernel))
      | j + 6, h => exact absurd h (by omega))
    (fun i j hi hj h => absurd (show i = j by omega) h) hA
  exact ⟨aK 0, aV 0, h1.1 0 (by omega), h2 0 (by omega)⟩
set_option maxRecDepth 100000 in
theorem st_15 (hf : ∀ c ∈ flatC (Jvm.Cond.and given_1 narrow_1), c.before args s = true) (hA : ∀ a : Nat, a < s.heap.size → ¬ A a) : ∃ a v, st_o (Term.string "SupplyGrid$Reader" 162) [105, 115] args A s a v := by
  obtain ⟨aK, aV, h1, h2⟩ := vk_Sof (N := 1) (tm := fun _ => Term.string "SupplyGrid$Reader" 162) (len := [2]) (byt := [[105, 115]]) (A := A) (args := args) (s := s)
    (fun i hi => by obtain rfl : i = 0 := by omega
                    decide)
    (fun _ _ => hf (Cond.exactly (Term.string "SupplyGrid$Reader" 162) "java/lang/String") (List.mem_of_getElem? (i := 161) (by decide +kernel)))
    (fun _ _ => hf (Cond.eq (Term.field (Term.string "SupplyGrid$Reader" 162) "java/lang/String" "coder" "B") (Term.int 0)) (List.mem_of_getElem? (i := 162) (by decide +kernel)))
    (fun _ _ => hf (Cond.arrayOf (Term.field (Term.string "SupplyGrid$Reader" 162) "java/lang/String" "value" "[B") .byte) (List.mem_of_getElem? (i := 163) (by decide +kernel)))
    (fun i hi => by obtain rfl : i = 0 := by omega
                    exact hf (Cond.eq (Term.length (Term.field (Term.string "SupplyGrid$Reader" 162) "java/lang/String" "value" "[B")) (Term.int 2)) (List.mem_of_getElem? (i := 164) (by decide +kernel)))
    (fun i hi j hj => by
      obtain rfl : i = 0 := by omega
      have hj : j < 2 := hj
      match j, hj with
      | 0, _ => exact hf (Cond.eq (Term.elem (Term.field (Term.string "SupplyGrid$Reader" 162) "java/lang/String" "value" "[B") (Term.int 0)) (Term.int 105)) (List.mem_of_getElem? (i := 165) (by decide +kernel))
      | 1, _ => exact hf (Cond.eq (Term.elem (Term.field (Term.string "SupplyGrid$Reader" 162) "java/lang/String" "value" "[B") (Term.int 1)) (Term.int 115)) (List.mem_of_getElem? (i := 166) (by decide +kernel))
      | j + 2, h => exact absurd h (by omega))
    (fun i j hi hj h => absurd (show i = j by omega) h) hA
  exact ⟨aK 0, aV 0, h1.1 0 (by omega), h2 0 (by omega)⟩
theorem st_v {a v v' : Nat} {U : State} {H : Heap} (h : va_OF "java/lang/String" "value" "[B" (.ref v) a A U H) (h' : va_OF "java/lang/String" "value" "[B" (.ref v') a A U H) : v = v' := by
  obtain ⟨c1, k1, i1, f1, x1, g1, -, g3, -, g5, -⟩ := h
  obtain ⟨c2, k2, i2, f2, x2, e1, -, e3, -, e5, -⟩ := h'
  have hf := Option.some.inj (g1.symm.trans e1)
  have hff : f1 = f2 := congrArg (fun q => q.2.2.2) hf
  subst hff
  have hx := Option.some.inj (g3.symm.trans e3)
  subst hx
  have := Option.some.inj (g5.symm.trans e5)
  exact Value.ref.inj this
theorem st_t {v n n' : Nat} {f f' : Nat → Value} {U : State} {H : Heap} (h : va_T .byte v n f A U H) (h' : va_T .byte v n' f' A U H) : Int32.ofNat n = Int32.ofNat n' ∧ ∀ j, j < n → j < n' → f j = f' j := by
  obtain ⟨x1, g1, -, -, -, g5, g6, -⟩ := h
  obtain ⟨x2, e1, -, -, -, e5, e6, -⟩ := h'
  have hx := Option.some.inj (g1.symm.trans e1)
  subst hx
  exact ⟨g5.symm.trans e5, fun j h1 h2 => Option.some.inj ((g6 j h1).symm.trans (e6 j h2))⟩
theorem st_d : ∀ i, i < 16 → ∀ j, j < 16 → (Int32.ofNat (sg_len.getD i 0) = Int32.ofNat (sg_len.getD j 0) ∧ ∀ k, k < 7 → k < sg_len.getD i 0 → k < sg_len.getD j 0 → (sg_byt.getD i []).getD k 0 = (sg_byt.getD j []).getD k 0) → i = j := by decide +kernel
set_option maxRecDepth 100000 in
theorem st_Str {b : Nat} (hts : ∀ w ∈ lw_tbl, w.before #[Value.ref b] s = true) (hgv : (Jvm.Cond.and given_1 narrow_1).before #[Value.ref b] s = true) (hA : ∀ a : Nat, a < s.heap.size → ¬ A a) : ∃ zK zV : Nat → Nat, sg_Str A zK zV s s.heap := by
  have hf := flat_of_before _ hgv
  obtain ⟨a0, v0, o0, e0⟩ := st_0 (A := A) hf hA
  obtain ⟨a1, v1, o1, e1⟩ := st_1 (A := A) hf hA
  obtain ⟨a2, v2, o2, e2⟩ := st_2 (A := A) hf hA
  obtain ⟨a3, v3, o3, e3⟩ := st_3 (A := A) hf hA
  obtain ⟨a4, v4, o4, e4⟩ := st_4 (A := A) hf hA
  obtain ⟨a5, v5, o5, e5⟩ := st_5 (A := A) hf hA
  obtain ⟨a6, v6, o6, e6⟩ := st_6 (A := A) hf hA
  obtain ⟨a7, v7, o7, e7⟩ := st_7 (A := A) hf hA
  obtain ⟨a8, v8, o8, e8⟩ := st_8 (A := A) hf hA
  obtain ⟨a9, v9, o9, e9⟩ := st_9 (A := A) hf hA
  obtain ⟨a10, v10, o10, e10⟩ := st_10 (A := A) hf hA
  obtain ⟨a11, v11, o11, e11⟩ := st_11 (A := A) hf hA
  obtain ⟨a12, v12, o12, e12⟩ := st_12 (A := A) hf hA
  obtain ⟨a13, v13, o13, e13⟩ := st_13 (A := A) hf hA
  obtain ⟨a14, v14, o14, e14⟩ := st_14 (A := A) hf hA
  obtain ⟨a15, v15, o15, e15⟩ := st_15 (A := A) hf hA
  have h1 : ∀ i : Nat, i < 16 → va_O "java/lang/String" ([a0, a1, a2, a3, a4, a5, a6, a7, a8, a9, a10, a11, a12, a13, a14, a15].getD i 0) A s s.heap ∧ va_OF "java/lang/String" "coder" "B" (.int 0) ([a0, a1, a2, a3, a4, a5, a6, a7, a8, a9, a10, a11, a12, a13, a14, a15].getD i 0) A s s.heap ∧ va_OF "java/lang/String" "value" "[B" (.ref ([v0, v1, v2, v3, v4, v5, v6, v7, v8, v9, v10, v11, v12, v13, v14, v15].getD i 0)) ([a0, a1, a2, a3, a4, a5, a6, a7, a8, a9, a10, a11, a12, a13, a14, a15].getD i 0) A s s.heap ∧ va_T .byte ([v0, v1, v2, v3, v4, v5, v6, v7, v8, v9, v10, v11, v12, v13, v14, v15].getD i 0) (sg_len.getD i 0) (fun j => .int ((sg_byt.getD i []).getD j 0)) A s s.heap := fun i hi => by
    match i, hi with
    | 0, _ => exact o0
    | 1, _ => exact o1
    | 2, _ => exact o2
    | 3, _ => exact o3
    | 4, _ => exact o4
    | 5, _ => exact o5
    | 6, _ => exact o6
    | 7, _ => exact o7
    | 8, _ => exact o8
    | 9, _ => exact o9
    | 10, _ => exact o10
    | 11, _ => exact o11
    | 12, _ => exact o12
    | 13, _ => exact o13
    | 14, _ => exact o14
    | 15, _ => exact o15
    | i + 16, h => exact absurd h (by omega)
  refine ⟨fun i => [a0, a1, a2, a3, a4, a5, a6, a7, a8, a9, a10, a11, a12, a13, a14, a15].getD i 0, fun i => [v0, v1, v2, v3, v4, v5, v6, v7, v8, v9, v10, v11, v12, v13, v14, v15].getD i 0, ⟨h1, fun i j hi hj e => ?_⟩, ?_, ?_, ?_⟩
  · obtain ⟨-, -, p3, p4⟩ := h1 i hi
    obtain ⟨-, -, q3, q4⟩ := h1 j hj
    have e : [a0, a1, a2, a3, a4, a5, a6, a7, a8, a9, a10, a11, a12, a13, a14, a15].getD i 0 = [a0, a1, a2, a3, a4, a5, a6, a7, a8, a9, a10, a11, a12, a13, a14, a15].getD j 0 := e
    rw [e] at p3
    have ev := st_v p3 q3
    rw [ev] at p4
    obtain ⟨t1, t2⟩ := st_t p4 q4
    exact st_d i hi j hj ⟨t1, fun k _ h1 h2 => Value.int.inj (t2 k h1 h2)⟩
  · exact List.forall_mem_cons.mpr ⟨vk_R.of (hts (.stringRef "SupplyGrid$Reader" 62 "grid") (List.mem_append_right _ (List.mem_of_getElem? (i := 582) (by decide +kernel)))) (e0), List.forall_mem_cons.mpr ⟨vk_R.of (hts (.stringRef "SupplyGrid$Reader" 99 "columns") (List.mem_append_right _ (List.mem_of_getElem? (i := 639) (by decide +kernel)))) (e1), List.forall_mem_cons.mpr ⟨vk_R.of (hts (.stringRef "SupplyGrid$Reader" 105 "rows") (List.mem_append_right _ (List.mem_of_getElem? (i := 652) (by decide +kernel)))) (e2), List.forall_mem_cons.mpr ⟨vk_R.of (hts (.stringRef "SupplyGrid$Reader" 107 "width") (List.mem_append_right _ (List.mem_of_getElem? (i := 653) (by decide +kernel)))) (e3), List.forall_mem_cons.mpr ⟨vk_R.of (hts (.stringRef "SupplyGrid$Reader" 113 "limit") (List.mem_append_right _ (List.mem_of_getElem? (i := 662) (by decide +kernel)))) (e4), List.forall_mem_cons.mpr ⟨vk_R.of (hts (.stringRef "SupplyGrid$Reader" 117 "wear") (List.mem_append_right _ (List.mem_of_getElem? (i := 663) (by decide +kernel)))) (e5), List.forall_mem_cons.mpr ⟨vk_R.of (hts (.stringRef "SupplyGrid$Reader" 76 "strap") (List.mem_append_right _ (List.mem_of_getElem? (i := 668) (by decide +kernel)))) (e6), List.forall_mem_cons.mpr ⟨vk_R.of (hts (.stringRef "SupplyGrid$Reader" 167 "at") (List.mem_append_right _ (List.mem_of_getElem? (i := 677) (by decide +kernel)))) (e7), List.forall_mem_cons.mpr ⟨vk_R.of (hts (.stringRef "SupplyGrid$Reader" 127 "east") (List.mem_append_right _ (List.mem_of_getElem? (i := 678) (by decide +kernel)))) (e8), List.forall_mem_cons.mpr ⟨vk_R.of (hts (.stringRef "SupplyGrid$Reader" 129 "south") (List.mem_append_right _ (List.mem_of_getElem? (i := 679) (by decide +kernel)))) (e9), List.forall_mem_cons.mpr ⟨vk_R.of (hts (.stringRef "SupplyGrid$Reader" 81 "pad") (List.mem_append_right _ (List.mem_of_getElem? (i := 684) (by decide +kernel)))) (e10), List.forall_mem_cons.mpr ⟨vk_R.of (hts (.stringRef "SupplyGrid$Reader" 86 "load") (List.mem_append_right _ (List.mem_of_getElem? (i := 693) (by decide +kernel)))) (e11), List.forall_mem_cons.mpr ⟨vk_R.of (hts (.stringRef "SupplyGrid$Reader" 151 "draws") (List.mem_append_right _ (List.mem_of_getElem? (i := 698) (by decide +kernel)))) (e12), List.forall_mem_cons.mpr ⟨vk_R.of (hts (.stringRef "SupplyGrid$Reader" 153 "group") (List.mem_append_right _ (List.mem_of_getElem? (i := 699) (by decide +kernel)))) (e13), List.forall_mem_cons.mpr ⟨vk_R.of (hts (.stringRef "SupplyGrid$Reader" 91 "budget") (List.mem_append_right _ (List.mem_of_getElem? (i := 700) (by decide +kernel)))) (e14), List.forall_mem_cons.mpr ⟨vk_R.of (hts (.stringRef "SupplyGrid$Reader" 162 "is") (List.mem_append_right _ (List.mem_of_getElem? (i := 705) (by decide +kernel)))) (e15), List.forall_mem_cons.mpr ⟨vk_R.of (hts (.stringRef "SupplyGridModel" 190 "grid") (List.mem_append_right _ (List.mem_of_getElem? (i := 1418) (by decide +kernel)))) (va_eqR (hf (Cond.eq (Term.string "SupplyGrid$Reader" 62) (Term.string "SupplyGridModel" 190)) (List.mem_of_getElem? (i := 175) (by decide +kernel))) e0), List.forall_mem_cons.mpr ⟨vk_R.of (hts (.stringRef "SupplyGridModel" 192 "columns") (List.mem_append_right _ (List.mem_of_getElem? (i := 1433) (by decide +kernel)))) (va_eqR (hf (Cond.eq (Term.string "SupplyGrid$Reader" 99) (Term.string "SupplyGridModel" 192)) (List.mem_of_getElem? (i := 187) (by decide +kernel))) e1), List.forall_mem_cons.mpr ⟨vk_R.of (hts (.stringRef "SupplyGridModel" 198 "rows") (List.mem_append_right _ (List.mem_of_getElem? (i := 1442) (by decide +kernel)))) (va_eqR (hf (Cond.eq (Term.string "SupplyGrid$Reader" 105) (Term.string "SupplyGridModel" 198)) (List.mem_of_getElem? (i := 196) (by decide +kernel))) e2), List.forall_mem_cons.mpr ⟨vk_R.of (hts (.stringRef "SupplyGridModel" 202 "width") (List.mem_append_right _ (List.mem_of_getElem? (i := 1444) (by decide +kernel)))) (va_eqR (hf (Cond.eq (Term.string "SupplyGrid$Reader" 107) (Term.string "SupplyGridModel" 202)) (List.mem_of_getElem? (i := 206) (by decide +kernel))) e3), List.forall_mem_cons.mpr ⟨vk_R.of (hts (.stringRef "SupplyGridModel" 204 "limit") (List.mem_append_right _ (List.mem_of_getElem? (i := 1445) (by decide +kernel)))) (va_eqR (hf (Cond.eq (Term.string "SupplyGrid$Reader" 113) (Term.string "SupplyGridModel" 204)) (List.mem_of_getElem? (i := 216) (by decide +kernel))) e4), List.forall_mem_cons.mpr ⟨vk_R.of (hts (.stringRef "SupplyGridModel" 206 "wear") (List.mem_append_right _ (List.mem_of_getElem? (i := 1446) (by decide +kernel)))) (va_eqR (hf (Cond.eq (Term.string "SupplyGrid$Reader" 117) (Term.string "SupplyGridModel" 206)) (List.mem_of_getElem? (i := 225) (by decide +kernel))) e5), List.forall_mem_cons.mpr ⟨vk_R.of (hts (.stringRef "SupplyGridModel" 234 "strap") (List.mem_append_right _ (List.mem_of_getElem? (i := 1459) (by decide +kernel)))) (va_eqR (hf (Cond.eq (Term.string "SupplyGrid$Reader" 76) (Term.string "SupplyGridModel" 234)) (List.mem_of_getElem? (i := 235) (by decide +kernel))) e6), List.forall_mem_cons.mpr ⟨vk_R.of (hts (.stringRef "SupplyGridModel" 208 "at") (List.mem_append_right _ (List.mem_of_getElem? (i := 1468) (by decide +kernel)))) (va_eqR (hf (Cond.eq (Term.string "SupplyGrid$Reader" 167) (Term.string "SupplyGridModel" 208)) (List.mem_of_getElem? (i := 242) (by decide +kernel))) e7), List.forall_mem_cons.mpr ⟨vk_R.of (hts (.stringRef "SupplyGridModel" 216 "east") (List.mem_append_right _ (List.mem_of_getElem? (i := 1472) (by decide +kernel)))) (va_eqR (hf (Cond.eq (Term.string "SupplyGrid$Reader" 127) (Term.string "SupplyGridModel" 216)) (List.mem_of_getElem? (i := 251) (by decide +kernel))) e8), List.forall_mem_cons.mpr ⟨vk_R.of (hts (.stringRef "SupplyGridModel" 218 "south") (List.mem_append_right _ (List.mem_of_getElem? (i := 1473) (by decide +kernel)))) (va_eqR (hf (Cond.eq (Term.string "SupplyGrid$Reader" 129) (Term.string "SupplyGridModel" 218)) (List.mem_of_getElem? (i := 261) (by decide +kernel))) e9), List.forall_mem_cons.mpr ⟨vk_R.of (hts (.stringRef "SupplyGridModel" 239 "pad") (List.mem_append_right _ (List.mem_of_getElem? (i := 1481) (by decide +kernel)))) (va_eqR (hf (Cond.eq (Term.string "SupplyGrid$Reader" 81) (Term.string "SupplyGridModel" 239)) (List.mem_of_getElem? (i := 269) (by decide +kernel))) e10), List.forall_mem_cons.mpr ⟨vk_R.of (hts (.stringRef "SupplyGridModel" 241 "load") (List.mem_append_right _ (List.mem_of_getElem? (i := 1482) (by decide +kernel)))) (va_eqR (hf (Cond.eq (Term.string "SupplyGrid$Reader" 86) (Term.string "SupplyGridModel" 241)) (List.mem_of_getElem? (i := 278) (by decide +kernel))) e11), List.forall_mem_cons.mpr ⟨vk_R.of (hts (.stringRef "SupplyGridModel" 226 "draws") (List.mem_append_right _ (List.mem_of_getElem? (i := 1487) (by decide +kernel)))) (va_eqR (hf (Cond.eq (Term.string "SupplyGrid$Reader" 151) (Term.string "SupplyGridModel" 226)) (List.mem_of_getElem? (i := 288) (by decide +kernel))) e12), List.forall_mem_cons.mpr ⟨vk_R.of (hts (.stringRef "SupplyGridModel" 228 "group") (List.mem_append_right _ (List.mem_of_getElem? (i := 1488) (by decide +kernel)))) (va_eqR (hf (Cond.eq (Term.string "SupplyGrid$Reader" 153) (Term.string "SupplyGridModel" 228)) (List.mem_of_getElem? (i := 298) (by decide +kernel))) e13), List.forall_mem_cons.mpr ⟨vk_R.of (hts (.stringRef "SupplyGridModel" 246 "budget") (List.mem_append_right _ (List.mem_of_getElem? (i := 1489) (by decide +kernel)))) (va_eqR (hf (Cond.eq (Term.string "SupplyGrid$Reader" 91) (Term.string "SupplyGridModel" 246)) (List.mem_of_getElem? (i := 309) (by decide +kernel))) e14), List.forall_mem_cons.mpr ⟨vk_R.of (hts (.stringRef "SupplyGridModel" 233 "is") (List.mem_append_right _ (List.mem_of_getElem? (i := 1494) (by decide +kernel)))) (va_eqR (hf (Cond.eq (Term.string "SupplyGrid$Reader" 162) (Term.string "SupplyGridModel" 233)) (List.mem_of_getElem? (i := 316) (by decide +kernel))) e15), fun _ h => absurd h List.not_mem_nil⟩⟩⟩⟩⟩⟩⟩⟩⟩⟩⟩⟩⟩⟩⟩⟩⟩⟩⟩⟩⟩⟩⟩⟩⟩⟩⟩⟩⟩⟩⟩⟩
  · exact va_Zof (hts (.laysStatic "java/lang/String" "COMPACT_STRINGS" "Z") (List.mem_append_right _ (List.mem_of_getElem? (i := 596) (by decide +kernel)))) (hts (.initialized "java/lang/String") (List.mem_append_right _ (List.mem_of_getElem? (i := 14) (by decide +kernel)))) (va_eqt (hf (Cond.eq (Term.static "java/lang/String" "COMPACT_STRINGS" "Z") (Term.int 1)) (List.mem_of_getElem? (i := 4) (by decide +kernel)))) hA
  · exact va_Zqof (hts (Cond.laysStatic "jdk/internal/util/Preconditions" "SIOOBE_FORMATTER" "Ljava/util/function/BiFunction;") (List.mem_append_right _ (List.mem_of_getElem? (i := 612) (by decide +kernel)))) (hts (.initialized "jdk/internal/util/Preconditions") (List.mem_append_right _ (List.mem_of_getElem? (i := 16) (by decide +kernel)))) (hf (Cond.isRef (Term.static "jdk/internal/util/Preconditions" "SIOOBE_FORMATTER" "Ljava/util/function/BiFunction;")) (List.mem_of_getElem? (i := 5) (by decide +kernel))) hA
theorem st_ar {ty : FieldType} (h : (Cond.arrayClass ty).before args s = true) : ∃ cA : ClassId, ArrOfT s cA ty ∧ s.vm.findClass ("[" ++ ty.toString) = some cA := by
  obtain ⟨cA, kA, comp, h1, h2, h3⟩ := Cond.arrayClass_spec h
  exact ⟨cA, fun n z => ⟨fun k h => (by cases h), kA, h2, comp, h3⟩, h1⟩
theorem st_ao {C : String} (h : (Cond.arrayOver (.object C)).before args s = true) : ∃ cA : ClassId, ArrOfT s cA (.object C) ∧ va_RA s cA (.object C) := by
  obtain ⟨comp, cA, kA, h1, h2, h3, h4, h5⟩ := Cond.arrayOver_spec h
  exact ⟨cA, fun n z => ⟨fun k h => (by cases h), kA, h3, comp, h4⟩, kA, comp, h3, h4, h1, h5⟩
theorem st_aa {t : FieldType} (h : (Cond.arrayOver (.array t)).before args s = true) : ∃ cA : ClassId, ArrOfT s cA (.array t) ∧ s.vm.findClass ("[" ++ (FieldType.array t).toString) = some cA := by
  obtain ⟨comp, cA, kA, h1, h2, h3, h4, h5⟩ := arrayOverA_spec h
  exact ⟨cA, fun n z => ⟨fun k h => (by cases h), kA, h3, comp, h4⟩, h5⟩
theorem st_K {b : Nat} (hts : ∀ w ∈ lw_tbl, w.before #[Value.ref b] s = true) : ∃ (cy : Nat → ClassId) (D : va_G), va_K D vwCl (sg_tys cy) s := by
  obtain ⟨c0, i0, k0⟩ := u_known (C := RX0) (T := TX0) (N := 5) (n := 5) hts inX0 (hts (.instantiable RX0 5) (List.mem_append_right _ (List.mem_of_getElem? (i := 280) (by decide +kernel))))
  obtain ⟨c1, i1, k1⟩ := u_known (C := RX1) (T := TX1) (N := 9) (n := 9) hts inX1 (hts (.instantiable RX1 9) (List.mem_append_right _ (List.mem_of_getElem? (i := 207) (by decide +kernel))))
  obtain ⟨c2, i2, k2⟩ := u_known (C := RX2) (T := TX2) (N := 5) (n := 5) hts inX2 (hts (.instantiable RX2 5) (List.mem_append_right _ (List.mem_of_getElem? (i := 480) (by decide +kernel))))
  obtain ⟨c3, i3, k3⟩ := u_known (C := RX3) (T := TX3) (N := 9) (n := 9) hts inX3 (hts (.instantiable RX3 9) (List.mem_append_right _ (List.mem_of_getElem? (i := 437) (by decide +kernel))))
  obtain ⟨c4, i4, k4⟩ := u_known (C := RX4) (T := TX4) (N := 18) (n := 18) hts inX4 (hts (.instantiable RX4 18) (List.mem_append_right _ (List.mem_of_getElem? (i := 36) (by decide +kernel))))
  obtain ⟨c5, i5, k5⟩ := u_known (C := RX5) (T := TX5) (N := 8) (n := 8) hts inX5 (hts (.instantiable RX5 8) (List.mem_append_right _ (List.mem_of_getElem? (i := 338) (by decide +kernel))))
  obtain ⟨c6, i6, k6⟩ := u_known (C := RX6) (T := TX6) (N := 13) (n := 13) hts inX6 (hts (.instantiable RX6 13) (List.mem_append_right _ (List.mem_of_getElem? (i := 30) (by decide +kernel))))
  obtain ⟨c7, i7, k7⟩ := u_known (C := RX7) (T := TX7) (N := 3) (n := 3) hts inX7 (hts (.instantiable RX7 3) (List.mem_append_right _ (List.mem_of_getElem? (i := 213) (by decide +kernel))))
  obtain ⟨c8, i8, k8⟩ := u_known (C := RX8) (T := TX8) (N := 14) (n := 14) hts inX8 (hts (.instantiable RX8 14) (List.mem_append_right _ (List.mem_of_getElem? (i := 377) (by decide +kernel))))
  obtain ⟨c9, i9, k9⟩ := u_known (C := RX9) (T := TX9) (N := 5) (n := 5) hts inX9 (hts (.instantiable RX9 5) (List.mem_append_right _ (List.mem_of_getElem? (i := 308) (by decide +kernel))))
  obtain ⟨c10, i10, k10⟩ := u_known (C := RX10) (T := TX10) (N := 13) (n := 13) hts inX10 (hts (.instantiable RX10 13) (List.mem_append_right _ (List.mem_of_getElem? (i := 22) (by decide +kernel))))
  obtain ⟨c11, i11, k11⟩ := u_known (C := RX11) (T := TX11) (N := 38) (n := 38) hts inX11 (hts (.instantiable RX11 38) (List.mem_append_right _ (List.mem_of_getElem? (i := 1245) (by decide +kernel))))
  obtain ⟨y12, a12, r12⟩ := st_ar (hts (.arrayClass .byte) (List.mem_append_right _ (List.mem_of_getElem? (i := 729) (by decide +kernel))))
  obtain ⟨y13, a13, r13⟩ := st_ar (hts (.arrayClass .int) (List.mem_append_right _ (List.mem_of_getElem? (i := 158) (by decide +kernel))))
  obtain ⟨y14, a14, r14⟩ := st_ar (hts (.arrayClass .long) (List.mem_append_right _ (List.mem_of_getElem? (i := 236) (by decide +kernel))))
  obtain ⟨y15, a15, r15⟩ := st_ar (hts (.arrayClass .boolean) (List.mem_append_right _ (List.mem_of_getElem? (i := 235) (by decide +kernel))))
  obtain ⟨y16, a16, r16⟩ := st_ao (hts (.arrayOver (.object "SupplyGrid$Net")) (List.mem_append_right _ (List.mem_of_getElem? (i := 205) (by decide +kernel))))
  obtain ⟨y17, a17, r17⟩ := st_ao (hts (.arrayOver (.object "SupplyGrid$Score")) (List.mem_append_right _ (List.mem_of_getElem? (i := 344) (by decide +kernel))))
  obtain ⟨y18, a18, r18⟩ := st_aa (hts (.arrayOver (.array .int)) (List.mem_append_right _ (List.mem_of_getElem? (i := 314) (by decide +kernel))))
  obtain ⟨y19, a19, r19⟩ := st_aa (hts (.arrayOver (.array .long)) (List.mem_append_right _ (List.mem_of_getElem? (i := 238) (by decide +kernel))))
  refine ⟨fun k => [y12, y13, y14, y15, y16, y17, y18, y19].getD (k - 12) y12, (fun k => [c0, c1, c2, c3, c4, c5, c6, c7, c8, c9, c10, c11].getD k c0, fun k => [i0, i1, i2, i3, i4, i5, i6, i7, i8, i9, i10, i11].getD k i0), fun c q hq => ?_, fun k q hq => ?_⟩
  · match c, hq with
    | 0, hq => cases hq; exact k0
    | 1, hq => cases hq; exact k1
    | 2, hq => cases hq; exact k2
    | 3, hq => cases hq; exact k3
    | 4, hq => cases hq; exact k4
    | 5, hq => cases hq; exact k5
    | 6, hq => cases hq; exact k6
    | 7, hq => cases hq; exact k7
    | 8, hq => cases hq; exact k8
    | 9, hq => cases hq; exact k9
    | 10, hq => cases hq; exact k10
    | 11, hq => cases hq; exact k11
    | c + 12, hq => exact absurd (List.getElem?_eq_some_iff.mp hq).1 (by show ¬ c + 12 < 12; omega)
  · match k, hq with
    | 0, hq => cases hq; exact ⟨a12, r12⟩
    | 1, hq => cases hq; exact ⟨a13, r13⟩
    | 2, hq => cases hq; exact ⟨a14, r14⟩
    | 3, hq => cases hq; exact ⟨a15, r15⟩
    | 4, hq => cases hq; exact ⟨a16, r16⟩
    | 5, hq => cases hq; exact ⟨a17, r17⟩
    | 6, hq => cases hq; exact ⟨a18, r18⟩
    | 7, hq => cases hq; exact ⟨a19, r19⟩
    | k + 8, hq => exact absurd (List.getElem?_eq_some_iff.mp hq).1 (by show ¬ k + 8 < 8; omega)
theorem st_N {b : Nat} (hts : ∀ w ∈ lw_tbl, w.before #[Value.ref b] s = true) : cn_N s := ⟨List.forall_mem_cons.mpr ⟨va_Nw.of rfl (hts _ (List.mem_append_right _ (List.mem_of_getElem? (i := 31) (by decide +kernel)))), List.forall_mem_cons.mpr ⟨va_Nw.of rfl (hts _ (List.mem_append_right _ (List.mem_of_getElem? (i := 37) (by decide +kernel)))), List.forall_mem_cons.mpr ⟨va_Nw.of rfl (hts _ (List.mem_append_right _ (List.mem_of_getElem? (i := 204) (by decide +kernel)))), List.forall_mem_cons.mpr ⟨va_Nw.of rfl (hts _ (List.mem_append_right _ (List.mem_of_getElem? (i := 208) (by decide +kernel)))), List.forall_mem_cons.mpr ⟨va_Nw.of rfl (hts _ (List.mem_append_right _ (List.mem_of_getElem? (i := 214) (by decide +kernel)))), List.forall_mem_cons.mpr ⟨va_Nw.of rfl (hts _ (List.mem_append_right _ (List.mem_of_getElem? (i := 281) (by decide +kernel)))), List.forall_mem_cons.mpr ⟨va_Nw.of rfl (hts _ (List.mem_append_right _ (List.mem_of_getElem? (i := 286) (by decide +kernel)))), List.forall_mem_cons.mpr ⟨va_Nw.of rfl (hts _ (List.mem_append_right _ (List.mem_of_getElem? (i := 309) (by decide +kernel)))), List.forall_mem_cons.mpr ⟨va_Nw.of rfl (hts _ (List.mem_append_right _ (List.mem_of_getElem? (i := 316) (by decide +kernel)))), List.forall_mem_cons.mpr ⟨va_Nw.of rfl (hts _ (List.mem_append_right _ (List.mem_of_getElem? (i := 345) (by decide +kernel)))), List.forall_mem_cons.mpr ⟨va_Nw.of rfl (hts _ (List.mem_append_right _ (List.mem_of_getElem? (i := 347) (by decide +kernel)))), List.forall_mem_cons.mpr ⟨va_Nw.of rfl (hts _ (List.mem_append_right _ (List.mem_of_getElem? (i := 378) (by decide +kernel)))), List.forall_mem_cons.mpr ⟨va_Nw.of rfl (hts _ (List.mem_append_right _ (List.mem_of_getElem? (i := 383) (by decide +kernel)))), List.forall_mem_cons.mpr ⟨va_Nw.of rfl (hts _ (List.mem_append_right _ (List.mem_of_getElem? (i := 385) (by decide +kernel)))), List.forall_mem_cons.mpr ⟨va_Nw.of rfl (hts _ (List.mem_append_right _ (List.mem_of_getElem? (i := 438) (by decide +kernel)))), List.forall_mem_cons.mpr ⟨va_Nw.of rfl (hts _ (List.mem_append_right _ (List.mem_of_getElem? (i := 443) (by decide +kernel)))), List.forall_mem_cons.mpr ⟨va_Nw.of rfl (hts _ (List.mem_append_right _ (List.mem_of_getElem? (i := 445) (by decide +kernel)))), List.forall_mem_cons.mpr ⟨va_Nw.of rfl (hts _ (List.mem_append_right _ (List.mem_of_getElem? (i := 481) (by decide +kernel)))), List.forall_mem_cons.mpr ⟨va_Nw.of rfl (hts _ (List.mem_append_right _ (List.mem_of_getElem? (i := 486) (by decide +kernel)))), List.forall_mem_cons.mpr ⟨va_Nw.of rfl (hts _ (List.mem_append_right _ (List.mem_of_getElem? (i := 488) (by decide +kernel)))), fun _ h => absurd h List.not_mem_nil⟩⟩⟩⟩⟩⟩⟩⟩⟩⟩⟩⟩⟩⟩⟩⟩⟩⟩⟩⟩, List.forall_mem_cons.mpr ⟨(hts (Cond.arrayOver (FieldType.object "SupplyGrid$Net")) (List.mem_append_right _ (List.mem_of_getElem? (i := 205) (by decide +kernel))) : _), List.forall_mem_cons.mpr ⟨(hts (Cond.arrayOver (FieldType.object "SupplyGrid$Score")) (List.mem_append_right _ (List.mem_of_getElem? (i := 344) (by decide +kernel))) : _), List.forall_mem_cons.mpr ⟨(hts (Cond.arrayOver (FieldType.array FieldType.int)) (List.mem_append_right _ (List.mem_of_getElem? (i := 314) (by decide +kernel))) : _), List.forall_mem_cons.mpr ⟨(hts (Cond.arrayOver (FieldType.array FieldType.long)) (List.mem_append_right _ (List.mem_of_getElem? (i := 238) (by decide +kernel))) : _), fun _ h => absurd h List.not_mem_nil⟩⟩⟩⟩⟩
theorem sg_Str.narrow {A B : Nat → Prop} {zK zV : Nat → Nat} {U : State} {H : Heap} (h : sg_Str A zK zV U H) (hAB : ∀ q, B q → A q) : sg_Str B zK zV U H := ⟨h.1.narrow hAB, h.2.1, h.2.2.1.narrow hAB, h.2.2.2.narrow hAB⟩
/-- the two, just made, answer alike -/
theorem CR_0 : CR (M0 sg_kc) (M0 sg_kr) := by
  refine ⟨⟨⟨0, (by omega), rfl, rfl, fun i hi => absurd hi (by omega)⟩, rfl, rfl⟩, fun k hk => ⟨rfl, fun h => absurd (show (M0 sg_kc).1 54 k = 0 from rfl) h⟩, fun k _ => rfl, 0, rfl, Or.inr ⟨⟨fun k hk => rfl, fun k hk => rfl, rfl⟩, fun h => absurd (show (M0 sg_kc).1 0 5 = 0 from rfl) h⟩⟩
end ST
