/-- the world of a call: the store is held, the classes are known, the String constants stand -/
def sg_Wd (Y : sg_Y) (ad : Nat → Nat) (V : sg_V) (M : sg_M) (U : State) : Prop := match V with
  | (_, cy, D, zK, zV) => va_P D vwCl (sg_W Y ad cy M) U.heap ∧ va_K D vwCl (sg_tys cy) U ∧ sg_Str (sg_A Y ad) zK zV U U.heap
theorem sg_Wd.call {Y : sg_Y} {ad : Nat → Nat} {V : sg_V} {M : sg_M} {U : State} {g : JFrame} {mk : MethodId} {a : Array Value} (h : sg_Wd Y ad V M U) : sg_Wd Y ad V M (U.calling g mk a) := by
  obtain ⟨l, cy, D, zK, zV⟩ := V
  exact ⟨h.1, va_K.moved (u := U) (U := U.calling g mk a) (Vm.Alike.refl U.vm) h.2.1, h.2.2.same rfl⟩
abbrev sg_z (V : sg_V) (i : Nat) : Nat := V.2.2.2.1 i
def sg_cI (Y : sg_Y) (ad : Nat → Nat) (V : sg_V) (y : MethodName) (cc : ByteArray) (maxL : Nat) (rt : FieldType) (d : Nat) (av : List Value) (M : sg_M) (res : Int32 × sg_M) : Prop := Met V.1 y (Cond.code y cc maxL (some rt) :: sg_G) (sg_rm d) (va_Pc av (sg_Wd Y ad V M)) (va_Qi (fun (r : Int32) (M1 : sg_M) => r = res.1 ∧ M1 = res.2) (sg_Wd Y ad V) (sg_A Y ad)) 0 0 (sg_A Y ad)
def sg_cL (Y : sg_Y) (ad : Nat → Nat) (V : sg_V) (y : MethodName) (cc : ByteArray) (maxL : Nat)  (d : Nat) (av : List Value) (M : sg_M) (res : Int64 × sg_M) : Prop := Met V.1 y (Cond.code y cc maxL (some .long) :: sg_G) (sg_rm d) (va_Pc av (sg_Wd Y ad V M)) (va_Ql (fun (r : Int64) (M1 : sg_M) => r = res.1 ∧ M1 = res.2) (sg_Wd Y ad V) (sg_A Y ad)) 0 0 (sg_A Y ad)
def sg_cV (Y : sg_Y) (ad : Nat → Nat) (V : sg_V) (y : MethodName) (cc : ByteArray) (maxL : Nat)  (d : Nat) (av : List Value) (M : sg_M) (res : sg_M) : Prop := Met V.1 y (Cond.code y cc maxL none :: sg_G) (sg_rm d) (va_Pc av (sg_Wd Y ad V M)) (va_Qv (fun (M1 : sg_M) => M1 = res) (sg_Wd Y ad V) (sg_A Y ad)) 0 0 (sg_A Y ad)
def sg_cR (Y : sg_Y) (ad : Nat → Nat) (V : sg_V) (y : MethodName) (cc : ByteArray) (maxL : Nat) (rt : FieldType) (d : Nat) (av : List Value) (M : sg_M) (res : Nat × sg_M) : Prop := Met V.1 y (Cond.code y cc maxL (some rt) :: sg_G) (sg_rm d) (va_Pc av (sg_Wd Y ad V M)) (va_Qr (fun (M1 : sg_M) => M1 = res.2) (fun M1 a t => a = ad res.1 ∧ sg_Wd Y ad V M1 t) (sg_A Y ad)) 0 0 (sg_A Y ad)
def sg_eI (Y : sg_Y) (ad : Nat → Nat) (X : sg_X) (cc : ByteArray) (rt : FieldType) (res : Int32 × sg_M) : Prop := match X with
  | ((l, cy, D, _, _), p, e, R, s, m, args, below, meth, c, Q) => narrow rt (.int res.1) = .int res.1 → ∀ (H : Heap) (locs : List Loc) (pc : Nat) (ls : Array Slot), va_P D vwCl (sg_W Y ad cy res.2) H → va_S (sg_A Y ad) s.heap H locs → decode cc pc = .ok (.ireturn, 1) → W p l e R s m args below meth c H locs 0 0 Q (F0 m pc ls [.int res.1])
def sg_eL (Y : sg_Y) (ad : Nat → Nat) (X : sg_X) (cc : ByteArray) (res : Int64 × sg_M) : Prop := match X with
  | ((l, cy, D, _, _), p, e, R, s, m, args, below, meth, c, Q) => ∀ (H : Heap) (locs : List Loc) (pc : Nat) (ls : Array Slot), va_P D vwCl (sg_W Y ad cy res.2) H → va_S (sg_A Y ad) s.heap H locs → decode cc pc = .ok (.lreturn, 1) → W p l e R s m args below meth c H locs 0 0 Q (F0 m pc ls [.long res.1])
def sg_eV (Y : sg_Y) (ad : Nat → Nat) (X : sg_X) (cc : ByteArray) (res : sg_M) : Prop := match X with
  | ((l, cy, D, _, _), p, e, R, s, m, args, below, meth, c, Q) => ∀ (H : Heap) (locs : List Loc) (pc : Nat) (ls : Array Slot), va_P D vwCl (sg_W Y ad cy res) H → va_S (sg_A Y ad) s.heap H locs → decode cc pc = .ok (.return_, 1) → W p l e R s m args below meth c H locs 0 0 Q (F0 m pc ls [])
def sg_eR (Y : sg_Y) (ad : Nat → Nat) (X : sg_X) (cc : ByteArray) (res : Nat × sg_M) : Prop := match X with
  | ((l, cy, D, _, _), p, e, R, s, m, args, below, meth, c, Q) => ∀ (H : Heap) (locs : List Loc) (pc : Nat) (ls : Array Slot), va_P D vwCl (sg_W Y ad cy res.2) H → va_S (sg_A Y ad) s.heap H locs → decode cc pc = .ok (.areturn, 1) → W p l e R s m args below meth c H locs 0 0 Q (F0 m pc ls [.ref (ad res.1)])
theorem sg_bodyI {Y : sg_Y} {ad : Nat → Nat} {V : sg_V} {y : MethodName} {cc : ByteArray} {nL d : Nat} {rt : FieldType} {av : List Value} {M : sg_M} {res : Int32 × sg_M}  (hy : plainName y.cls = true) (hinj : sg_inj Y ad) (hl : (lg_sl av).length ≤ nL) (body : ∀ X : sg_X, X.1 = V → sg_C Y ad X cc y.cls nL d → sg_eI Y ad X cc rt res → sg_T Y ad X nL 0 (lv_args 0 av) [] M) : sg_cI Y ad V y cc nL rt d av M res := by
  obtain ⟨l, cy, D, zK, zV⟩ := V
  refine Met.ofW (cc := cc) (maxL := nL) (ret := (some rt)) hy rfl ?_
  intro p e s m args below meth c s₁ B hml hv
  obtain ⟨rfl, hP, hK, hZ⟩ := hv
  have hlk := B.notSynchronized
  have hts := atoms_spec (ws := Cond.code y cc nL (some rt) :: sg_G) B.pre
  have key := body ((l, cy, D, zK, zV), p, e, sg_rm d, s, m, av.toArray, below, meth, c, MQ below (va_Qi (fun (r : Int32) (M1 : sg_M) => r = res.1 ∧ M1 = res.2) (sg_Wd Y ad (l, cy, D, zK, zV)) (sg_A Y ad)) av.toArray s 0 0 (sg_A Y ad)) rfl ⟨B.exec, B.bytes, hml, findClass_of_methodNamed B.named, fun w hw => hts w (List.mem_cons_of_mem _ hw), hK, hinj, rfl, hZ, hlk⟩ (fun hn H locs pc ls hP hS hdg => W.zret B.exec B.bytes B.returns hn (fun t ht hW => ⟨⟨res.1, res.2, rfl, ⟨rfl, rfl⟩, ⟨by rw [ht]; exact hP, va_K.moved hW.alike hK, by rw [ht]; exact (hZ.kept hS.2.1).warm hW⟩⟩, hS.F ht⟩) hS.2.2 hdg hlk)
  rw [lg_entry_eq]
  exact key s.heap [] _ hP va_S.rf (lv_entry av hl)
theorem sg_bodyL {Y : sg_Y} {ad : Nat → Nat} {V : sg_V} {y : MethodName} {cc : ByteArray} {nL d : Nat}  {av : List Value} {M : sg_M} {res : Int64 × sg_M}  (hy : plainName y.cls = true) (hinj : sg_inj Y ad) (hl : (lg_sl av).length ≤ nL) (body : ∀ X : sg_X, X.1 = V → sg_C Y ad X cc y.cls nL d → sg_eL Y ad X cc res → sg_T Y ad X nL 0 (lv_args 0 av) [] M) : sg_cL Y ad V y cc nL d av M res := by
  obtain ⟨l, cy, D, zK, zV⟩ := V
  refine Met.ofW (cc := cc) (maxL := nL) (ret := (some .long)) hy rfl ?_
  intro p e s m args below meth c s₁ B hml hv
  obtain ⟨rfl, hP, hK, hZ⟩ := hv
  have hlk := B.notSynchronized
  have hts := atoms_spec (ws := Cond.code y cc nL (some .long) :: sg_G) B.pre
  have key := body ((l, cy, D, zK, zV), p, e, sg_rm d, s, m, av.toArray, below, meth, c, MQ below (va_Ql (fun (r : Int64) (M1 : sg_M) => r = res.1 ∧ M1 = res.2) (sg_Wd Y ad (l, cy, D, zK, zV)) (sg_A Y ad)) av.toArray s 0 0 (sg_A Y ad)) rfl ⟨B.exec, B.bytes, hml, findClass_of_methodNamed B.named, fun w hw => hts w (List.mem_cons_of_mem _ hw), hK, hinj, rfl, hZ, hlk⟩ (fun H locs pc ls hP hS hdg => W.lret B.exec B.bytes B.returns (fun t ht hW => ⟨⟨res.1, res.2, rfl, ⟨rfl, rfl⟩, ⟨by rw [ht]; exact hP, va_K.moved hW.alike hK, by rw [ht]; exact (hZ.kept hS.2.1).warm hW⟩⟩, hS.F ht⟩) hS.2.2 hdg hlk)
  rw [lg_entry_eq]
  exact key s.heap [] _ hP va_S.rf (lv_entry av hl)
theorem sg_bodyV {Y : sg_Y} {ad : Nat → Nat} {V : sg_V} {y : MethodName} {cc : ByteArray} {nL d : Nat}  {av : List Value} {M : sg_M} {res : sg_M}  (hy : plainName y.cls = true) (hinj : sg_inj Y ad) (hl : (lg_sl av).length ≤ nL) (body : ∀ X : sg_X, X.1 = V → sg_C Y ad X cc y.cls nL d → sg_eV Y ad X cc res → sg_T Y ad X nL 0 (lv_args 0 av) [] M) : sg_cV Y ad V y cc nL d av M res := by
  obtain ⟨l, cy, D, zK, zV⟩ := V
  refine Met.ofW (cc := cc) (maxL := nL) (ret := none) hy rfl ?_
  intro p e s m args below meth c s₁ B hml hv
  obtain ⟨rfl, hP, hK, hZ⟩ := hv
  have hlk := B.notSynchronized
  have hts := atoms_spec (ws := Cond.code y cc nL none :: sg_G) B.pre
  have key := body ((l, cy, D, zK, zV), p, e, sg_rm d, s, m, av.toArray, below, meth, c, MQ below (va_Qv (fun (M1 : sg_M) => M1 = res) (sg_Wd Y ad (l, cy, D, zK, zV)) (sg_A Y ad)) av.toArray s 0 0 (sg_A Y ad)) rfl ⟨B.exec, B.bytes, hml, findClass_of_methodNamed B.named, fun w hw => hts w (List.mem_cons_of_mem _ hw), hK, hinj, rfl, hZ, hlk⟩ (fun H locs pc ls hP hS hdg => W.vret B.exec B.bytes B.returns (fun t ht hW => ⟨⟨res, rfl, rfl, ⟨by rw [ht]; exact hP, va_K.moved hW.alike hK, by rw [ht]; exact (hZ.kept hS.2.1).warm hW⟩⟩, hS.F ht⟩) hS.2.2 hdg hlk)
  rw [lg_entry_eq]
  exact key s.heap [] _ hP va_S.rf (lv_entry av hl)
theorem sg_bodyR {Y : sg_Y} {ad : Nat → Nat} {V : sg_V} {y : MethodName} {cc : ByteArray} {nL d : Nat} {rt : FieldType} {av : List Value} {M : sg_M} {res : Nat × sg_M} (hrt : (∃ n, rt = .object n) ∨ ∃ t, rt = .array t) (hy : plainName y.cls = true) (hinj : sg_inj Y ad) (hl : (lg_sl av).length ≤ nL) (body : ∀ X : sg_X, X.1 = V → sg_C Y ad X cc y.cls nL d → sg_eR Y ad X cc res → sg_T Y ad X nL 0 (lv_args 0 av) [] M) : sg_cR Y ad V y cc nL rt d av M res := by
  obtain ⟨l, cy, D, zK, zV⟩ := V
  refine Met.ofW (cc := cc) (maxL := nL) (ret := (some rt)) hy rfl ?_
  intro p e s m args below meth c s₁ B hml hv
  obtain ⟨rfl, hP, hK, hZ⟩ := hv
  have hlk := B.notSynchronized
  have hts := atoms_spec (ws := Cond.code y cc nL (some rt) :: sg_G) B.pre
  have key := body ((l, cy, D, zK, zV), p, e, sg_rm d, s, m, av.toArray, below, meth, c, MQ below (va_Qr (fun (M1 : sg_M) => M1 = res.2) (fun M1 a t => a = ad res.1 ∧ sg_Wd Y ad (l, cy, D, zK, zV) M1 t) (sg_A Y ad)) av.toArray s 0 0 (sg_A Y ad)) rfl ⟨B.exec, B.bytes, hml, findClass_of_methodNamed B.named, fun w hw => hts w (List.mem_cons_of_mem _ hw), hK, hinj, rfl, hZ, hlk⟩ (fun H locs pc ls hP hS hdg => W.aret B.exec B.bytes B.returns hrt (Or.inr ⟨_, rfl⟩) (fun t ht hW => ⟨⟨res.2, ad res.1, rfl, rfl, rfl, ⟨by rw [ht]; exact hP, va_K.moved hW.alike hK, by rw [ht]; exact (hZ.kept hS.2.1).warm hW⟩⟩, hS.F ht⟩) hS.2.2 hdg hlk)
  rw [lg_entry_eq]
  exact key s.heap [] _ hP va_S.rf (lv_entry av hl)
section SGR
variable {Y : sg_Y} {ad : Nat → Nat} {X : sg_X} {cc : ByteArray} {own : String} {nL d pc : Nat} {lv : List (Nat × Value)} {st stk : List Value} {M : sg_M}
theorem s_iret (C : sg_C Y ad X cc own nL d) {x : Int32} {res : Int32 × sg_M} (E : sg_eI Y ad X cc .int res) (hdg : decode cc pc = .ok (.ireturn, 1)) (h : some (x, M) = some res) : sg_T Y ad X nL pc lv [.int x] M := by
  cases h
  obtain ⟨⟨l, cy, D, zK, zV⟩, p, e, R, s, m, args, below, meth, c, Q⟩ := X
  intro H locs ls hP hS hl
  exact E rfl H locs pc ls hP hS hdg
theorem s_zret (C : sg_C Y ad X cc own nL d) {x : Int32} {res : Int32 × sg_M} (E : sg_eI Y ad X cc .boolean res) (hdg : decode cc pc = .ok (.ireturn, 1)) (h : (if sg_bz x = true then some (x, M) else none) = some res) : sg_T Y ad X nL pc lv [.int x] M := by
  obtain ⟨h0, h1⟩ := sg_if h
  cases h1
  obtain ⟨⟨l, cy, D, zK, zV⟩, p, e, R, s, m, args, below, meth, c, Q⟩ := X
  intro H locs ls hP hS hl
  exact E (sg_bz_nar h0) H locs pc ls hP hS hdg
theorem s_zret1 (C : sg_C Y ad X cc own nL d) {x : Int32} {res : Int32 × sg_M} (E : sg_eI Y ad X cc .boolean res) (h0 : sg_bz x = true) (hdg : decode cc pc = .ok (.ireturn, 1)) (h : some (x, M) = some res) : sg_T Y ad X nL pc lv [.int x] M := by
  cases h
  obtain ⟨⟨l, cy, D, zK, zV⟩, p, e, R, s, m, args, below, meth, c, Q⟩ := X
  intro H locs ls hP hS hl
  exact E (sg_bz_nar h0) H locs pc ls hP hS hdg
theorem s_lret (C : sg_C Y ad X cc own nL d) {x : Int64} {res : Int64 × sg_M} (E : sg_eL Y ad X cc res) (hdg : decode cc pc = .ok (.lreturn, 1)) (h : some (x, M) = some res) : sg_T Y ad X nL pc lv [.long x] M := by
  cases h
  obtain ⟨⟨l, cy, D, zK, zV⟩, p, e, R, s, m, args, below, meth, c, Q⟩ := X
  intro H locs ls hP hS hl
  exact E H locs pc ls hP hS hdg
theorem s_vret (C : sg_C Y ad X cc own nL d) {res : sg_M} (E : sg_eV Y ad X cc res) (hdg : decode cc pc = .ok (.return_, 1)) (h : some M = some res) : sg_T Y ad X nL pc lv [] M := by
  cases h
  obtain ⟨⟨l, cy, D, zK, zV⟩, p, e, R, s, m, args, below, meth, c, Q⟩ := X
  intro H locs ls hP hS hl
  exact E H locs pc ls hP hS hdg
theorem s_aret (C : sg_C Y ad X cc own nL d) {j : Nat} {res : Nat × sg_M} (E : sg_eR Y ad X cc res) (hdg : decode cc pc = .ok (.areturn, 1)) (h : some (j, M) = some res) : sg_T Y ad X nL pc lv [.ref (ad j)] M := by
  cases h
  obtain ⟨⟨l, cy, D, zK, zV⟩, p, e, R, s, m, args, below, meth, c, Q⟩ := X
  intro H locs ls hP hS hl
  exact E H locs pc ls hP hS hdg
/-- a method that is called on an object: its words -/
def sg_vm (y : MethodName) (cc : ByteArray) (maxL : Nat) (ret : Option FieldType) (n : Nat) : Prop := Cond.instanceMethod y ∈ sg_G ∧ Cond.selects y.cls y y ∈ sg_G ∧ Cond.initialized y.cls ∈ sg_G ∧ Cond.code y cc maxL ret ∈ sg_G ∧ y.cls ≠ "java/lang/invoke/MethodHandle" ∧ y.cls ≠ "java/lang/invoke/VarHandle" ∧ (parseMethodDescriptor y.desc).map (fun d => d.parameters.length) = some n ∧ maxL ≤ 45
/-- a static method's words -/
def sg_sm (y : MethodName) (cc : ByteArray) (maxL : Nat) (ret : Option FieldType) (n : Nat) : Prop := Cond.static y ∈ sg_G ∧ Cond.initialized y.cls ∈ sg_G ∧ Cond.code y cc maxL ret ∈ sg_G ∧ y.cls ≠ "java/lang/invoke/MethodHandle" ∧ y.cls ≠ "java/lang/invoke/VarHandle" ∧ (parseMethodDescriptor y.desc).map (fun d => d.parameters.length) = some n ∧ maxL ≤ 45
theorem sg_good {y : MethodName} {cc : ByteArray} {maxL : Nat} {ret : Option FieldType} (h : Cond.code y cc maxL ret ∈ sg_G) : GoodIn sg_G (Cond.code y cc maxL ret :: sg_G) := fun w hw => (List.mem_cons.mp hw).elim (fun e => by rw [e]; exact sg_GG _ h) (fun q => sg_GG _ q)
theorem sg_goodV {y : MethodName} {cc : ByteArray} {maxL n index : Nat} {ret : Option FieldType} {own : String} (vm : sg_vm y cc maxL ret n) (hlk : Cond.methodLink own index y ∈ sg_G) : GoodIn sg_G (wsV own index y.cls y (Cond.code y cc maxL ret :: sg_G)) := fun w hw => by
  unfold wsV at hw
  rcases List.mem_append.mp hw with q | q
  · rcases List.mem_cons.mp q with rfl | q
    · exact sg_GG _ hlk
    rcases List.mem_cons.mp q with rfl | q
    · exact sg_GG _ vm.1
    rcases List.mem_cons.mp q with rfl | q
    · exact sg_GG _ vm.2.1
    rcases List.mem_cons.mp q with rfl | q
    · exact sg_GG _ vm.2.2.1
    · cases q
  · exact sg_good vm.2.2.2.1 w q
theorem s_vcI (C : sg_C Y ad X cc own nL d) {β : Type} {r : β} {y : MethodName} {c1 : ByteArray} {maxL n d1 index : Nat} {rt : FieldType} {f : Option (Int32 × sg_M)} (As : List Value) (vm : sg_vm y c1 maxL (some rt) n) (hlk : Cond.methodLink own index y ∈ sg_G) {j ci : Nat} {q : vw_C} (hc : vwCl[ci]? = some q) (hq : q.1 = y.cls) (h12 : ci < 12) (hj : sg_K Y j ci) (hd : d1 + 1 ≤ d) (hn : As.length = n) (hst : stk = As.reverse ++ .ref (ad j) :: st) (hroom : (st.map fun v => v.category).sum ≤ 8) (hdg : decode cc pc = .ok (.invokevirtual index, 3)) (ct : ∀ res, f = some res → sg_cI Y ad X.1 y c1 maxL rt d1 (.ref (ad j) :: As) M res) {K : Int32 → sg_M → Option β} (h : sg_b f K = some r) (k : ∀ (x : Int32) (M1 : sg_M), K x M1 = some r → sg_T Y ad X nL (pc + 3) lv (.int x :: st) M1) : sg_T Y ad X nL pc lv stk M := by
  subst hst
  cases hf : f with
  | none => rw [hf] at h; cases h
  | some res =>
    obtain ⟨x9, M9⟩ := res
    have h : K x9 M9 = some r := by rw [hf] at h; exact h
    have hM := ct _ hf
    obtain ⟨⟨l, cy, D, zK, zV⟩, p, e, R, s, m, args, below, meth, c, Q⟩ := X
    obtain ⟨hx, hb, hml, hown, hts, hK, hinj, rfl, hZ, hlk9⟩ := C
    intro H locs ls hP hS hl
    have he := sg_at (ad := ad) (cy := cy) (M := M) hj.1
    rw [sg_Eo hj.2 h12] at he
    refine va_calli (va_runV (As := As) (rest := st) ⟨hx, hb, hml, hown, hts⟩ hM (cwV n hts (sg_goodV vm hlk) rfl rfl rfl ⟨rfl, vm.2.2.2.2.1, vm.2.2.2.2.2.1, vm.2.2.2.2.2.2.1⟩ ⟨hd, by have := vm.2.2.2.2.2.2.2; show 8 + (maxL + 11) + 64 * d1 ≤ 64 * d; omega⟩) ⟨fun a U g mk q => ⟨q.1, sg_Wd.call q.2⟩, by rw [← hq]; exact va_recv hK hP hc he, fun U hU hW => ⟨rfl, by rw [hU]; exact hP, va_K.moved hW.alike hK, by rw [hU]; exact (hZ.kept hS.2.1).warm hW⟩⟩ rfl hn hl.1 rfl (lv_room hroom) hdg ⟨Nat.le_refl _, Nat.le_refl _⟩) hS (fun q _ h => h) (fun q h => h) (fun r9 u t H1 locs1 ht hvm hw hB hz1 hk1 hS1 => ?_)
    obtain ⟨rfl, rfl⟩ := hw
    have hP1 := hB.1
    rw [ht] at hP1
    exact k _ _ h H1 locs1 ls hP1 hS1 hl
theorem s_scI (C : sg_C Y ad X cc own nL d) {β : Type} {r : β} {y : MethodName} {c1 : ByteArray} {maxL n d1 index : Nat} {rt : FieldType} {f : Option (Int32 × sg_M)} (As : List Value) (vm : sg_sm y c1 maxL (some rt) n) (hlk : Cond.methodLink own index y ∈ sg_G)  (hd : d1 + 1 ≤ d) (hn : As.length = n) (hst : stk = As.reverse ++ st) (hroom : (st.map fun v => v.category).sum ≤ 8) (hdg : decode cc pc = .ok (.invokestatic index, 3)) (ct : ∀ res, f = some res → sg_cI Y ad X.1 y c1 maxL rt d1 As M res) {K : Int32 → sg_M → Option β} (h : sg_b f K = some r) (k : ∀ (x : Int32) (M1 : sg_M), K x M1 = some r → sg_T Y ad X nL (pc + 3) lv (.int x :: st) M1) : sg_T Y ad X nL pc lv stk M := by
  subst hst
  cases hf : f with
  | none => rw [hf] at h; cases h
  | some res =>
    obtain ⟨x9, M9⟩ := res
    have h : K x9 M9 = some r := by rw [hf] at h; exact h
    have hM := ct _ hf
    obtain ⟨⟨l, cy, D, zK, zV⟩, p, e, R, s, m, args, below, meth, c, Q⟩ := X
    obtain ⟨hx, hb, hml, hown, hts, hK, hinj, rfl, hZ, hlk9⟩ := C
    intro H locs ls hP hS hl
    refine va_calli (va_runS (As := As) (rest := st) ⟨hx, hb, hml, hown, hts⟩ hM ⟨callB_of n hts (sg_good vm.2.2.1) rfl rfl rfl (hts _ vm.2.1) (hts _ hlk) ⟨vm.2.2.2.1, vm.2.2.2.2.1, vm.2.2.2.2.2.1⟩ ⟨hd, by have := vm.2.2.2.2.2.2; show 8 + (maxL + 11) + 64 * d1 ≤ 64 * d; omega⟩, hts _ vm.1⟩ ⟨fun a U g mk q => ⟨q.1, sg_Wd.call q.2⟩, fun U hU hW => ⟨rfl, by rw [hU]; exact hP, va_K.moved hW.alike hK, by rw [hU]; exact (hZ.kept hS.2.1).warm hW⟩⟩ rfl hn hl.1 rfl (lv_room hroom) hdg ⟨Nat.le_refl _, Nat.le_refl _⟩) hS (fun q _ h => h) (fun q h => h) (fun r9 u t H1 locs1 ht hvm hw hB hz1 hk1 hS1 => ?_)
    obtain ⟨rfl, rfl⟩ := hw
    have hP1 := hB.1
    rw [ht] at hP1
    exact k _ _ h H1 locs1 ls hP1 hS1 hl
theorem s_vcL (C : sg_C Y ad X cc own nL d) {β : Type} {r : β} {y : MethodName} {c1 : ByteArray} {maxL n d1 index : Nat}  {f : Option (Int64 × sg_M)} (As : List Value) (vm : sg_vm y c1 maxL (some .long) n) (hlk : Cond.methodLink own index y ∈ sg_G) {j ci : Nat} {q : vw_C} (hc : vwCl[ci]? = some q) (hq : q.1 = y.cls) (h12 : ci < 12) (hj : sg_K Y j ci) (hd : d1 + 1 ≤ d) (hn : As.length = n) (hst : stk = As.reverse ++ .ref (ad j) :: st) (hroom : (st.map fun v => v.category).sum ≤ 8) (hdg : decode cc pc = .ok (.invokevirtual index, 3)) (ct : ∀ res, f = some res → sg_cL Y ad X.1 y c1 maxL d1 (.ref (ad j) :: As) M res) {K : Int64 → sg_M → Option β} (h : sg_b f K = some r) (k : ∀ (x : Int64) (M1 : sg_M), K x M1 = some r → sg_T Y ad X nL (pc + 3) lv (.long x :: st) M1) : sg_T Y ad X nL pc lv stk M := by
  subst hst
  cases hf : f with
  | none => rw [hf] at h; cases h
  | some res =>
    obtain ⟨x9, M9⟩ := res
    have h : K x9 M9 = some r := by rw [hf] at h; exact h
    have hM := ct _ hf
    obtain ⟨⟨l, cy, D, zK, zV⟩, p, e, R, s, m, args, below, meth, c, Q⟩ := X
    obtain ⟨hx, hb, hml, hown, hts, hK, hinj, rfl, hZ, hlk9⟩ := C
    intro H locs ls hP hS hl
    have he := sg_at (ad := ad) (cy := cy) (M := M) hj.1
    rw [sg_Eo hj.2 h12] at he
    refine va_calll (va_runV (As := As) (rest := st) ⟨hx, hb, hml, hown, hts⟩ hM (cwV n hts (sg_goodV vm hlk) rfl rfl rfl ⟨rfl, vm.2.2.2.2.1, vm.2.2.2.2.2.1, vm.2.2.2.2.2.2.1⟩ ⟨hd, by have := vm.2.2.2.2.2.2.2; show 8 + (maxL + 11) + 64 * d1 ≤ 64 * d; omega⟩) ⟨fun a U g mk q => ⟨q.1, sg_Wd.call q.2⟩, by rw [← hq]; exact va_recv hK hP hc he, fun U hU hW => ⟨rfl, by rw [hU]; exact hP, va_K.moved hW.alike hK, by rw [hU]; exact (hZ.kept hS.2.1).warm hW⟩⟩ rfl hn hl.1 rfl (lv_room hroom) hdg ⟨Nat.le_refl _, Nat.le_refl _⟩) hS (fun q _ h => h) (fun q h => h) (fun r9 u t H1 locs1 ht hvm hw hB hz1 hk1 hS1 => ?_)
    obtain ⟨rfl, rfl⟩ := hw
    have hP1 := hB.1
    rw [ht] at hP1
    exact k _ _ h H1 locs1 ls hP1 hS1 hl
theorem s_scL (C : sg_C Y ad X cc own nL d) {β : Type} {r : β} {y : MethodName} {c1 : ByteArray} {maxL n d1 index : Nat}  {f : Option (Int64 × sg_M)} (As : List Value) (vm : sg_sm y c1 maxL (some .long) n) (hlk : Cond.methodLink own index y ∈ sg_G)  (hd : d1 + 1 ≤ d) (hn : As.length = n) (hst : stk = As.reverse ++ st) (hroom : (st.map fun v => v.category).sum ≤ 8) (hdg : decode cc pc = .ok (.invokestatic index, 3)) (ct : ∀ res, f = some res → sg_cL Y ad X.1 y c1 maxL d1 As M res) {K : Int64 → sg_M → Option β} (h : sg_b f K = some r) (k : ∀ (x : Int64) (M1 : sg_M), K x M1 = some r → sg_T Y ad X nL (pc + 3) lv (.long x :: st) M1) : sg_T Y ad X nL pc lv stk M := by
  subst hst
  cases hf : f with
  | none => rw [hf] at h; cases h
  | some res =>
    obtain ⟨x9, M9⟩ := res
    have h : K x9 M9 = some r := by rw [hf] at h; exact h
    have hM := ct _ hf
    obtain ⟨⟨l, cy, D, zK, zV⟩, p, e, R, s, m, args, below, meth, c, Q⟩ := X
    obtain ⟨hx, hb, hml, hown, hts, hK, hinj, rfl, hZ, hlk9⟩ := C
    intro H locs ls hP hS hl
    refine va_calll (va_runS (As := As) (rest := st) ⟨hx, hb, hml, hown, hts⟩ hM ⟨callB_of n hts (sg_good vm.2.2.1) rfl rfl rfl (hts _ vm.2.1) (hts _ hlk) ⟨vm.2.2.2.1, vm.2.2.2.2.1, vm.2.2.2.2.2.1⟩ ⟨hd, by have := vm.2.2.2.2.2.2; show 8 + (maxL + 11) + 64 * d1 ≤ 64 * d; omega⟩, hts _ vm.1⟩ ⟨fun a U g mk q => ⟨q.1, sg_Wd.call q.2⟩, fun U hU hW => ⟨rfl, by rw [hU]; exact hP, va_K.moved hW.alike hK, by rw [hU]; exact (hZ.kept hS.2.1).warm hW⟩⟩ rfl hn hl.1 rfl (lv_room hroom) hdg ⟨Nat.le_refl _, Nat.le_refl _⟩) hS (fun q _ h => h) (fun q h => h) (fun r9 u t H1 locs1 ht hvm hw hB hz1 hk1 hS1 => ?_)
    obtain ⟨rfl, rfl⟩ := hw
    have hP1 := hB.1
    rw [ht] at hP1
    exact k _ _ h H1 locs1 ls hP1 hS1 hl
theorem s_vcV (C : sg_C Y ad X cc own nL d) {β : Type} {r : β} {y : MethodName} {c1 : ByteArray} {maxL n d1 index : Nat}  {f : Option sg_M} (As : List Value) (vm : sg_vm y c1 maxL none n) (hlk : Cond.methodLink own index y ∈ sg_G) {j ci : Nat} {q : vw_C} (hc : vwCl[ci]? = some q) (hq : q.1 = y.cls) (h12 : ci < 12) (hj : sg_K Y j ci) (hd : d1 + 1 ≤ d) (hn : As.length = n) (hst : stk = As.reverse ++ .ref (ad j) :: st) (hroom : (st.map fun v => v.category).sum ≤ 8) (hdg : decode cc pc = .ok (.invokevirtual index, 3)) (ct : ∀ res, f = some res → sg_cV Y ad X.1 y c1 maxL d1 (.ref (ad j) :: As) M res) {K : sg_M → Option β} (h : sg_bv f K = some r) (k : ∀ (M1 : sg_M), K M1 = some r → sg_T Y ad X nL (pc + 3) lv st M1) : sg_T Y ad X nL pc lv stk M := by
  subst hst
  cases hf : f with
  | none => rw [hf] at h; cases h
  | some res =>
    have h : K res = some r := by rw [hf] at h; exact h
    have hM := ct _ hf
    obtain ⟨⟨l, cy, D, zK, zV⟩, p, e, R, s, m, args, below, meth, c, Q⟩ := X
    obtain ⟨hx, hb, hml, hown, hts, hK, hinj, rfl, hZ, hlk9⟩ := C
    intro H locs ls hP hS hl
    have he := sg_at (ad := ad) (cy := cy) (M := M) hj.1
    rw [sg_Eo hj.2 h12] at he
    refine va_callv (va_runV (As := As) (rest := st) ⟨hx, hb, hml, hown, hts⟩ hM (cwV n hts (sg_goodV vm hlk) rfl rfl rfl ⟨rfl, vm.2.2.2.2.1, vm.2.2.2.2.2.1, vm.2.2.2.2.2.2.1⟩ ⟨hd, by have := vm.2.2.2.2.2.2.2; show 8 + (maxL + 11) + 64 * d1 ≤ 64 * d; omega⟩) ⟨fun a U g mk q => ⟨q.1, sg_Wd.call q.2⟩, by rw [← hq]; exact va_recv hK hP hc he, fun U hU hW => ⟨rfl, by rw [hU]; exact hP, va_K.moved hW.alike hK, by rw [hU]; exact (hZ.kept hS.2.1).warm hW⟩⟩ rfl hn hl.1 rfl (lv_room hroom) hdg ⟨Nat.le_refl _, Nat.le_refl _⟩) hS (fun q _ h => h) (fun q h => h) (fun u t H1 locs1 ht hvm hw hB hz1 hk1 hS1 => ?_)
    obtain rfl := hw
    have hP1 := hB.1
    rw [ht] at hP1
    exact k _ h H1 locs1 ls hP1 hS1 hl
theorem s_scV (C : sg_C Y ad X cc own nL d) {β : Type} {r : β} {y : MethodName} {c1 : ByteArray} {maxL n d1 index : Nat}  {f : Option sg_M} (As : List Value) (vm : sg_sm y c1 maxL none n) (hlk : Cond.methodLink own index y ∈ sg_G)  (hd : d1 + 1 ≤ d) (hn : As.length = n) (hst : stk = As.reverse ++ st) (hroom : (st.map fun v => v.category).sum ≤ 8) (hdg : decode cc pc = .ok (.invokestatic index, 3)) (ct : ∀ res, f = some res → sg_cV Y ad X.1 y c1 maxL d1 As M res) {K : sg_M → Option β} (h : sg_bv f K = some r) (k : ∀ (M1 : sg_M), K M1 = some r → sg_T Y ad X nL (pc + 3) lv st M1) : sg_T Y ad X nL pc lv stk M := by
  subst hst
  cases hf : f with
  | none => rw [hf] at h; cases h
  | some res =>
    have h : K res = some r := by rw [hf] at h; exact h
    have hM := ct _ hf
    obtain ⟨⟨l, cy, D, zK, zV⟩, p, e, R, s, m, args, below, meth, c, Q⟩ := X
    obtain ⟨hx, hb, hml, hown, hts, hK, hinj, rfl, hZ, hlk9⟩ := C
    intro H locs ls hP hS hl
    refine va_callv (va_runS (As := As) (rest := st) ⟨hx, hb, hml, hown, hts⟩ hM ⟨callB_of n hts (sg_good vm.2.2.1) rfl rfl rfl (hts _ vm.2.1) (hts _ hlk) ⟨vm.2.2.2.1, vm.2.2.2.2.1, vm.2.2.2.2.2.1⟩ ⟨hd, by have := vm.2.2.2.2.2.2; show 8 + (maxL + 11) + 64 * d1 ≤ 64 * d; omega⟩, hts _ vm.1⟩ ⟨fun a U g mk q => ⟨q.1, sg_Wd.call q.2⟩, fun U hU hW => ⟨rfl, by rw [hU]; exact hP, va_K.moved hW.alike hK, by rw [hU]; exact (hZ.kept hS.2.1).warm hW⟩⟩ rfl hn hl.1 rfl (lv_room hroom) hdg ⟨Nat.le_refl _, Nat.le_refl _⟩) hS (fun q _ h => h) (fun q h => h) (fun u t H1 locs1 ht hvm hw hB hz1 hk1 hS1 => ?_)
    obtain rfl := hw
    have hP1 := hB.1
    rw [ht] at hP1
    exact k _ h H1 locs1 ls hP1 hS1 hl
theorem s_vcR (C : sg_C Y ad X cc own nL d) {β : Type} {r : β} {y : MethodName} {c1 : ByteArray} {maxL n d1 index : Nat} {rt : FieldType} {f : Option (Nat × sg_M)} (As : List Value) (vm : sg_vm y c1 maxL (some rt) n) (hlk : Cond.methodLink own index y ∈ sg_G) {j ci : Nat} {q : vw_C} (hc : vwCl[ci]? = some q) (hq : q.1 = y.cls) (h12 : ci < 12) (hj : sg_K Y j ci) (hd : d1 + 1 ≤ d) (hn : As.length = n) (hst : stk = As.reverse ++ .ref (ad j) :: st) (hroom : (st.map fun v => v.category).sum ≤ 8) (hdg : decode cc pc = .ok (.invokevirtual index, 3)) (ct : ∀ res, f = some res → sg_cR Y ad X.1 y c1 maxL rt d1 (.ref (ad j) :: As) M res) {K : Nat → sg_M → Option β} (h : sg_b f K = some r) (k : ∀ (x : Nat) (M1 : sg_M), f = some (x, M1) → K x M1 = some r → sg_T Y ad X nL (pc + 3) lv (.ref (ad x) :: st) M1) : sg_T Y ad X nL pc lv stk M := by
  subst hst
  cases hf : f with
  | none => rw [hf] at h; cases h
  | some res =>
    obtain ⟨x9, M9⟩ := res
    have h : K x9 M9 = some r := by rw [hf] at h; exact h
    have hM := ct _ hf
    obtain ⟨⟨l, cy, D, zK, zV⟩, p, e, R, s, m, args, below, meth, c, Q⟩ := X
    obtain ⟨hx, hb, hml, hown, hts, hK, hinj, rfl, hZ, hlk9⟩ := C
    intro H locs ls hP hS hl
    have he := sg_at (ad := ad) (cy := cy) (M := M) hj.1
    rw [sg_Eo hj.2 h12] at he
    refine va_callr (va_runV (As := As) (rest := st) ⟨hx, hb, hml, hown, hts⟩ hM (cwV n hts (sg_goodV vm hlk) rfl rfl rfl ⟨rfl, vm.2.2.2.2.1, vm.2.2.2.2.2.1, vm.2.2.2.2.2.2.1⟩ ⟨hd, by have := vm.2.2.2.2.2.2.2; show 8 + (maxL + 11) + 64 * d1 ≤ 64 * d; omega⟩) ⟨fun a U g mk q => ⟨q.1, sg_Wd.call q.2⟩, by rw [← hq]; exact va_recv hK hP hc he, fun U hU hW => ⟨rfl, by rw [hU]; exact hP, va_K.moved hW.alike hK, by rw [hU]; exact (hZ.kept hS.2.1).warm hW⟩⟩ rfl hn hl.1 rfl (lv_room hroom) hdg ⟨Nat.le_refl _, Nat.le_refl _⟩) hS (fun q _ h => h) (fun q h => h) (fun u ra t H1 locs1 ht hvm hw hB hz1 hk1 hS1 => ?_)
    obtain rfl := hw
    obtain ⟨rfl, hB⟩ := hB
    have hP1 := hB.1
    rw [ht] at hP1
    exact k _ _ hf h H1 locs1 ls hP1 hS1 hl
theorem s_scR (C : sg_C Y ad X cc own nL d) {β : Type} {r : β} {y : MethodName} {c1 : ByteArray} {maxL n d1 index : Nat} {rt : FieldType} {f : Option (Nat × sg_M)} (As : List Value) (vm : sg_sm y c1 maxL (some rt) n) (hlk : Cond.methodLink own index y ∈ sg_G)  (hd : d1 + 1 ≤ d) (hn : As.length = n) (hst : stk = As.reverse ++ st) (hroom : (st.map fun v => v.category).sum ≤ 8) (hdg : decode cc pc = .ok (.invokestatic index, 3)) (ct : ∀ res, f = some res → sg_cR Y ad X.1 y c1 maxL rt d1 As M res) {K : Nat → sg_M → Option β} (h : sg_b f K = some r) (k : ∀ (x : Nat) (M1 : sg_M), f = some (x, M1) → K x M1 = some r → sg_T Y ad X nL (pc + 3) lv (.ref (ad x) :: st) M1) : sg_T Y ad X nL pc lv stk M := by
  subst hst
  cases hf : f with
  | none => rw [hf] at h; cases h
  | some res =>
    obtain ⟨x9, M9⟩ := res
    have h : K x9 M9 = some r := by rw [hf] at h; exact h
    have hM := ct _ hf
    obtain ⟨⟨l, cy, D, zK, zV⟩, p, e, R, s, m, args, below, meth, c, Q⟩ := X
    obtain ⟨hx, hb, hml, hown, hts, hK, hinj, rfl, hZ, hlk9⟩ := C
    intro H locs ls hP hS hl
    refine va_callr (va_runS (As := As) (rest := st) ⟨hx, hb, hml, hown, hts⟩ hM ⟨callB_of n hts (sg_good vm.2.2.1) rfl rfl rfl (hts _ vm.2.1) (hts _ hlk) ⟨vm.2.2.2.1, vm.2.2.2.2.1, vm.2.2.2.2.2.1⟩ ⟨hd, by have := vm.2.2.2.2.2.2; show 8 + (maxL + 11) + 64 * d1 ≤ 64 * d; omega⟩, hts _ vm.1⟩ ⟨fun a U g mk q => ⟨q.1, sg_Wd.call q.2⟩, fun U hU hW => ⟨rfl, by rw [hU]; exact hP, va_K.moved hW.alike hK, by rw [hU]; exact (hZ.kept hS.2.1).warm hW⟩⟩ rfl hn hl.1 rfl (lv_room hroom) hdg ⟨Nat.le_refl _, Nat.le_refl _⟩) hS (fun q _ h => h) (fun q h => h) (fun u ra t H1 locs1 ht hvm hw hB hz1 hk1 hS1 => ?_)
    obtain rfl := hw
    obtain ⟨rfl, hB⟩ := hB
    have hP1 := hB.1
    rw [ht] at hP1
    exact k _ _ hf h H1 locs1 ls hP1 hS1 hl
theorem s_mmax (C : sg_C Y ad X cc own nL d) {x y : Int32} {index : Nat} (hd : 1 ≤ d) (hlk : Cond.methodLink own index Lib.Math.max.name ∈ sg_G) (h1 : Cond.static Lib.Math.max.name ∈ sg_G) (h2 : Cond.initialized "java/lang/Math" ∈ sg_G) (h3 : Cond.code Lib.Math.max.name Lib.Math.max.code 2 (some .int) ∈ sg_G) (hroom : (st.map fun v => v.category).sum ≤ 8) (hdg : decode cc pc = .ok (.invokestatic index, 3)) (k : sg_T Y ad X nL (pc + 3) lv (.int (if x < y then y else x) :: st) M) : sg_T Y ad X nL pc lv (.int y :: .int x :: st) M := by
  obtain ⟨⟨l, cy, D, zK, zV⟩, p, e, R, s, m, args, below, meth, c, Q⟩ := X
  obtain ⟨hx, hb, hml, hown, hts, hK, hinj, rfl, hZ, hlk9⟩ := C
  intro H locs ls hP hS hl
  exact va_mmax hx hb (hml.trans hl.1.symm) hown (hts _ hlk) (hts _ h1) (hts _ h2) (hts _ h3) hd (by show _ + 13 ≤ 64 * d; omega) (Nat.le_refl _) (Nat.le_refl _) hdg (k H locs ls hP hS hl)
theorem s_mmin (C : sg_C Y ad X cc own nL d) {x y : Int32} {index : Nat} (hd : 1 ≤ d) (hlk : Cond.methodLink own index Lib.Math.min.name ∈ sg_G) (h1 : Cond.static Lib.Math.min.name ∈ sg_G) (h2 : Cond.initialized "java/lang/Math" ∈ sg_G) (h3 : Cond.code Lib.Math.min.name Lib.Math.min.code 2 (some .int) ∈ sg_G) (hroom : (st.map fun v => v.category).sum ≤ 8) (hdg : decode cc pc = .ok (.invokestatic index, 3)) (k : sg_T Y ad X nL (pc + 3) lv (.int (if y < x then y else x) :: st) M) : sg_T Y ad X nL pc lv (.int y :: .int x :: st) M := by
  obtain ⟨⟨l, cy, D, zK, zV⟩, p, e, R, s, m, args, below, meth, c, Q⟩ := X
  obtain ⟨hx, hb, hml, hown, hts, hK, hinj, rfl, hZ, hlk9⟩ := C
  intro H locs ls hP hS hl
  exact va_mmin hx hb (hml.trans hl.1.symm) hown (hts _ hlk) (hts _ h1) (hts _ h2) (hts _ h3) hd (by show _ + 13 ≤ 64 * d; omega) (Nat.le_refl _) (Nat.le_refl _) hdg (k H locs ls hP hS hl)
theorem s_mmaxl (C : sg_C Y ad X cc own nL d) {x y : Int64} {index : Nat} (hd : 1 ≤ d) (hlk : Cond.methodLink own index Lib.MathLoose.max_long.x ∈ sg_G) (h1 : Cond.static Lib.MathLoose.max_long.x ∈ sg_G) (h2 : Cond.initialized "java/lang/Math" ∈ sg_G) (h3 : Cond.code Lib.MathLoose.max_long.x Lib.MathLoose.max_long.code 4 (some .long) ∈ sg_G) (hroom : (st.map fun v => v.category).sum ≤ 8) (hdg : decode cc pc = .ok (.invokestatic index, 3)) (k : sg_T Y ad X nL (pc + 3) lv (.long (if y < x then x else y) :: st) M) : sg_T Y ad X nL pc lv (.long y :: .long x :: st) M := by
  obtain ⟨⟨l, cy, D, zK, zV⟩, p, e, R, s, m, args, below, meth, c, Q⟩ := X
  obtain ⟨hx, hb, hml, hown, hts, hK, hinj, rfl, hZ, hlk9⟩ := C
  intro H locs ls hP hS hl
  exact va_mmax_long hx hb (hml.trans hl.1.symm) hown (hts _ hlk) (hts _ h1) (hts _ h2) (hts _ h3) hd (by show _ + 15 ≤ 64 * d; omega) (Nat.le_refl _) (Nat.le_refl _) hdg (k H locs ls hP hS hl)
theorem s_mabsl (C : sg_C Y ad X cc own nL d) {x : Int64} {index : Nat} (hd : 1 ≤ d) (hlk : Cond.methodLink own index Lib.MathLoose.abs_long.x ∈ sg_G) (h1 : Cond.static Lib.MathLoose.abs_long.x ∈ sg_G) (h2 : Cond.initialized "java/lang/Math" ∈ sg_G) (h3 : Cond.code Lib.MathLoose.abs_long.x Lib.MathLoose.abs_long.code 2 (some .long) ∈ sg_G) (hroom : (st.map fun v => v.category).sum ≤ 8) (hdg : decode cc pc = .ok (.invokestatic index, 3)) (k : sg_T Y ad X nL (pc + 3) lv (.long (if 0 < x then x else -x) :: st) M) : sg_T Y ad X nL pc lv (.long x :: st) M := by
  obtain ⟨⟨l, cy, D, zK, zV⟩, p, e, R, s, m, args, below, meth, c, Q⟩ := X
  obtain ⟨hx, hb, hml, hown, hts, hK, hinj, rfl, hZ, hlk9⟩ := C
  intro H locs ls hP hS hl
  exact va_mabs_long hx hb (hml.trans hl.1.symm) hown (hts _ hlk) (hts _ h1) (hts _ h2) (hts _ h3) hd (by show _ + 13 ≤ 64 * d; omega) (Nat.le_refl _) (Nat.le_refl _) hdg (k H locs ls hP hS hl)
/-- what arraycopy of ints asks -/
def sg_cb (sp dp n : Int32) (la lb : Nat) : Bool := decide (¬ sp < 0 ∧ ¬ dp < 0 ∧ ¬ n < 0 ∧ sp.toNatClampNeg + n.toNatClampNeg ≤ la ∧ dp.toNatClampNeg + n.toNatClampNeg ≤ lb)
theorem s_copy (C : sg_C Y ad X cc own nL d) {β : Type} {A : Option β} {r : β} {sp dp n : Int32} {a b index : Nat} (hd : 1 ≤ d) (ha : sg_K Y a 13) (hb9 : sg_K Y b 13) (hlk : Cond.methodLink own index arraycopyName ∈ sg_G) (h1 : Cond.native arraycopyName ∈ sg_G) (h2 : Cond.static arraycopyName ∈ sg_G) (h3 : Cond.initialized "java/lang/System" ∈ sg_G) (hroom : (st.map fun v => v.category).sum ≤ 8) (hdg : decode cc pc = .ok (.invokestatic index, 3)) (h : (if sg_cb sp dp n (Y.2.2.1 a) (Y.2.2.1 b) = true then A else none) = some r) (k : A = some r → sg_T Y ad X nL (pc + 3) lv st (sg_cpy M a b sp.toNatClampNeg dp.toNatClampNeg n.toNatClampNeg)) : sg_T Y ad X nL pc lv (.int n :: .int dp :: .ref (ad b) :: .int sp :: .ref (ad a) :: st) M := by
  obtain ⟨h0, h9⟩ := sg_if h
  obtain ⟨q1, q2, q3, q4, q5⟩ := of_decide_eq_true h0
  obtain ⟨⟨l, cy, D, zK, zV⟩, p, e, R, s, m, args, below, meth, c, Q⟩ := X
  obtain ⟨hx, hb, hml, hown, hts, hK, hinj, rfl, hZ, hlk9⟩ := C
  intro H locs ls hP hS hl
  have he := sg_at (ad := ad) (cy := cy) (M := M) ha.1
  rw [sg_EI ha.2 (Or.inr (Or.inl rfl))] at he
  have he1 := sg_at (ad := ad) (cy := cy) (M := M) hb9.1
  rw [sg_EI hb9.2 (Or.inr (Or.inl rfl))] at he1
  have h7 : nativeFrameWords "java/lang/System" "arraycopy" 5 = 7 := by decide
  have hr9 : (st.map fun v => v.category).sum + (nativeFrameWords "java/lang/System" "arraycopy" 5 + 11) ≤ (sg_rm d).locals := by
    show _ ≤ 64 * d
    omega
  refine va_copyi (rest := st) hx hb (hml.trans hl.1.symm) hown (hts _ hlk) (hts _ h1) (hts _ h2) (hts _ h3) hK hP (sg_D hinj) hS a b 1 1 he he1 rfl rfl rfl q1 q2 q3 q4 q5 (fun i _ => rfl) hd hr9 hdg (fun H1 locs1 hP1 _ hS1 => ?_)
  rw [sg_setC hb9] at hP1
  exact k h9 H1 locs1 ls hP1 hS1 hl
theorem s_ldcS (C : sg_C Y ad X cc own nL d) {index : Nat} {tx : String} (i : Nat) (hi : (own, index, tx, i) ∈ sg_lits) (hdg : decode cc pc = .ok (.ldc index, 2)) (k : sg_T Y ad X nL (pc + 2) lv (.ref (sg_z X.1 i) :: st) M) : sg_T Y ad X nL pc lv st M := by
  obtain ⟨⟨l, cy, D, zK, zV⟩, p, e, R, s, m, args, below, meth, c, Q⟩ := X
  obtain ⟨hx, hb, hml, hown, hts, hK, hinj, rfl, hZ, hlk9⟩ := C
  intro H locs ls hP hS hl
  exact va_ldcS hx hb hown (hZ.2.1 _ hi) hdg (k H locs ls hP hS hl)
end SGR
