/-! rows for the constructors' walks -/
def dfl (c : Nat) : List Value := (List.range (sg_N c)).map (fun k => match sg_t c k with
  | 0 => .int 0
  | 1 => .long 0
  | _ => .null)
def cn_nest : List (String × Nat × MethodName) := [("SupplyGrid", 11, yX6_init), ("SupplyGrid$Reader", 23, yX4_init), ("SupplyGrid", 18, yX4_init), ("SupplyGrid", 33, yX1_init), ("SupplyGrid$Flow", 25, yX7_init), ("SupplyGrid", 47, yX0_init), ("SupplyGrid$Bounded", 27, yX1_init), ("SupplyGrid", 54, yX9_init), ("SupplyGrid$Years", 29, yX1_init), ("SupplyGrid$PadSearch", 36, yX7_init), ("SupplyGrid$PadSearch", 43, yX1_init), ("SupplyGrid", 68, yX8_init), ("SupplyGrid$StrapSearch", 49, yX7_init), ("SupplyGrid$StrapSearch", 59, yX1_init), ("SupplyGrid", 75, yX3_init), ("SupplyGrid$LossSearch", 37, yX7_init), ("SupplyGrid$LossSearch", 44, yX1_init), ("SupplyGrid", 82, yX2_init), ("SupplyGrid$LoadTrials", 17, yX7_init), ("SupplyGrid$LoadTrials", 32, yX1_init)]
def cn_over : List FieldType := [.object "SupplyGrid$Net", .object "SupplyGrid$Score", .array .int, .array .long]
/-- words of the tables that aren't among sg_G -/
def cn_N (U : State) : Prop := (∀ q ∈ cn_nest, va_Nw (.methodLinkNest q.1 q.2.1 q.2.2 "SupplyGrid") U) ∧ ∀ t ∈ cn_over, va_Nw (.arrayOver t) U
theorem ao_mv {u U : State} (h : u.vm.Alike U.vm) {t : FieldType} (hw : va_Nw (.arrayOver t) u) : va_Nw (.arrayOver t) U := (Cond.arrayOver_setVmC (args := #[]) (s := u) (vm' := U.vm) h t).trans hw
theorem cn_N.warm {s U : State} (hW : s.WarmedH U.vm) (h : cn_N s) : cn_N U := ⟨fun q hq => va_Nw.warmM hW (h.1 q hq), fun t ht => ao_mv hW.alike (h.2 t ht)⟩
theorem cn_N.same {u U : State} (h : u.vm = U.vm) (hN : cn_N u) : cn_N U := ⟨fun q hq => va_Nw.same rfl h (hN.1 q hq), fun t ht => ao_mv (by rw [h]; exact Vm.Alike.refl _) (hN.2 t ht)⟩
def cn_rm (d mc ms : Nat) : Room := { frames := d, cells := mc, slots := ms, locals := 64 * d }
def cn_ct (V : sg_V) (y : MethodName) (cc : ByteArray) (maxL c d mc ms : Nat) (ks ls : List Nat) : Prop := match V with
  | (l, cy, D, _, _) => ∀ h0 sz : Nat, Met l y (Cond.code y cc maxL none :: sg_G) (cn_rm d mc ms) (va_Pc [.ref h0] (fun U => U.heap.size = sz ∧ va_P D vwCl [(h0, .inr (c, dfl c))] U.heap ∧ va_K D vwCl (sg_tys cy) U ∧ cn_N U)) (va_Qv (fun u : Nat → Nat => u 0 = h0) (fun u t => va_P D vwCl (sgw cy (ks, ls, u)) t.heap ∧ va_D (va_A [(h0, .inr (c, dfl c))] sz) (sgw cy (ks, ls, u))) (va_A [(h0, .inr (c, dfl c))] sz)) mc ms (va_A [(h0, .inr (c, dfl c))] sz)
abbrev cn_X : Type := sg_V × Program × Env × Room × State × MethodId × Array Value × List Frame × Method × Code × (State → Prop) × (Nat → Prop)
def cn_C (X : cn_X) (cc : ByteArray) (own : String) (nL d mc ms : Nat) : Prop := match X with
  | ((_, cy, D, _, _), p, _, R, s, m, args, _, meth, c, _, A) => p.tables.exec = Jvm.exec ∧ c.code = cc ∧ c.maxLocals = nL ∧ s.vm.findClass own = some m.cls ∧ (∀ w ∈ sg_G, w.before args s = true) ∧ va_K D vwCl (sg_tys cy) s ∧ R = cn_rm d mc ms ∧ cn_N s ∧ meth.name = "<init>" ∧ ∀ q, s.heap.size ≤ q → A q
def cn_T (X : cn_X) (nL pc : Nat) (lv : List (Nat × Value)) (st : List Value) (h0 c : Nat) (fs : List Value) (F : List cn_s → va_W) (S : List cn_s) (k n : Nat) : Prop := match X with
  | ((l, _, D, _, _), p, e, R, s, m, args, below, meth, c0, Q, A) => ∀ (H : Heap) (locs : List Loc) (ls : Array Slot), va_P D vwCl ((h0, .inr (c, fs)) :: F S) H → va_D A ((h0, .inr (c, fs)) :: F S) → va_S A s.heap H locs → lv_has ls nL lv → W p l e R s m args below meth c0 H locs k n Q (F0 m pc ls st)
def cn_E (X : cn_X) (cc : ByteArray) (h0 : Nat) (ks ls : List Nat) (mc ms : Nat) : Prop := match X with
  | ((l, cy, D, _, _), p, e, R, s, m, args, below, meth, c0, Q, A) => ∀ (u : Nat → Nat) (H : Heap) (locs : List Loc) (pc : Nat) (lc : Array Slot), u 0 = h0 → va_P D vwCl (sgw cy (ks, ls, u)) H → va_D A (sgw cy (ks, ls, u)) → va_S A s.heap H locs → decode cc pc = .ok (.return_, 1) → W p l e R s m args below meth c0 H locs mc ms Q (F0 m pc lc [])
theorem cn_one {x : Nat × va_E} {sz : Nat} : va_D (va_A [x] sz) [x] := by
  refine ⟨fun i j p q hi hj _ => ?_, fun k q hk => va_A.in hk⟩
  have h1 : i < 1 := (List.getElem?_eq_some_iff.mp hi).1
  have h2 : j < 1 := (List.getElem?_eq_some_iff.mp hj).1
  omega
theorem cn_body {V : sg_V} {y : MethodName} {cc : ByteArray} {nL c d mc ms : Nat} {ks ls : List Nat} (hy : plainName y.cls = true) (hl : 1 ≤ nL) (hyn : y.name = "<init>") (body : ∀ (X : cn_X) (h0 : Nat), X.1 = V → cn_C X cc y.cls nL d mc ms → cn_E X cc h0 ks ls mc ms → cn_T X nL 0 [(0, .ref h0)] [] h0 c (dfl c) (flt X.1.2.1) [] 0 0) : cn_ct V y cc nL c d mc ms ks ls := by
  obtain ⟨l, cy, D, zK, zV⟩ := V
  intro h0 sz
  refine Met.ofW (cc := cc) (maxL := nL) (ret := none) hy rfl ?_
  intro p e s m args below meth c0 s₁ B hml hv
  obtain ⟨rfl, hsz, hP, hK, hN⟩ := hv
  subst hsz
  have hlk := B.notSynchronized
  have hts := atoms_spec (ws := Cond.code y cc nL none :: sg_G) B.pre
  have hin : meth.name = "<init>" := (name_of_methodNamed B.named B.method).1.trans hyn
  have key := body ((l, cy, D, zK, zV), p, e, cn_rm d mc ms, s, m, [Value.ref h0].toArray, below, meth, c0, MQ below (va_Qv (fun u : Nat → Nat => u 0 = h0) (fun u t => va_P D vwCl (sgw cy (ks, ls, u)) t.heap ∧ va_D (va_A [(h0, .inr (c, dfl c))] s.heap.size) (sgw cy (ks, ls, u))) (va_A [(h0, .inr (c, dfl c))] s.heap.size)) [Value.ref h0].toArray s mc ms (va_A [(h0, .inr (c, dfl c))] s.heap.size), va_A [(h0, .inr (c, dfl c))] s.heap.size) h0 rfl ⟨B.exec, B.bytes, hml, findClass_of_methodNamed B.named, fun w hw => hts w (List.mem_cons_of_mem _ hw), hK, rfl, hN, hin, fun q h => Or.inr h⟩ (fun u H locs pc lc hu hP hD hS hdg => W.vret B.exec B.bytes B.returns (fun t ht hW => ⟨⟨u, rfl, hu, by rw [ht]; exact hP, hD⟩, hS.F ht⟩) hS.2.2 hdg hlk)
  rw [lg_entry_eq]
  exact key s.heap [] _ hP cn_one va_S.rf (lv_entry [.ref h0] hl)
section CNR
variable {X : cn_X} {cc : ByteArray} {own : String} {nL d mc ms pc h0 c : Nat} {lv : List (Nat × Value)} {st fs : List Value} {F : List cn_s → va_W} {S : List cn_s} {k n : Nat}
theorem k_al0 (C : cn_C X cc own nL d mc ms) (i : Nat) (hi : lv[i]? = some (0, .ref h0)) (hdg : decode cc pc = .ok (.aload_n 0, 1)) (kk : cn_T X nL (pc + 1) lv (.ref h0 :: st) h0 c fs F S k n) : cn_T X nL pc lv st h0 c fs F S k n := by
  obtain ⟨⟨l, cy, D, zK, zV⟩, p, e, R, s, m, args, below, meth, c0, Q, A⟩ := X
  intro H locs ls hP hD hS hl
  exact lv_aload_n C.1 C.2.1 hdg rfl (lv_at hl i hi) (kk H locs ls hP hD hS hl)
theorem k_ic (C : cn_C X cc own nL d mc ms) {z : Int} {v : Int32} (hdg : decode cc pc = .ok (.iconst z, 1)) (hv : Int32.ofInt z = v) (kk : cn_T X nL (pc + 1) lv (.int v :: st) h0 c fs F S k n) : cn_T X nL pc lv st h0 c fs F S k n := by
  obtain ⟨⟨l, cy, D, zK, zV⟩, p, e, R, s, m, args, below, meth, c0, Q, A⟩ := X
  intro H locs ls hP hD hS hl
  exact lv_iconst C.1 C.2.1 hdg hv (kk H locs ls hP hD hS hl)
theorem k_bi (C : cn_C X cc own nL d mc ms) {z : Int} {v : Int32} (hdg : decode cc pc = .ok (.bipush z, 2)) (hv : (Int8.ofInt z).toInt32 = v) (kk : cn_T X nL (pc + 2) lv (.int v :: st) h0 c fs F S k n) : cn_T X nL pc lv st h0 c fs F S k n := by
  obtain ⟨⟨l, cy, D, zK, zV⟩, p, e, R, s, m, args, below, meth, c0, Q, A⟩ := X
  intro H locs ls hP hD hS hl
  exact lv_bipush C.1 C.2.1 hdg hv (kk H locs ls hP hD hS hl)
theorem k_si (C : cn_C X cc own nL d mc ms) {z : Int} {v : Int32} (hdg : decode cc pc = .ok (.sipush z, 3)) (hv : (Int16.ofInt z).toInt32 = v) (kk : cn_T X nL (pc + 3) lv (.int v :: st) h0 c fs F S k n) : cn_T X nL pc lv st h0 c fs F S k n := by
  obtain ⟨⟨l, cy, D, zK, zV⟩, p, e, R, s, m, args, below, meth, c0, Q, A⟩ := X
  intro H locs ls hP hD hS hl
  exact lv_sipush C.1 C.2.1 hdg hv (kk H locs ls hP hD hS hl)
theorem k_lc (C : cn_C X cc own nL d mc ms) {z : Fin 2} {v : Int64} (hdg : decode cc pc = .ok (.lconst z, 1)) (hv : Int64.ofNat (z : Nat) = v) (kk : cn_T X nL (pc + 1) lv (.long v :: st) h0 c fs F S k n) : cn_T X nL pc lv st h0 c fs F S k n := by
  obtain ⟨⟨l, cy, D, zK, zV⟩, p, e, R, s, m, args, below, meth, c0, Q, A⟩ := X
  intro H locs ls hP hD hS hl
  exact lv_lconst C.1 C.2.1 hdg hv (kk H locs ls hP hD hS hl)
theorem ob_2 : Cond.instanceMethod objectInit ∈ sg_G := sg_w 27 (by decide +kernel) rfl
theorem ob_3 : Cond.code objectInit ⟨#[0xb1]⟩ 1 none ∈ sg_G := sg_w 28 (by decide +kernel) rfl
theorem k_oin (C : cn_C X cc own nL d mc ms) {index : Nat} (hlk : Cond.methodLink own index objectInit ∈ sg_G) (hd : 1 ≤ d) (hdg : decode cc pc = .ok (.invokespecial index, 3)) (kk : cn_T X nL (pc + 3) lv [] h0 c fs F S k n) : cn_T X nL pc lv [.ref h0] h0 c fs F S k n := by
  obtain ⟨⟨l, cy, D, zK, zV⟩, p, e, R, s, m, args, below, meth, c0, Q, A⟩ := X
  obtain ⟨hx, hb, hml, hown, hts, hK, rfl, hN, hin, hA⟩ := C
  intro H locs ls hP hD hS hl
  exact W.objInit hx hb hown (hts _ hlk) (hts _ ob_2) (hts _ ob_3) rfl (by rw [hml]; exact hl.1) rfl hdg hd (by show 2 * 0 + 0 + 12 ≤ 64 * d; omega) (kk H locs ls hP hD hS hl)
theorem k_put (C : cn_C X cc own nL d mc ms) {N index : Nat} {cn : String} {T : u_T} (hin : ∀ w ∈ u_ws cn T N, w ∈ sg_G) (hc : vwCl[c]? = some (cn, T, N)) (k0 : Nat) (hk : k0 < N) (hlk : Cond.fieldLink own index (T k0).1 (T k0).2.1 (T k0).2.2.1 ∈ sg_G) (ty0 : Nat → FieldType) (hty : ∀ k, k < N → parseFieldDescriptor (T k).2.2.1 = some (ty0 k)) (hnm : ∀ a, a < N → ∀ b, b < N → a ≠ b → (T a).2.1 ≠ (T b).2.1) (hfin : (T k0).2.2.2 = false) {ty : FieldType} {v : Value} (hd : parseFieldDescriptor (T k0).2.2.1 = some ty) (hn : narrow ty v = v) (hfit : fits ty v = true) {fs' : List Value} (hfs : fs.set k0 v = fs') (hl0 : k0 < fs.length) (hdg : decode cc pc = .ok (.putfield index, 3)) (kk : cn_T X nL (pc + 3) lv st h0 c fs' F S k n) : cn_T X nL pc lv (v :: .ref h0 :: st) h0 c fs F S k n := by
  subst hfs
  obtain ⟨⟨l, cy, D, zK, zV⟩, p, e, R, s, m, args, below, meth, c0, Q, A⟩ := X
  intro H locs ls hP hD hS hl
  exact va_put (C := cn) (T := T) (N := N) (ty := ty) C.1 C.2.1 C.2.2.2.2.1 hin ty0 hty hnm C.2.2.2.1 C.2.2.2.2.2.1 hP hD hS 0 rfl hc k0 hk (C.2.2.2.2.1 _ hlk) (fun _ h9 => h9) hfin hd hn hfit hl0 hdg (fun H1 locs1 hP1 hD1 hS1 => kk H1 locs1 ls hP1 hD1 hS1 hl)
theorem k_putF (C : cn_C X cc own nL d mc ms) {N index : Nat} {cn : String} {T : u_T} (hin : ∀ w ∈ u_ws cn T N, w ∈ sg_G) (hc : vwCl[c]? = some (cn, T, N)) (k0 : Nat) (hk : k0 < N) (hlk : Cond.fieldLink own index (T k0).1 (T k0).2.1 (T k0).2.2.1 ∈ sg_G) (ty0 : Nat → FieldType) (hty : ∀ k, k < N → parseFieldDescriptor (T k).2.2.1 = some (ty0 k)) (hnm : ∀ a, a < N → ∀ b, b < N → a ≠ b → (T a).2.1 ≠ (T b).2.1) (hfin : (T k0).2.2.2 = true) (hdc : (T k0).1 = own) {ty : FieldType} {v : Value} (hd : parseFieldDescriptor (T k0).2.2.1 = some ty) (hn : narrow ty v = v) (hfit : fits ty v = true) {fs' : List Value} (hfs : fs.set k0 v = fs') (hl0 : k0 < fs.length) (hdg : decode cc pc = .ok (.putfield index, 3)) (kk : cn_T X nL (pc + 3) lv st h0 c fs' F S k n) : cn_T X nL pc lv (v :: .ref h0 :: st) h0 c fs F S k n := by
  subst hfs
  obtain ⟨⟨l, cy, D, zK, zV⟩, p, e, R, s, m, args, below, meth, c0, Q, A⟩ := X
  intro H locs ls hP hD hS hl
  exact va_putF (C := cn) (T := T) (N := N) (ty := ty) C.1 C.2.1 C.2.2.2.2.1 hin ty0 hty hnm C.2.2.2.1 C.2.2.2.2.2.1 hP hD hS 0 rfl hc k0 hk (C.2.2.2.2.1 _ hlk) (fun _ h9 => h9) hfin C.2.2.2.2.2.2.2.2.1 hdc hd hn hfit hl0 hdg (fun H1 locs1 hP1 hD1 hS1 => kk H1 locs1 ls hP1 hD1 hS1 hl)
theorem k_get (C : cn_C X cc own nL d mc ms) {N index : Nat} {cn : String} {T : u_T} (hin : ∀ w ∈ u_ws cn T N, w ∈ sg_G) (hc : vwCl[c]? = some (cn, T, N)) (k0 : Nat) (hk : k0 < N) (hlk : Cond.fieldLink own index (T k0).1 (T k0).2.1 (T k0).2.2.1 ∈ sg_G) {v : Value} (hv : fs[k0]? = some v) (hdg : decode cc pc = .ok (.getfield index, 3)) (kk : cn_T X nL (pc + 3) lv (v :: st) h0 c fs F S k n) : cn_T X nL pc lv (.ref h0 :: st) h0 c fs F S k n := by
  obtain ⟨⟨l, cy, D, zK, zV⟩, p, e, R, s, m, args, below, meth, c0, Q, A⟩ := X
  intro H locs ls hP hD hS hl
  exact va_get (C := cn) (T := T) (N := N) C.1 C.2.1 C.2.2.2.2.1 hin C.2.2.2.1 C.2.2.2.2.2.1 hP 0 rfl hc k0 hk (C.2.2.2.2.1 _ hlk) (fun _ h9 => h9) hv hdg (kk H locs ls hP hD hS hl)
theorem k_newa (C : cn_C X cc own nL d mc ms) {atype : ArrayType} {ty : FieldType} {a0 : vp_A} {i0 t N' : Nat} (harr : Cond.arrayClass (newarray.typeOf atype) ∈ sg_G) (hty : newarray.typeOf atype = ty) (hi0 : ∀ cy : Nat → ClassId, (sg_tys cy)[i0]? = some (cy t, ty)) (hRA : ∀ (U : State) (cA : ClassId), va_RA U cA ty → U.vm.findClass ("[" ++ ty.toString) = some cA) (hseg : ∀ (cy : Nat → ClassId) (q : Nat), sgw cy ([t], [N'], fun _ => q) = [(q, .inl (cy t, a0))]) (ha : ∀ cA : ClassId, vp_cell cA a0 = arrV cA N' (fun _ => defaultValue ty)) {x : Int32} (hn0 : ¬ x < 0) (hN0 : x.toNatClampNeg = N') (hby : N' * componentBytes ty ≤ 536870912) {k' n' : Nat} (hk : k + 1 = k') (hn : n + N' = n') (hkc : k' ≤ mc) (hns : n' ≤ ms) (hF : ∀ S q, F S ++ sgw X.1.2.1 q = F (S ++ [q])) (hdg : decode cc pc = .ok (.newarray atype, 2)) (kk : ∀ q : Nat, cn_T X nL (pc + 2) lv (.ref q :: st) h0 c fs F (S ++ [([t], [N'], fun _ => q)]) k' n') : cn_T X nL pc lv (.int x :: st) h0 c fs F S k n := by
  subst hk; subst hn
  obtain ⟨⟨l, cy, D, zK, zV⟩, p, e, R, s, m, args, below, meth, c0, Q, A⟩ := X
  obtain ⟨hx, hb, hml, hown, hts, hK, rfl, hN, hin, hA⟩ := C
  intro H locs ls hP hD hS hl
  refine va_newa (a0 := a0) hx hb (hts _ harr) hty hK hP hD hS hA ha hn0 hN0 hby hkc hns hdg (fun q cA H1 hK1 hP1 hD1 hS1 => ?_)
  have e1 : cA = cy t := Option.some.inj ((hRA _ _ (hK1.2 8 (cA, ty) rfl).2).symm.trans (hRA _ _ (hK.2 i0 _ (hi0 cy)).2))
  subst e1
  have e2 : ((h0, .inr (c, fs)) :: F S) ++ [(q, .inl (cy t, a0))] = (h0, .inr (c, fs)) :: F (S ++ [([t], [N'], fun _ => q)]) := by
    rw [List.cons_append, ← hseg cy q]
    exact congrArg _ (hF S _)
  rw [e2] at hP1 hD1
  exact kk q H1 locs ls hP1 hD1 hS1 hl
theorem ac_I : Cond.arrayClass (newarray.typeOf .int) ∈ sg_G := sg_w 158 (by decide +kernel) rfl
theorem ac_J : Cond.arrayClass (newarray.typeOf .long) ∈ sg_G := sg_w 236 (by decide +kernel) rfl
theorem ac_Z : Cond.arrayClass (newarray.typeOf .boolean) ∈ sg_G := sg_w 235 (by decide +kernel) rfl
theorem ac_B : Cond.arrayClass (newarray.typeOf .byte) ∈ sg_G := sg_w 729 (by decide +kernel) rfl
theorem k_nI (C : cn_C X cc own nL d mc ms) {N' : Nat} {x : Int32} (hn0 : ¬ x < 0) (hN0 : x.toNatClampNeg = N') (hby : N' * componentBytes .int ≤ 536870912) {k' n' : Nat} (hk : k + 1 = k') (hn : n + N' = n') (hkc : k' ≤ mc) (hns : n' ≤ ms) (hF : ∀ S q, F S ++ sgw X.1.2.1 q = F (S ++ [q])) (hdg : decode cc pc = .ok (.newarray .int, 2)) (kk : ∀ q : Nat, cn_T X nL (pc + 2) lv (.ref q :: st) h0 c fs F (S ++ [([13], [N'], fun _ => q)]) k' n') : cn_T X nL pc lv (.int x :: st) h0 c fs F S k n := k_newa (i0 := 1) (a0 := (N', .inl fun _ => 0)) C ac_I rfl (fun _ => rfl) (fun _ _ h => h) (fun _ _ => rfl) (fun _ => rfl) hn0 hN0 hby hk hn hkc hns hF hdg kk
theorem k_nJ (C : cn_C X cc own nL d mc ms) {N' : Nat} {x : Int32} (hn0 : ¬ x < 0) (hN0 : x.toNatClampNeg = N') (hby : N' * componentBytes .long ≤ 536870912) {k' n' : Nat} (hk : k + 1 = k') (hn : n + N' = n') (hkc : k' ≤ mc) (hns : n' ≤ ms) (hF : ∀ S q, F S ++ sgw X.1.2.1 q = F (S ++ [q])) (hdg : decode cc pc = .ok (.newarray .long, 2)) (kk : ∀ q : Nat, cn_T X nL (pc + 2) lv (.ref q :: st) h0 c fs F (S ++ [([14], [N'], fun _ => q)]) k' n') : cn_T X nL pc lv (.int x :: st) h0 c fs F S k n := k_newa (i0 := 2) (a0 := (N', .inr (.inl fun _ => 0))) C ac_J rfl (fun _ => rfl) (fun _ _ h => h) (fun _ _ => rfl) (fun _ => rfl) hn0 hN0 hby hk hn hkc hns hF hdg kk
theorem k_nZ (C : cn_C X cc own nL d mc ms) {N' : Nat} {x : Int32} (hn0 : ¬ x < 0) (hN0 : x.toNatClampNeg = N') (hby : N' * componentBytes .boolean ≤ 536870912) {k' n' : Nat} (hk : k + 1 = k') (hn : n + N' = n') (hkc : k' ≤ mc) (hns : n' ≤ ms) (hF : ∀ S q, F S ++ sgw X.1.2.1 q = F (S ++ [q])) (hdg : decode cc pc = .ok (.newarray .boolean, 2)) (kk : ∀ q : Nat, cn_T X nL (pc + 2) lv (.ref q :: st) h0 c fs F (S ++ [([15], [N'], fun _ => q)]) k' n') : cn_T X nL pc lv (.int x :: st) h0 c fs F S k n := k_newa (i0 := 3) (a0 := (N', .inl fun _ => 0)) C ac_Z rfl (fun _ => rfl) (fun _ _ h => h) (fun _ _ => rfl) (fun _ => rfl) hn0 hN0 hby hk hn hkc hns hF hdg kk
theorem k_nB (C : cn_C X cc own nL d mc ms) {N' : Nat} {x : Int32} (hn0 : ¬ x < 0) (hN0 : x.toNatClampNeg = N') (hby : N' * componentBytes .byte ≤ 536870912) {k' n' : Nat} (hk : k + 1 = k') (hn : n + N' = n') (hkc : k' ≤ mc) (hns : n' ≤ ms) (hF : ∀ S q, F S ++ sgw X.1.2.1 q = F (S ++ [q])) (hdg : decode cc pc = .ok (.newarray .byte, 2)) (kk : ∀ q : Nat, cn_T X nL (pc + 2) lv (.ref q :: st) h0 c fs F (S ++ [([12], [N'], fun _ => q)]) k' n') : cn_T X nL pc lv (.int x :: st) h0 c fs F S k n := k_newa (i0 := 0) (a0 := (N', .inl fun _ => 0)) C ac_B rfl (fun _ => rfl) (fun _ _ h => h) (fun _ _ => rfl) (fun _ => rfl) hn0 hN0 hby hk hn hkc hns hF hdg kk
theorem cn_lastP {D : va_G} {w : va_W} {x : Nat × va_E} {H : Heap} (hP : va_P D vwCl (w ++ [x]) H) : va_P D vwCl [x] H := fun k y hy => by
  have hk : k < 1 := (List.getElem?_eq_some_iff.mp hy).1
  obtain rfl : k = 0 := by omega
  refine hP w.length y ?_
  rw [List.getElem?_append_right (Nat.le_refl _), Nat.sub_self]
  exact hy
theorem cn_initP {D : va_G} {w v : va_W} {H : Heap} (hP : va_P D vwCl (w ++ v) H) : va_P D vwCl w H := fun k y hy => hP k y (by rw [List.getElem?_append_left (List.getElem?_eq_some_iff.mp hy).1]; exact hy)
theorem cn_initD {A : Nat → Prop} {w v : va_W} (hD : va_D A (w ++ v)) : va_D A w := by
  have e : ∀ (k : Nat) (y : Nat × va_E), w[k]? = some y → (w ++ v)[k]? = some y := fun k y hy => by rw [List.getElem?_append_left (List.getElem?_eq_some_iff.mp hy).1]; exact hy
  exact ⟨fun i j p q hi hj h => hD.1 i j p q (e i p hi) (e j q hj) h, fun k q hk => hD.2 k q (e k q hk)⟩
theorem cn_lastD {A : Nat → Prop} {w : va_W} {x : Nat × va_E} (hD : va_D A (w ++ [x])) : A x.1 ∧ ∀ (k : Nat) (y : Nat × va_E), w[k]? = some y → y.1 ≠ x.1 := by
  have e : (w ++ [x])[w.length]? = some x := by rw [List.getElem?_append_right (Nat.le_refl _), Nat.sub_self]; rfl
  refine ⟨hD.2 _ x e, fun k y hy h => ?_⟩
  have hk := (List.getElem?_eq_some_iff.mp hy).1
  have := hD.1 k w.length y x (by rw [List.getElem?_append_left hk]; exact hy) e h
  omega
/-- new, dup, the constructor's call -/
theorem k_obj3 (C : cn_C X cc own nL d mc ms) {ci N index i2 d1 mc1 ms1 maxL : Nat} {cn : String} {T : u_T} {y : MethodName} {c1 : ByteArray} {ks ls1 : List Nat} (hM : cn_ct X.1 y c1 maxL ci d1 mc1 ms1 ks ls1) (hin9 : ∀ w ∈ u_ws cn T N, w ∈ sg_G) (ty0 : Nat → FieldType) (hty : ∀ k, k < N → parseFieldDescriptor (T k).2.2.1 = some (ty0 k)) (hcl : Cond.classLink own index cn ∈ sg_G) (hins : Cond.instantiable cn N ∈ sg_G) (hini : Cond.initialized cn ∈ sg_G) (hc : vwCl[ci]? = some (cn, T, N)) (hfs : ∀ j, j < N → defaultValue (ty0 j) = vp_V (dfl ci) j) (hyc : y.cls = cn) (hnest : (own, i2, y) ∈ cn_nest) (hcode : Cond.code y c1 maxL none ∈ sg_G) (hinst : Cond.instanceMethod y ∈ sg_G) (hy : y.name = "<init>") (hy2 : y.cls ≠ "java/lang/invoke/MethodHandle" ∧ y.cls ≠ "java/lang/invoke/VarHandle" ∧ (parseMethodDescriptor y.desc).map (fun d => d.parameters.length) = some 0) (hmax : maxL ≤ 45) (hd : d1 + 1 ≤ d) {k' n' : Nat} (hk : k + 1 + mc1 = k') (hn : n + N + ms1 = n') (hkc : k' ≤ mc) (hns : n' ≤ ms) (hroom : (st.map fun v => v.category).sum ≤ 7) (hF : ∀ S q, F S ++ sgw X.1.2.1 q = F (S ++ [q])) (hd1 : decode cc pc = .ok (.new index, 3)) (hd2 : decode cc (pc + 3) = .ok (.dup, 1)) (hd3 : decode cc (pc + 4) = .ok (.invokespecial i2, 3)) (kk : ∀ u : Nat → Nat, cn_T X nL (pc + 7) lv (.ref (u 0) :: st) h0 c fs F (S ++ [(ks, ls1, u)]) k' n') : cn_T X nL pc lv st h0 c fs F S k n := by
  subst hk; subst hn
  obtain ⟨⟨l, cy, D, zK, zV⟩, p, e, R, s, m, args, below, meth, c0, Q, A⟩ := X
  obtain ⟨hx, hb, hml, hown, hts, hK, rfl, hN, hin, hA⟩ := C
  intro H locs ls hP hD hS hl
  refine va_new (ci := ci) (fs := dfl ci) (C := cn) (T := T) (N := N) hx hb hts hin9 ty0 hty hown (hts _ hcl) (hts _ hins) (hts _ hini) hK hP hD hS hA hc hfs (by show k + 1 ≤ mc; omega) (by show n + N ≤ ms; omega) hd1 (fun q H hP hD hS => ?_)
  refine lv_dup hx hb hd2 rfl ?_
  have hPc := cn_lastP hP
  have hPi := cn_initP hP
  have hDi := cn_initD hD
  obtain ⟨hAq, hne⟩ := cn_lastD hD
  have hFc : ∀ x, va_A [(q, (Sum.inr (ci, dfl ci) : va_E))] H.size x → A x := by
    intro x hx9
    rcases hx9 with ⟨j, z, hz⟩ | hz
    · have hj : j < 1 := (List.getElem?_eq_some_iff.mp hz).1
      obtain rfl : j = 0 := by omega
      cases hz
      exact hAq
    · exact hA x (Nat.le_trans hS.1 hz)
  have hno : ∀ (j : Nat) (z : Nat × va_E), ((h0, (Sum.inr (c, fs) : va_E)) :: F S)[j]? = some z → ¬ va_A [(q, (Sum.inr (ci, dfl ci) : va_E))] H.size z.1 := by
    intro j z hz hA9
    rcases hA9 with ⟨i, w, hw⟩ | hw
    · have hi : i < 1 := (List.getElem?_eq_some_iff.mp hw).1
      obtain rfl : i = 0 := by omega
      have hw := Option.some.inj hw
      exact hne j z hz (congrArg Prod.fst hw).symm
    · have := (hPi j z hz).lt
      omega
  refine va_callv (va_runIN (As := []) (rest := .ref q :: st) ⟨hx, hb, hml, hown, hts⟩ (hM q H.size) ⟨va_cnB 0 hts (sg_good hcode) rfl rfl rfl (hN.1 _ hnest) (hts _ (by rw [hyc]; exact hini)) hy2 ⟨hd, by show 8 + (maxL + 11) + 64 * d1 ≤ 64 * d; omega⟩, hy, hts _ hinst⟩ ⟨fun a U g mk h => ⟨h.1, h.2.1, h.2.2.1, va_K.moved (u := U) (U := U.calling g mk a) (Vm.Alike.refl U.vm) h.2.2.2.1, cn_N.same rfl h.2.2.2.2⟩, fun U hU hW => ⟨rfl, by rw [hU], by rw [hU]; exact hPc, va_K.moved hW.alike hK, hN.warm hW⟩⟩ rfl rfl hl.1 rfl (lv_room (by show 1 + (st.map fun v => v.category).sum ≤ 8; omega)) hd3 ⟨hkc, hns⟩) hS (fun x _ h => hFc x h) hFc (fun u t H1 locs1 ht hvm hu hB hz1 hk1 hS1 => ?_)
  obtain ⟨hB1, hB2⟩ := hB
  rw [ht] at hB1
  have hP1 := (hPi.kept (H1 := H1) (fun j z hz => hk1 z.1 ((hPi j z hz).lt) (hno j z hz))).app hB1
  have hD1 := cn_Dapp hDi hB2 hFc hno
  have e3 : ((h0, .inr (c, fs)) :: F S) ++ sgw cy (ks, ls1, u) = (h0, .inr (c, fs)) :: F (S ++ [(ks, ls1, u)]) := by
    rw [List.cons_append]
    exact congrArg _ (hF S _)
  rw [e3] at hP1 hD1
  have key := kk u H1 locs1 ls hP1 hD1 hS1 hl
  rw [hu] at key
  exact key
theorem k_obj4 (C : cn_C X cc own nL d mc ms) {ci N index i2 d1 mc1 ms1 maxL : Nat} {cn : String} {T : u_T} {y : MethodName} {c1 : ByteArray} {ks ls1 : List Nat} (hM : cn_ct X.1 y c1 maxL ci d1 mc1 ms1 ks ls1) (hin9 : ∀ w ∈ u_ws cn T N, w ∈ sg_G) (ty0 : Nat → FieldType) (hty : ∀ k, k < N → parseFieldDescriptor (T k).2.2.1 = some (ty0 k)) (hcl : Cond.classLink own index cn ∈ sg_G) (hins : Cond.instantiable cn N ∈ sg_G) (hini : Cond.initialized cn ∈ sg_G) (hc : vwCl[ci]? = some (cn, T, N)) (hfs : ∀ j, j < N → defaultValue (ty0 j) = vp_V (dfl ci) j) (hyc : y.cls = cn) (hlk : Cond.methodLink own i2 y ∈ sg_G) (hcode : Cond.code y c1 maxL none ∈ sg_G) (hinst : Cond.instanceMethod y ∈ sg_G) (hy : y.name = "<init>") (hy2 : y.cls ≠ "java/lang/invoke/MethodHandle" ∧ y.cls ≠ "java/lang/invoke/VarHandle" ∧ (parseMethodDescriptor y.desc).map (fun d => d.parameters.length) = some 0) (hmax : maxL ≤ 45) (hd : d1 + 1 ≤ d) {k' n' : Nat} (hk : k + 1 + mc1 = k') (hn : n + N + ms1 = n') (hkc : k' ≤ mc) (hns : n' ≤ ms) (hroom : (st.map fun v => v.category).sum ≤ 7) (hF : ∀ S q, F S ++ sgw X.1.2.1 q = F (S ++ [q])) (hd1 : decode cc pc = .ok (.new index, 3)) (hd2 : decode cc (pc + 3) = .ok (.dup, 1)) (hd3 : decode cc (pc + 4) = .ok (.invokespecial i2, 3)) (kk : ∀ u : Nat → Nat, cn_T X nL (pc + 7) lv (.ref (u 0) :: st) h0 c fs F (S ++ [(ks, ls1, u)]) k' n') : cn_T X nL pc lv st h0 c fs F S k n := by
  subst hk; subst hn
  obtain ⟨⟨l, cy, D, zK, zV⟩, p, e, R, s, m, args, below, meth, c0, Q, A⟩ := X
  obtain ⟨hx, hb, hml, hown, hts, hK, rfl, hN, hin, hA⟩ := C
  intro H locs ls hP hD hS hl
  refine va_new (ci := ci) (fs := dfl ci) (C := cn) (T := T) (N := N) hx hb hts hin9 ty0 hty hown (hts _ hcl) (hts _ hins) (hts _ hini) hK hP hD hS hA hc hfs (by show k + 1 ≤ mc; omega) (by show n + N ≤ ms; omega) hd1 (fun q H hP hD hS => ?_)
  refine lv_dup hx hb hd2 rfl ?_
  have hPc := cn_lastP hP
  have hPi := cn_initP hP
  have hDi := cn_initD hD
  obtain ⟨hAq, hne⟩ := cn_lastD hD
  have hFc : ∀ x, va_A [(q, (Sum.inr (ci, dfl ci) : va_E))] H.size x → A x := by
    intro x hx9
    rcases hx9 with ⟨j, z, hz⟩ | hz
    · have hj : j < 1 := (List.getElem?_eq_some_iff.mp hz).1
      obtain rfl : j = 0 := by omega
      cases hz
      exact hAq
    · exact hA x (Nat.le_trans hS.1 hz)
  have hno : ∀ (j : Nat) (z : Nat × va_E), ((h0, (Sum.inr (c, fs) : va_E)) :: F S)[j]? = some z → ¬ va_A [(q, (Sum.inr (ci, dfl ci) : va_E))] H.size z.1 := by
    intro j z hz hA9
    rcases hA9 with ⟨i, w, hw⟩ | hw
    · have hi : i < 1 := (List.getElem?_eq_some_iff.mp hw).1
      obtain rfl : i = 0 := by omega
      have hw := Option.some.inj hw
      exact hne j z hz (congrArg Prod.fst hw).symm
    · have := (hPi j z hz).lt
      omega
  refine va_callv (va_runI (As := []) (rest := .ref q :: st) ⟨hx, hb, hml, hown, hts⟩ (hM q H.size) (cwI 0 hts (sg_good hcode) rfl rfl rfl (hts _ (by rw [hyc]; exact hini)) (hts _ hlk) (hts _ hinst) hy hy2 ⟨hd, by show 8 + (maxL + 11) + 64 * d1 ≤ 64 * d; omega⟩) ⟨fun a U g mk h => ⟨h.1, h.2.1, h.2.2.1, va_K.moved (u := U) (U := U.calling g mk a) (Vm.Alike.refl U.vm) h.2.2.2.1, cn_N.same rfl h.2.2.2.2⟩, fun U hU hW => ⟨rfl, by rw [hU], by rw [hU]; exact hPc, va_K.moved hW.alike hK, hN.warm hW⟩⟩ rfl rfl hl.1 rfl (lv_room (by show 1 + (st.map fun v => v.category).sum ≤ 8; omega)) hd3 ⟨hkc, hns⟩) hS (fun x _ h => hFc x h) hFc (fun u t H1 locs1 ht hvm hu hB hz1 hk1 hS1 => ?_)
  obtain ⟨hB1, hB2⟩ := hB
  rw [ht] at hB1
  have hP1 := (hPi.kept (H1 := H1) (fun j z hz => hk1 z.1 ((hPi j z hz).lt) (hno j z hz))).app hB1
  have hD1 := cn_Dapp hDi hB2 hFc hno
  have e3 : ((h0, .inr (c, fs)) :: F S) ++ sgw cy (ks, ls1, u) = (h0, .inr (c, fs)) :: F (S ++ [(ks, ls1, u)]) := by
    rw [List.cons_append]
    exact congrArg _ (hF S _)
  rw [e3] at hP1 hD1
  have key := kk u H1 locs1 ls hP1 hD1 hS1 hl
  rw [hu] at key
  exact key
/-- an array of arrays -/
theorem k_mul (C : cn_C X cc own nL d mc ms) {index i0 i1 t ti N' K' : Nat} {ty : FieldType} {ks ls1 : List Nat} {a0 : (Nat → Int32) ⊕ (Nat → Int64) ⊕ (Nat → UInt32) ⊕ (Nat → UInt64) ⊕ (Nat → Option Nat)} (hcl : Cond.classLink own index ("[" ++ (FieldType.array ty).toString) ∈ sg_G) (hov : (FieldType.array ty) ∈ cn_over) (harr : Cond.arrayClass ty ∈ sg_G) (hi0 : ∀ cy : Nat → ClassId, (sg_tys cy)[i0]? = some (cy t, .array ty)) (hi1 : ∀ cy : Nat → ClassId, (sg_tys cy)[i1]? = some (cy ti, ty)) (hRA : ∀ (U : State) (cA : ClassId), va_RA U cA ty → U.vm.findClass ("[" ++ ty.toString) = some cA) (hts9 : (FieldType.array ty).toString = "[" ++ ty.toString) (hk0 : ks.getD 0 99 = t) (h16 : 17 ≤ t) (hl0 : ls1.getD 0 0 = N') (hlen : ks.length = 1 + N') (hE : ∀ (cy : Nat → ClassId) (u : Nat → Nat) (j : Nat), j < N' → sg_E (mkY ks ls1) u cy (M0 ks) (1 + j) = .inl (cy ti, K', a0)) (ha : ∀ cA : ClassId, vp_cell cA (K', a0) = arrV cA K' (fun _ => defaultValue ty))
    {x y : Int32} (hN0 : x.toNatClampNeg = N') (hK0 : y.toNatClampNeg = K') (hx0 : ¬ x < 0) (hy0 : ¬ y < 0) (hb1 : N' * 4 ≤ 536870912) (hb2 : K' * componentBytes ty ≤ 536870912) (hb3 : K' ≤ 536870912) (hdf : fits ty (defaultValue ty) = true) (hdd : (defaultValue ty).isDefault = true) {k' n' : Nat} (hk : k + 1 + N' = k') (hn : n + N' + N' * K' = n') (hkc : k' ≤ mc) (hns : n' ≤ ms) (hF : ∀ S q, F S ++ sgw X.1.2.1 q = F (S ++ [q])) (hdg : decode cc pc = .ok (.multianewarray index 2, 4)) (kk : ∀ u : Nat → Nat, cn_T X nL (pc + 4) lv (.ref (u 0) :: st) h0 c fs F (S ++ [(ks, ls1, u)]) k' n') : cn_T X nL pc lv (.int y :: .int x :: st) h0 c fs F S k n := by
  subst hk; subst hn
  obtain ⟨⟨l, cy, D, zK, zV⟩, p, e, R, s, m, args, below, meth, c0, Q, A⟩ := X
  obtain ⟨hx, hb, hml, hown, hts, hK, rfl, hN, hin, hA⟩ := C
  intro H locs ls hP hD hS hl
  refine mu_new2 (ty := ty) (N := N') (K := K') hx hb hown (hts _ hcl) (hN.2 _ hov) (hts _ harr) hN0 hK0 hx0 hy0 hb1 hb2 hb3 hdf hdd (by show k + (1 + N') ≤ mc; omega) (by show n + (N' + N' * K') ≤ ms; omega) hdg (fun cA comp H1 hAr hfA hfC hz ho hq hj => ?_)
  have e1 : cA = cy t := Option.some.inj (hfA.symm.trans (hK.2 i0 _ (hi0 cy)).2)
  have e2 : comp = cy ti := by
    rw [hts9] at hfC
    exact Option.some.inj (hfC.symm.trans (hRA _ _ (hK.2 i1 _ (hi1 cy)).2))
  subst e1; subst e2
  have hPs : va_P D vwCl (sgw cy (ks, ls1, fun i => H.size + i)) H1 := by
    intro i z hz9
    obtain ⟨hi, rfl⟩ := sg_atlt hz9
    have hi : i < ks.length := hi
    show va_at D vwCl (H.size + i, sg_E (mkY ks ls1) (fun i => H.size + i) cy (M0 ks) i) H1
    rcases i with _ | j
    · rw [sg_ER (show (mkY ks ls1).2.1 0 = t from hk0) (by omega)]
      show H1[H.size + 0]? = some (arrV (cy t) (ls1.getD 0 0) (fun j => va_rf (some (H.size + (mkY ks ls1).2.2.2 0 j))))
      rw [Nat.add_zero, hq, hl0]
      congr 1
      refine arrV_x (fun j _ => ?_)
      have : (mkY ks ls1).2.2.2 0 j = 0 + 1 + j := by
        show (if ks.getD 0 99 < 12 then _ else if ks.getD 0 99 = 16 then _ else _) = _
        rw [hk0, if_neg (by omega), if_neg (by omega)]
      rw [this]
      show Value.ref (H.size + 1 + j) = Value.ref (H.size + (0 + 1 + j))
      rw [Nat.zero_add, Nat.add_assoc]
    · rw [Nat.add_comm j 1, hE _ _ j (by omega)]
      show H1[H.size + (1 + j)]? = some (vp_cell (cy ti) (K', a0))
      rw [ha, ← Nat.add_assoc]
      exact hj j (by omega)
  have hDs : va_D (fun q => H.size ≤ q) (sgw cy (ks, ls1, fun i => H.size + i)) := by
    refine ⟨fun i j p q hi hj h => ?_, fun i q hi => ?_⟩
    · obtain ⟨-, rfl⟩ := sg_atlt hi
      obtain ⟨-, rfl⟩ := sg_atlt hj
      have h : H.size + i = H.size + j := h
      omega
    · obtain ⟨-, rfl⟩ := sg_atlt hi
      show H.size ≤ H.size + i
      omega
  have hP1 := (hP.kept (H1 := H1) (fun i z hz9 => ho _ ((hP i z hz9).lt))).app hPs
  have hD1 := cn_Dapp hD hDs (fun q hq => hA q (Nat.le_trans hS.1 hq)) (fun i z hz9 hc9 => by have := (hP i z hz9).lt; omega)
  have e3 : ((h0, .inr (c, fs)) :: F S) ++ sgw cy (ks, ls1, fun i => H.size + i) = (h0, .inr (c, fs)) :: F (S ++ [(ks, ls1, fun i => H.size + i)]) := by
    rw [List.cons_append]
    exact congrArg _ (hF S _)
  rw [e3] at hP1 hD1
  exact kk (fun i => H.size + i) H1 locs ls hP1 hD1 ⟨Nat.le_trans hS.1 (by omega), fun q h1 h2 => (ho q (Nat.lt_of_lt_of_le h1 hS.1)).trans (hS.2.1 q h1 h2), hS.2.2⟩ hl
/-- a row of references, all null -/
theorem k_anw (C : cn_C X cc own nL d mc ms) {index i0 t N' : Nat} {cn : String} (hcl : Cond.classLink own index cn ∈ sg_G) (hov : (FieldType.object cn) ∈ cn_over) (hi0 : ∀ cy : Nat → ClassId, (sg_tys cy)[i0]? = some (cy t, .object cn)) {x : Int32} (hx0 : ¬ x < 0) (hN0 : x.toNatClampNeg = N') (hby : N' * 4 ≤ 536870912) {k' n' : Nat} (hk : k + 1 = k') (hn : n + N' = n') (hkc : k' ≤ mc) (hns : n' ≤ ms) (hdg : decode cc pc = .ok (.anewarray index, 3)) (kk : ∀ q : Nat, cn_T X nL (pc + 3) lv (.ref q :: st) h0 c fs (fun S' => flt X.1.2.1 S ++ ((q, .inl (X.1.2.1 t, N', .inr (.inr (.inr (.inr (fun _ => none)))))) :: flt X.1.2.1 S')) [] k' n') : cn_T X nL pc lv (.int x :: st) h0 c fs (flt X.1.2.1) S k n := by
  subst hk; subst hn
  obtain ⟨⟨l, cy, D, zK, zV⟩, p, e, R, s, m, args, below, meth, c0, Q, A⟩ := X
  obtain ⟨hx, hb, hml, hown, hts, hK, rfl, hN, hin, hA⟩ := C
  intro H locs ls hP hD hS hl
  refine va_newq hx hb hown (hts _ hcl) (va_AO.of (hN.2 _ hov)) hK hP hD hS hA hx0 hN0 hby hkc hns hdg (fun q cA H1 hK1 hP1 hD1 hS1 => ?_)
  have e1 : cA = cy t := by
    obtain ⟨-, -, -, -, -, g1⟩ := (hK1.2 8 (cA, .object cn) rfl).2
    obtain ⟨-, -, -, -, -, g2⟩ := (hK.2 i0 _ (hi0 cy)).2
    exact Option.some.inj (g1.symm.trans g2)
  subst e1
  exact kk q H1 locs ls hP1 hD1 hS1 hl
/-- the object made last goes into the row of references -/
theorem k_ast (C : cn_C X cc own nL d mc ms) {i0 ci t n0 q : Nat} {r : vw_C} {ks ls1 : List Nat} {u : Nat → Nat} {f : Nat → Option Nat} {S1 : List cn_s} (hi0 : ∀ cy : Nat → ClassId, (sg_tys cy)[i0]? = some (cy t, .object r.1)) (hc : vwCl[ci]? = some r) (h12 : ci < 12) (hk0 : ks.getD 0 99 = ci) (hkl : 0 < ks.length) {i : Int32} (hin9 : vp_in i n0) {iN : Nat} (hiN : i.toNatClampNeg = iN) (hdg : decode cc pc = .ok (.aastore, 1)) (kk : cn_T X nL (pc + 1) lv st h0 c fs (fun S' => flt X.1.2.1 S1 ++ ((q, .inl (X.1.2.1 t, n0, .inr (.inr (.inr (.inr (va_up f iN (some (u 0)))))))) :: flt X.1.2.1 S')) (S ++ [(ks, ls1, u)]) k n) : cn_T X nL pc lv (.ref (u 0) :: .int i :: .ref q :: st) h0 c fs (fun S' => flt X.1.2.1 S1 ++ ((q, .inl (X.1.2.1 t, n0, .inr (.inr (.inr (.inr f))))) :: flt X.1.2.1 S')) (S ++ [(ks, ls1, u)]) k n := by
  obtain ⟨⟨l, cy, D, zK, zV⟩, p, e, R, s, m, args, below, meth, c0, Q, A⟩ := X
  obtain ⟨hx, hb, hml, hown, hts, hK, rfl, hN, hin, hA⟩ := C
  intro H locs ls hP hD hS hl
  have m1 : (u 0, (Sum.inr (ci, (List.range (sg_N ci)).map (sg_fv (mkY ks ls1) u (M0 ks) 0)) : va_E)) ∈ (h0, (Sum.inr (c, fs) : va_E)) :: (flt cy S1 ++ ((q, .inl (cy t, n0, .inr (.inr (.inr (.inr f))))) :: flt cy (S ++ [(ks, ls1, u)]))) := by
    refine List.mem_cons_of_mem _ (List.mem_append_right _ (List.mem_cons_of_mem _ ?_))
    rw [← flt_app]
    refine List.mem_append_right _ (List.mem_of_getElem? (i := 0) ?_)
    have := sg_at (Y := mkY ks ls1) (ad := u) (cy := cy) (M := M0 ks) (j := 0) hkl
    rw [sg_Eo (show (mkY ks ls1).2.1 0 = ci from hk0) h12] at this
    exact this
  obtain ⟨qk, hqk⟩ := List.getElem?_of_mem m1
  have ha : ((h0, (Sum.inr (c, fs) : va_E)) :: (flt cy S1 ++ ((q, .inl (cy t, n0, .inr (.inr (.inr (.inr f))))) :: flt cy (S ++ [(ks, ls1, u)]))))[(flt cy S1).length + 1]? = some (q, .inl (cy t, n0, .inr (.inr (.inr (.inr f))))) := by
    rw [List.getElem?_cons_succ, List.getElem?_append_right (Nat.le_refl _), Nat.sub_self]
    rfl
  have hs : ∀ z : Nat × va_E, ((h0, (Sum.inr (c, fs) : va_E)) :: (flt cy S1 ++ ((q, .inl (cy t, n0, .inr (.inr (.inr (.inr f))))) :: flt cy (S ++ [(ks, ls1, u)])))).set ((flt cy S1).length + 1) z = (h0, (Sum.inr (c, fs) : va_E)) :: (flt cy S1 ++ (z :: flt cy (S ++ [(ks, ls1, u)]))) := fun z => by
    rw [List.set_cons_succ, List.set_append_right _ _ (Nat.le_refl _), Nat.sub_self]
    rfl
  subst hiN
  refine va_astq hx hb hK hP hD hS ((flt cy S1).length + 1) i0 qk ci ha (hi0 cy) hqk hc hin9 hdg (fun H1 locs1 hP1 hD1 hS1 => ?_)
  rw [hs] at hP1 hD1
  exact kk H1 locs1 ls hP1 hD1 hS1 hl
theorem k_ist (C : cn_C X cc own nL d mc ms) {z : Fin 4} {i : Nat} {x : Int32} {lv' : List (Nat × Value)} (hi : (z : Nat) = i) (hn : i < nL) (hlv : (i, Value.int x) :: lv.filter (fun q => !(q.1 == i) && !(q.1 + 1 == i && q.2.category == 2)) = lv') (hdg : decode cc pc = .ok (.istore_n z, 1)) (kk : cn_T X nL (pc + 1) lv' st h0 c fs F S k n) : cn_T X nL pc lv (.int x :: st) h0 c fs F S k n := by
  obtain ⟨⟨l, cy, D, zK, zV⟩, p, e, R, s, m, args, below, meth, c0, Q, A⟩ := X
  intro H locs ls hP hD hS hl
  exact lv_istore_n C.1 C.2.1 hdg hi hl hn hlv (fun ls' hl' => kk H locs ls' hP hD hS hl')
theorem k_ild (C : cn_C X cc own nL d mc ms) {z : Fin 4} {i : Nat} {x : Int32} (j : Nat) (hi : (z : Nat) = i) (hj : lv[j]? = some (i, .int x)) (hdg : decode cc pc = .ok (.iload_n z, 1)) (kk : cn_T X nL (pc + 1) lv (.int x :: st) h0 c fs F S k n) : cn_T X nL pc lv st h0 c fs F S k n := by
  obtain ⟨⟨l, cy, D, zK, zV⟩, p, e, R, s, m, args, below, meth, c0, Q, A⟩ := X
  intro H locs ls hP hD hS hl
  exact lv_iload_n C.1 C.2.1 hdg hi (lv_at hl j hj) (kk H locs ls hP hD hS hl)
theorem k_inc (C : cn_C X cc own nL d mc ms) {i : Nat} {z : Int} {x v : Int32} {lv' : List (Nat × Value)} (j : Nat) (hj : lv[j]? = some (i, .int x)) (hv : x + Int32.ofInt z = v) (hn : i < nL) (hlv : (i, Value.int v) :: lv.filter (fun q => !(q.1 == i) && !(q.1 + 1 == i && q.2.category == 2)) = lv') (hdg : decode cc pc = .ok (.iinc i z, 3)) (kk : cn_T X nL (pc + 3) lv' st h0 c fs F S k n) : cn_T X nL pc lv st h0 c fs F S k n := by
  obtain ⟨⟨l, cy, D, zK, zV⟩, p, e, R, s, m, args, below, meth, c0, Q, A⟩ := X
  intro H locs ls hP hD hS hl
  exact lv_iinc C.1 C.2.1 hdg hl hj hv hn hlv (fun ls' hl' => kk H locs ls' hP hD hS hl')
theorem k_go (C : cn_C X cc own nL d mc ms) {off : Int} {tgt : Nat} (hdg : decode cc pc = .ok (.goto off, 3)) (ht : (pc : Int) + off = (tgt : Int)) (kk : cn_T X nL tgt lv st h0 c fs F S k n) : cn_T X nL pc lv st h0 c fs F S k n := by
  obtain ⟨⟨l, cy, D, zK, zV⟩, p, e, R, s, m, args, below, meth, c0, Q, A⟩ := X
  intro H locs ls hP hD hS hl
  exact lv_goto C.1 C.2.1 hdg ht (kk H locs ls hP hD hS hl)
theorem k_gt1 (C : cn_C X cc own nL d mc ms) {x y : Int32} {off : Int} {tgt : Nat} (h : y < x) (hdg : decode cc pc = .ok (.if_icmp .gt off, 3)) (ht : (pc : Int) + off = (tgt : Int)) (kk : cn_T X nL tgt lv st h0 c fs F S k n) : cn_T X nL pc lv (.int y :: .int x :: st) h0 c fs F S k n := by
  obtain ⟨⟨l, cy, D, zK, zV⟩, p, e, R, s, m, args, below, meth, c0, Q, A⟩ := X
  intro H locs ls hP hD hS hl
  exact lv_icmp_gt C.1 C.2.1 hdg ht (fun _ => kk H locs ls hP hD hS hl) (fun q => absurd h q)
theorem k_gt0 (C : cn_C X cc own nL d mc ms) {x y : Int32} {off : Int} (tgt : Nat) (h : ¬ y < x) (hdg : decode cc pc = .ok (.if_icmp .gt off, 3)) (ht : (pc : Int) + off = (tgt : Int)) (kk : cn_T X nL (pc + 3) lv st h0 c fs F S k n) : cn_T X nL pc lv (.int y :: .int x :: st) h0 c fs F S k n := by
  obtain ⟨⟨l, cy, D, zK, zV⟩, p, e, R, s, m, args, below, meth, c0, Q, A⟩ := X
  intro H locs ls hP hD hS hl
  exact lv_icmp_gt C.1 C.2.1 hdg ht (fun q => absurd q h) (fun _ => kk H locs ls hP hD hS hl)
theorem k_ge1 (C : cn_C X cc own nL d mc ms) {x y : Int32} {off : Int} {tgt : Nat} (h : y ≤ x) (hdg : decode cc pc = .ok (.if_icmp .ge off, 3)) (ht : (pc : Int) + off = (tgt : Int)) (kk : cn_T X nL tgt lv st h0 c fs F S k n) : cn_T X nL pc lv (.int y :: .int x :: st) h0 c fs F S k n := by
  obtain ⟨⟨l, cy, D, zK, zV⟩, p, e, R, s, m, args, below, meth, c0, Q, A⟩ := X
  intro H locs ls hP hD hS hl
  exact lv_icmp_ge C.1 C.2.1 hdg ht (fun _ => kk H locs ls hP hD hS hl) (fun q => absurd h q)
theorem k_ge0 (C : cn_C X cc own nL d mc ms) {x y : Int32} {off : Int} (tgt : Nat) (h : ¬ y ≤ x) (hdg : decode cc pc = .ok (.if_icmp .ge off, 3)) (ht : (pc : Int) + off = (tgt : Int)) (kk : cn_T X nL (pc + 3) lv st h0 c fs F S k n) : cn_T X nL pc lv (.int y :: .int x :: st) h0 c fs F S k n := by
  obtain ⟨⟨l, cy, D, zK, zV⟩, p, e, R, s, m, args, below, meth, c0, Q, A⟩ := X
  intro H locs ls hP hD hS hl
  exact lv_icmp_ge C.1 C.2.1 hdg ht (fun q => absurd q h) (fun _ => kk H locs ls hP hD hS hl)
theorem k_ret {kp lp : List Nat} (C : cn_C X cc own nL d mc ms) (E : cn_E X cc h0 kp lp k n) {sh : List (List Nat × List Nat)} (hs : cn_sh S = sh) (hk : emS kp lp sh 1 = true) (hc : kp.getD 0 99 = c) (h12 : c < 12) (hl : 1 + cn_tot sh = kp.length) (hf : (List.range (sg_N c)).map (sg_fv (mkY kp lp) (adc (([c], [0], fun _ => h0) :: S)) (M0 kp) 0) = fs) (hdg : decode cc pc = .ok (.return_, 1)) : cn_T X nL pc lv [] h0 c fs (flt X.1.2.1) S k n := by
  obtain ⟨⟨l, cy, D, zK, zV⟩, p, e, R, s, m, args, below, meth, c0, Q, A⟩ := X
  intro H locs ls hP hD hS hl9
  obtain ⟨u, h1, h2, h3⟩ := cn_fin hs hk hc h12 hl hf hP hD
  exact E u H locs pc ls h1 h2 h3 hS hdg
theorem k_ret2 {kp lp : List Nat} (C : cn_C X cc own nL d mc ms) (E : cn_E X cc h0 kp lp k n) {ca n0 q o : Nat} {f : Nat → Option Nat} {S1 S2 S3 : List cn_s} {s1 s2 s3 : List (List Nat × List Nat)} (hS2 : S = S2 ++ S3) (hs1 : cn_sh S1 = s1) (hs2 : cn_sh S2 = s2) (hs3 : cn_sh S3 = s3) (ho : 1 + cn_tot s1 = o) (hk1 : emS kp lp s1 1 = true) (hk3 : emS kp lp s3 (o + 1) = true) (hk2 : emS kp lp s2 (o + 1 + cn_tot s3) = true) (hc : kp.getD 0 99 = c) (h12 : c < 12) (hca : kp.getD o 99 = ca) (h16 : 16 ≤ ca) (hn : lp.getD o 0 = n0) (hl : o + 1 + cn_tot s3 + cn_tot s2 = kp.length)
    (hf : (List.range (sg_N c)).map (sg_fv (mkY kp lp) (adc (([c], [0], fun _ => h0) :: (S1 ++ (([ca], [n0], fun _ => q) :: (S3 ++ S2))))) (M0 kp) 0) = fs) (hr : ∀ j, j < n0 → f j = some (adc (([c], [0], fun _ => h0) :: (S1 ++ (([ca], [n0], fun _ => q) :: (S3 ++ S2)))) ((mkY kp lp).2.2.2 o j))) (hdg : decode cc pc = .ok (.return_, 1)) : cn_T X nL pc lv [] h0 c fs (fun S' => flt X.1.2.1 S1 ++ ((q, .inl (X.1.2.1 ca, n0, .inr (.inr (.inr (.inr f))))) :: flt X.1.2.1 S')) S k n := by
  subst hS2
  obtain ⟨⟨l, cy, D, zK, zV⟩, p, e, R, s, m, args, below, meth, c0, Q, A⟩ := X
  intro H locs ls hP hD hS hl9
  have fa : ∀ S T : List cn_s, flt cy (S ++ T) = flt cy S ++ flt cy T := by
    intro S T
    induction S with
    | nil => rfl
    | cons r S ih => show sgw cy r ++ flt cy (S ++ T) = (sgw cy r ++ flt cy S) ++ flt cy T; rw [ih, List.append_assoc]
  have hP : va_P D vwCl ((h0, .inr (c, fs)) :: (flt cy S1 ++ ((q, .inl (cy ca, n0, .inr (.inr (.inr (.inr f))))) :: flt cy (S2 ++ S3)))) H := hP
  have hD : va_D A ((h0, .inr (c, fs)) :: (flt cy S1 ++ ((q, .inl (cy ca, n0, .inr (.inr (.inr (.inr f))))) :: flt cy (S2 ++ S3)))) := hD
  rw [fa] at hP hD
  obtain ⟨u, h1, h2, h3⟩ := cn_fin2 hs1 hs2 hs3 ho hk1 hk3 hk2 hc h12 hca h16 hn hl hf hr hP hD
  exact E u H locs pc ls h1 h2 h3 hS hdg
end CNR
