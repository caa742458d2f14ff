/-! the law: rows of its walk -/
abbrev lw_X : Type := sg_V × Program × Env × State × MethodId × List Frame × Method × Code × (Nat → Nat) × (Nat → Nat) × Nat × Nat × (Nat → Int32)
abbrev lw_ac (Z : lw_X) : Nat → Nat := Z.2.2.2.2.2.2.2.2.1
abbrev lw_ar (Z : lw_X) : Nat → Nat := Z.2.2.2.2.2.2.2.2.2.1
abbrev lw_b (Z : lw_X) : Nat := Z.2.2.2.2.2.2.2.2.2.2.1
abbrev lw_L (Z : lw_X) : Nat := Z.2.2.2.2.2.2.2.2.2.2.2.1
abbrev lw_s (Z : lw_X) : Nat → Int32 := Z.2.2.2.2.2.2.2.2.2.2.2.2
def lw_C (Z : lw_X) : Prop := match Z with
  | ((_, cy, D, zK, zV), p, _, s, m, _, meth, c, ac, ar, b, L, xs) => p.tables.exec = Jvm.exec ∧ c.code = code ∧ c.maxLocals = 4 ∧ s.vm.findClass RL = some m.cls ∧ (∀ w ∈ sg_G, w.before #[Value.ref b] s = true) ∧ va_K D vwCl (sg_tys cy) s ∧ (sg_inj Yc ac ∧ sg_inj Yr ar) ∧ ((∀ j, j < Yc.1 → s.heap.size ≤ ac j) ∧ (∀ j, j < Yr.1 → s.heap.size ≤ ar j) ∧ ∀ i j, i < Yc.1 → j < Yr.1 → ac i ≠ ar j) ∧ sg_Str (fun q => s.heap.size ≤ q) zK zV s s.heap ∧ (va_X b L xs s s.heap ∧ b < s.heap.size ∧ L ≤ 3072) ∧ meth.locks = false ∧ meth.sig.returnType = ret
def lw_T (Z : lw_X) (pc : Nat) (lv : List (Nat × Value)) (st : List Value) (Mc Mr : sg_M) : Prop := match Z with
  | ((l, cy, D, _, _), p, e, s, m, below, meth, c, ac, ar, b, _, _) => ∀ (H : Heap) (locs : List Loc) (ls : Array Slot), va_P D vwCl (sg_W Yc ac cy Mc) H → va_P D vwCl (sg_W Yr ar cy Mr) H → va_S (fun q => s.heap.size ≤ q) s.heap H locs → lv_has ls 4 lv → W p l e room_1 s m #[Value.ref b] below meth c H locs 285 8100 (lw_Z below #[Value.ref b] s) (F0 m pc ls st)
/-- the law's locals -/
abbrev lwv (Z : lw_X) (i : Nat) : List (Nat × Value) := [(3, .int (nI i)), (2, .ref (lw_ar Z 0)), (1, .ref (lw_ac Z 0)), (0, .ref (lw_b Z))]
theorem K0 : sg_K Yc 0 10 := ⟨by decide, by decide⟩
theorem Kr0 : sg_K Yr 0 11 := ⟨by decide, by decide⟩
theorem and127 (x : Int32) : ∃ v, v < 128 ∧ x &&& 127 = nI v := by
  refine ⟨(x &&& 127).toBitVec.toNat, ?_, ?_⟩
  · rw [Int32.toBitVec_and, BitVec.toNat_and]
    exact Nat.lt_of_le_of_lt Nat.and_le_right (by decide)
  · apply Int32.toBitVec_inj.mp
    show _ = BitVec.ofNat 32 _
    rw [BitVec.ofNat_toNat, BitVec.setWidth_eq]
section LW
variable {Z : lw_X} {pc : Nat} {lv : List (Nat × Value)} {st stk : List Value} {Mc Mr : sg_M}
theorem lw_inj (C : lw_C Z) : sg_inj Yc (lw_ac Z) ∧ sg_inj Yr (lw_ar Z) := by
  obtain ⟨⟨l, cy, D, zK, zV⟩, p, e, s, m, below, meth, c, ac, ar, b, L, xs⟩ := Z
  exact C.2.2.2.2.2.2.1
theorem L_al (C : lw_C Z) {z : Fin 4} {i q : Nat} (j : Nat) (hi : (z : Nat) = i) (hj : lv[j]? = some (i, .ref q)) (hdg : decode code pc = .ok (.aload_n z, 1)) (k : lw_T Z (pc + 1) lv (.ref q :: st) Mc Mr) : lw_T Z pc lv st Mc Mr := by
  obtain ⟨⟨l, cy, D, zK, zV⟩, p, e, s, m, below, meth, c, ac, ar, b, L, xs⟩ := Z
  intro H locs ls hPc hPr hS hl
  exact lv_aload_n C.1 C.2.1 hdg hi (lv_at hl j hj) (k H locs ls hPc hPr hS hl)
theorem L_il (C : lw_C Z) {z : Fin 4} {i : Nat} {x : Int32} (j : Nat) (hi : (z : Nat) = i) (hj : lv[j]? = some (i, .int x)) (hdg : decode code pc = .ok (.iload_n z, 1)) (k : lw_T Z (pc + 1) lv (.int x :: st) Mc Mr) : lw_T Z pc lv st Mc Mr := by
  obtain ⟨⟨l, cy, D, zK, zV⟩, p, e, s, m, below, meth, c, ac, ar, b, L, xs⟩ := Z
  intro H locs ls hPc hPr hS hl
  exact lv_iload_n C.1 C.2.1 hdg hi (lv_at hl j hj) (k H locs ls hPc hPr hS hl)
theorem L_ic (C : lw_C Z) {z : Int} {v : Int32} (hdg : decode code pc = .ok (.iconst z, 1)) (hv : Int32.ofInt z = v) (k : lw_T Z (pc + 1) lv (.int v :: st) Mc Mr) : lw_T Z pc lv st Mc Mr := by
  obtain ⟨⟨l, cy, D, zK, zV⟩, p, e, s, m, below, meth, c, ac, ar, b, L, xs⟩ := Z
  intro H locs ls hPc hPr hS hl
  exact lv_iconst C.1 C.2.1 hdg hv (k H locs ls hPc hPr hS hl)
theorem L_bi (C : lw_C Z) {z : Int} {v : Int32} (hdg : decode code pc = .ok (.bipush z, 2)) (hv : (Int8.ofInt z).toInt32 = v) (k : lw_T Z (pc + 2) lv (.int v :: st) Mc Mr) : lw_T Z pc lv st Mc Mr := by
  obtain ⟨⟨l, cy, D, zK, zV⟩, p, e, s, m, below, meth, c, ac, ar, b, L, xs⟩ := Z
  intro H locs ls hPc hPr hS hl
  exact lv_bipush C.1 C.2.1 hdg hv (k H locs ls hPc hPr hS hl)
theorem L_add (C : lw_C Z) {x y : Int32} (hdg : decode code pc = .ok (.iadd, 1)) (k : lw_T Z (pc + 1) lv (.int (x + y) :: st) Mc Mr) : lw_T Z pc lv (.int y :: .int x :: st) Mc Mr := by
  obtain ⟨⟨l, cy, D, zK, zV⟩, p, e, s, m, below, meth, c, ac, ar, b, L, xs⟩ := Z
  intro H locs ls hPc hPr hS hl
  exact lv_iadd C.1 C.2.1 hdg (k H locs ls hPc hPr hS hl)
theorem L_sub (C : lw_C Z) {x y : Int32} (hdg : decode code pc = .ok (.isub, 1)) (k : lw_T Z (pc + 1) lv (.int (x - y) :: st) Mc Mr) : lw_T Z pc lv (.int y :: .int x :: st) Mc Mr := by
  obtain ⟨⟨l, cy, D, zK, zV⟩, p, e, s, m, below, meth, c, ac, ar, b, L, xs⟩ := Z
  intro H locs ls hPc hPr hS hl
  exact lv_isub C.1 C.2.1 hdg (k H locs ls hPc hPr hS hl)
theorem L_and (C : lw_C Z) {x y : Int32} (hdg : decode code pc = .ok (.iand, 1)) (k : lw_T Z (pc + 1) lv (.int (x &&& y) :: st) Mc Mr) : lw_T Z pc lv (.int y :: .int x :: st) Mc Mr := by
  obtain ⟨⟨l, cy, D, zK, zV⟩, p, e, s, m, below, meth, c, ac, ar, b, L, xs⟩ := Z
  intro H locs ls hPc hPr hS hl
  exact lv_iand C.1 C.2.1 hdg (k H locs ls hPc hPr hS hl)
theorem L_ld (C : lw_C Z) {j : Nat} (hj : j < lw_L Z) (hdg : decode code pc = .ok (.iaload, 1)) (k : lw_T Z (pc + 1) lv (.int (lw_s Z j) :: st) Mc Mr) : lw_T Z pc lv (.int (nI j) :: .ref (lw_b Z) :: st) Mc Mr := by
  obtain ⟨⟨l, cy, D, zK, zV⟩, p, e, s, m, below, meth, c, ac, ar, b, L, xs⟩ := Z
  obtain ⟨hx, hb, hml, hown, hts, hK, hI, hG, hZ, ⟨hX, hbl, hL⟩, hlk, hret⟩ := C
  have hj : j < L := hj
  intro H locs ls hPc hPr hS hl
  refine va_sld hx hb hX hbl (by show ¬ s.heap.size ≤ b; omega) hS (sg_ib_in (ib_nI hj (by omega))) hdg ?_
  rw [nI_clamp (by omega)]
  exact k H locs ls hPc hPr hS hl
theorem L_len (C : lw_C Z) (hdg : decode code pc = .ok (.arraylength, 1)) (k : lw_T Z (pc + 1) lv (.int (nI (lw_L Z)) :: st) Mc Mr) : lw_T Z pc lv (.ref (lw_b Z) :: st) Mc Mr := by
  obtain ⟨⟨l, cy, D, zK, zV⟩, p, e, s, m, below, meth, c, ac, ar, b, L, xs⟩ := Z
  obtain ⟨hx, hb, hml, hown, hts, hK, hI, hG, hZ, ⟨hX, hbl, hL⟩, hlk, hret⟩ := C
  intro H locs ls hPc hPr hS hl
  exact va_slen hx hb hX hbl (by show ¬ s.heap.size ≤ b; omega) hS hdg (k H locs ls hPc hPr hS hl)
theorem L_eqI (C : lw_C Z) {x : Int32} {off : Int} {tgt : Nat} (hdg : decode code pc = .ok (.if_icmp .eq off, 3)) (ht : (pc : Int) + off = (tgt : Int)) (k : lw_T Z tgt lv st Mc Mr) : lw_T Z pc lv (.int x :: .int x :: st) Mc Mr := by
  obtain ⟨⟨l, cy, D, zK, zV⟩, p, e, s, m, below, meth, c, ac, ar, b, L, xs⟩ := Z
  intro H locs ls hPc hPr hS hl
  exact lv_icmp_eq C.1 C.2.1 hdg ht (fun _ => k H locs ls hPc hPr hS hl) (fun h => absurd rfl h)
theorem L_eqL (C : lw_C Z) {x : Int64} {off : Int} {tgt : Nat} (hd0 : decode code pc = .ok (.lcmp, 1)) (hdg : decode code (pc + 1) = .ok (.ifCond .eq off, 3)) (ht : ((pc + 1 : Nat) : Int) + off = (tgt : Int)) (k : lw_T Z tgt lv st Mc Mr) : lw_T Z pc lv (.long x :: .long x :: st) Mc Mr := by
  obtain ⟨⟨l, cy, D, zK, zV⟩, p, e, s, m, below, meth, c, ac, ar, b, L, xs⟩ := Z
  intro H locs ls hPc hPr hS hl
  have e0 : lg_cmp x x = 0 := by
    unfold lg_cmp
    rw [if_neg (by rw [gt_iff_lt, Int64.lt_iff_toInt_lt]; omega), if_pos rfl]
  refine W.lcmp C.1 C.2.1 hd0 ?_
  exact lv_if_eq C.1 C.2.1 hdg ht (fun _ => k H locs ls hPc hPr hS hl) (fun h => absurd e0 h)
theorem L_arg (C : lw_C Z) {i : Nat} (j : Nat) {zj : Int} (hi : i + 6 ≤ lw_L Z) (hj : j < 6) (hz : Int32.ofInt zj = nI j) (h1 : decode code pc = .ok (.aload_n 0, 1)) (h2 : decode code (pc + 1) = .ok (.iload_n 3, 1)) (h3 : decode code (pc + 2) = .ok (.iconst zj, 1)) (h4 : decode code (pc + 3) = .ok (.iadd, 1)) (h5 : decode code (pc + 4) = .ok (.iaload, 1)) (k : lw_T Z (pc + 5) (lwv Z i) (.int (lw_s Z (i + j)) :: st) Mc Mr) : lw_T Z pc (lwv Z i) st Mc Mr := by
  refine L_al C 3 rfl rfl h1 ?_
  refine L_il C 0 rfl rfl h2 ?_
  refine L_ic C h3 hz ?_
  refine L_add C h4 ?_
  rw [nI_add]
  exact L_ld C (by omega) h5 k
theorem L_cI (C : lw_C Z) {y : MethodName} {c1 : ByteArray} {maxL n d1 index : Nat} {rt : FieldType} {a : Int32} {M1 : sg_M} (As : List Value) (vm : sg_vm y c1 maxL (some rt) n) (hlk : Cond.methodLink RL index y ∈ sg_G) (hyc : y.cls = RX10) (hn : As.length = n) (hst : stk = As.reverse ++ .ref ((lw_ac Z) 0) :: st) (hroom : (st.map fun v => v.category).sum ≤ 8) (hd : d1 ≤ 1000) (hdg : decode code pc = .ok (.invokevirtual index, 3)) (ct : sg_cI Yc (lw_ac Z) Z.1 y c1 maxL rt d1 (.ref ((lw_ac Z) 0) :: As) Mc (a, M1)) (k : lw_T Z (pc + 3) lv (.int a :: st) M1 Mr) : lw_T Z pc lv stk Mc Mr := by
  subst hst
  obtain ⟨⟨l, cy, D, zK, zV⟩, p, e, s, m, below, meth, c, ac, ar, b, L, xs⟩ := Z
  obtain ⟨hx, hb, hml, hown, hts, hK, ⟨ic, ir⟩, ⟨gc, gr, gx⟩, hZ, hX, hlk9, hret⟩ := C
  intro H locs ls hPc hPr hS hl
  have he := sg_at (Y := Yc) (ad := ac) (cy := cy) (M := Mc) (j := 0) (by decide)
  rw [sg_Eo (show Yc.2.1 0 = 10 by decide) (by decide)] at he
  have hA : ∀ q, sg_A Yc ac q → s.heap.size ≤ q := fun q h => by
    obtain ⟨j, hj, rfl⟩ := h
    exact gc j hj
  refine va_calli (va_runV (As := As) (rest := st) ⟨hx, hb, hml, hown, hts⟩ ct (cwV n hts (sg_goodV vm hlk) rfl rfl rfl ⟨rfl, vm.2.2.2.2.1, vm.2.2.2.2.2.1, vm.2.2.2.2.2.2.1⟩ ⟨by show d1 + 1 ≤ 2048; omega, by have := vm.2.2.2.2.2.2.2; show 8 + (maxL + 11) + 64 * d1 ≤ 84000; omega⟩) ⟨fun a U g mk q => ⟨q.1, sg_Wd.call q.2⟩, by rw [hyc]; exact va_recv hK hPc (ci := 10) rfl he, fun U hU hW => ⟨rfl, by rw [hU]; exact hPc, va_K.moved hW.alike hK, by rw [hU]; exact ((hZ.narrow hA).kept (fun q h1 _ => hS.2.1 q h1 (by omega))).warm hW⟩⟩ rfl hn hl.1 rfl (lv_room hroom) hdg ⟨Nat.le_of_ble_eq_true rfl, Nat.le_of_ble_eq_true rfl⟩) hS (fun q _ h => hA q h) hA (fun r9 u t H1 locs1 ht hvm hw hB hz1 hk1 hS1 => ?_)
  obtain ⟨rfl, rfl⟩ := hw
  have hP1 := hB.1
  rw [ht] at hP1
  have hO : va_P D vwCl (sg_W Yr ar cy Mr) H1 := hPr.kept (fun i q hq => hk1 q.1 ((hPr i q hq).lt) (fun h => by
    obtain ⟨hi, rfl⟩ := sg_atlt hq
    obtain ⟨j, hj, h⟩ := h
    exact gx j i hj hi h.symm))
  exact k H1 locs1 ls hP1 hO hS1 hl
theorem L_cL (C : lw_C Z) {y : MethodName} {c1 : ByteArray} {maxL n d1 index : Nat}  {a : Int64} {M1 : sg_M} (As : List Value) (vm : sg_vm y c1 maxL (some .long) n) (hlk : Cond.methodLink RL index y ∈ sg_G) (hyc : y.cls = RX10) (hn : As.length = n) (hst : stk = As.reverse ++ .ref ((lw_ac Z) 0) :: st) (hroom : (st.map fun v => v.category).sum ≤ 8) (hd : d1 ≤ 1000) (hdg : decode code pc = .ok (.invokevirtual index, 3)) (ct : sg_cL Yc (lw_ac Z) Z.1 y c1 maxL  d1 (.ref ((lw_ac Z) 0) :: As) Mc (a, M1)) (k : lw_T Z (pc + 3) lv (.long a :: st) M1 Mr) : lw_T Z pc lv stk Mc Mr := by
  subst hst
  obtain ⟨⟨l, cy, D, zK, zV⟩, p, e, s, m, below, meth, c, ac, ar, b, L, xs⟩ := Z
  obtain ⟨hx, hb, hml, hown, hts, hK, ⟨ic, ir⟩, ⟨gc, gr, gx⟩, hZ, hX, hlk9, hret⟩ := C
  intro H locs ls hPc hPr hS hl
  have he := sg_at (Y := Yc) (ad := ac) (cy := cy) (M := Mc) (j := 0) (by decide)
  rw [sg_Eo (show Yc.2.1 0 = 10 by decide) (by decide)] at he
  have hA : ∀ q, sg_A Yc ac q → s.heap.size ≤ q := fun q h => by
    obtain ⟨j, hj, rfl⟩ := h
    exact gc j hj
  refine va_calll (va_runV (As := As) (rest := st) ⟨hx, hb, hml, hown, hts⟩ ct (cwV n hts (sg_goodV vm hlk) rfl rfl rfl ⟨rfl, vm.2.2.2.2.1, vm.2.2.2.2.2.1, vm.2.2.2.2.2.2.1⟩ ⟨by show d1 + 1 ≤ 2048; omega, by have := vm.2.2.2.2.2.2.2; show 8 + (maxL + 11) + 64 * d1 ≤ 84000; omega⟩) ⟨fun a U g mk q => ⟨q.1, sg_Wd.call q.2⟩, by rw [hyc]; exact va_recv hK hPc (ci := 10) rfl he, fun U hU hW => ⟨rfl, by rw [hU]; exact hPc, va_K.moved hW.alike hK, by rw [hU]; exact ((hZ.narrow hA).kept (fun q h1 _ => hS.2.1 q h1 (by omega))).warm hW⟩⟩ rfl hn hl.1 rfl (lv_room hroom) hdg ⟨Nat.le_of_ble_eq_true rfl, Nat.le_of_ble_eq_true rfl⟩) hS (fun q _ h => hA q h) hA (fun r9 u t H1 locs1 ht hvm hw hB hz1 hk1 hS1 => ?_)
  obtain ⟨rfl, rfl⟩ := hw
  have hP1 := hB.1
  rw [ht] at hP1
  have hO : va_P D vwCl (sg_W Yr ar cy Mr) H1 := hPr.kept (fun i q hq => hk1 q.1 ((hPr i q hq).lt) (fun h => by
    obtain ⟨hi, rfl⟩ := sg_atlt hq
    obtain ⟨j, hj, h⟩ := h
    exact gx j i hj hi h.symm))
  exact k H1 locs1 ls hP1 hO hS1 hl
theorem L_rI (C : lw_C Z) {y : MethodName} {c1 : ByteArray} {maxL n d1 index : Nat} {rt : FieldType} {a : Int32} {M1 : sg_M} (As : List Value) (vm : sg_vm y c1 maxL (some rt) n) (hlk : Cond.methodLink RL index y ∈ sg_G) (hyc : y.cls = RX11) (hn : As.length = n) (hst : stk = As.reverse ++ .ref ((lw_ar Z) 0) :: st) (hroom : (st.map fun v => v.category).sum ≤ 8) (hd : d1 ≤ 1000) (hdg : decode code pc = .ok (.invokevirtual index, 3)) (ct : sg_cI Yr (lw_ar Z) Z.1 y c1 maxL rt d1 (.ref ((lw_ar Z) 0) :: As) Mr (a, M1)) (k : lw_T Z (pc + 3) lv (.int a :: st) Mc M1) : lw_T Z pc lv stk Mc Mr := by
  subst hst
  obtain ⟨⟨l, cy, D, zK, zV⟩, p, e, s, m, below, meth, c, ac, ar, b, L, xs⟩ := Z
  obtain ⟨hx, hb, hml, hown, hts, hK, ⟨ic, ir⟩, ⟨gc, gr, gx⟩, hZ, hX, hlk9, hret⟩ := C
  intro H locs ls hPc hPr hS hl
  have he := sg_at (Y := Yr) (ad := ar) (cy := cy) (M := Mr) (j := 0) (by decide)
  rw [sg_Eo (show Yr.2.1 0 = 11 by decide) (by decide)] at he
  have hA : ∀ q, sg_A Yr ar q → s.heap.size ≤ q := fun q h => by
    obtain ⟨j, hj, rfl⟩ := h
    exact gr j hj
  refine va_calli (va_runV (As := As) (rest := st) ⟨hx, hb, hml, hown, hts⟩ ct (cwV n hts (sg_goodV vm hlk) rfl rfl rfl ⟨rfl, vm.2.2.2.2.1, vm.2.2.2.2.2.1, vm.2.2.2.2.2.2.1⟩ ⟨by show d1 + 1 ≤ 2048; omega, by have := vm.2.2.2.2.2.2.2; show 8 + (maxL + 11) + 64 * d1 ≤ 84000; omega⟩) ⟨fun a U g mk q => ⟨q.1, sg_Wd.call q.2⟩, by rw [hyc]; exact va_recv hK hPr (ci := 11) rfl he, fun U hU hW => ⟨rfl, by rw [hU]; exact hPr, va_K.moved hW.alike hK, by rw [hU]; exact ((hZ.narrow hA).kept (fun q h1 _ => hS.2.1 q h1 (by omega))).warm hW⟩⟩ rfl hn hl.1 rfl (lv_room hroom) hdg ⟨Nat.le_of_ble_eq_true rfl, Nat.le_of_ble_eq_true rfl⟩) hS (fun q _ h => hA q h) hA (fun r9 u t H1 locs1 ht hvm hw hB hz1 hk1 hS1 => ?_)
  obtain ⟨rfl, rfl⟩ := hw
  have hP1 := hB.1
  rw [ht] at hP1
  have hO : va_P D vwCl (sg_W Yc ac cy Mc) H1 := hPc.kept (fun i q hq => hk1 q.1 ((hPc i q hq).lt) (fun h => by
    obtain ⟨hi, rfl⟩ := sg_atlt hq
    obtain ⟨j, hj, h⟩ := h
    exact gx i j hi hj h))
  exact k H1 locs1 ls hO hP1 hS1 hl
theorem L_rL (C : lw_C Z) {y : MethodName} {c1 : ByteArray} {maxL n d1 index : Nat}  {a : Int64} {M1 : sg_M} (As : List Value) (vm : sg_vm y c1 maxL (some .long) n) (hlk : Cond.methodLink RL index y ∈ sg_G) (hyc : y.cls = RX11) (hn : As.length = n) (hst : stk = As.reverse ++ .ref ((lw_ar Z) 0) :: st) (hroom : (st.map fun v => v.category).sum ≤ 8) (hd : d1 ≤ 1000) (hdg : decode code pc = .ok (.invokevirtual index, 3)) (ct : sg_cL Yr (lw_ar Z) Z.1 y c1 maxL  d1 (.ref ((lw_ar Z) 0) :: As) Mr (a, M1)) (k : lw_T Z (pc + 3) lv (.long a :: st) Mc M1) : lw_T Z pc lv stk Mc Mr := by
  subst hst
  obtain ⟨⟨l, cy, D, zK, zV⟩, p, e, s, m, below, meth, c, ac, ar, b, L, xs⟩ := Z
  obtain ⟨hx, hb, hml, hown, hts, hK, ⟨ic, ir⟩, ⟨gc, gr, gx⟩, hZ, hX, hlk9, hret⟩ := C
  intro H locs ls hPc hPr hS hl
  have he := sg_at (Y := Yr) (ad := ar) (cy := cy) (M := Mr) (j := 0) (by decide)
  rw [sg_Eo (show Yr.2.1 0 = 11 by decide) (by decide)] at he
  have hA : ∀ q, sg_A Yr ar q → s.heap.size ≤ q := fun q h => by
    obtain ⟨j, hj, rfl⟩ := h
    exact gr j hj
  refine va_calll (va_runV (As := As) (rest := st) ⟨hx, hb, hml, hown, hts⟩ ct (cwV n hts (sg_goodV vm hlk) rfl rfl rfl ⟨rfl, vm.2.2.2.2.1, vm.2.2.2.2.2.1, vm.2.2.2.2.2.2.1⟩ ⟨by show d1 + 1 ≤ 2048; omega, by have := vm.2.2.2.2.2.2.2; show 8 + (maxL + 11) + 64 * d1 ≤ 84000; omega⟩) ⟨fun a U g mk q => ⟨q.1, sg_Wd.call q.2⟩, by rw [hyc]; exact va_recv hK hPr (ci := 11) rfl he, fun U hU hW => ⟨rfl, by rw [hU]; exact hPr, va_K.moved hW.alike hK, by rw [hU]; exact ((hZ.narrow hA).kept (fun q h1 _ => hS.2.1 q h1 (by omega))).warm hW⟩⟩ rfl hn hl.1 rfl (lv_room hroom) hdg ⟨Nat.le_of_ble_eq_true rfl, Nat.le_of_ble_eq_true rfl⟩) hS (fun q _ h => hA q h) hA (fun r9 u t H1 locs1 ht hvm hw hB hz1 hk1 hS1 => ?_)
  obtain ⟨rfl, rfl⟩ := hw
  have hP1 := hB.1
  rw [ht] at hP1
  have hO : va_P D vwCl (sg_W Yc ac cy Mc) H1 := hPc.kept (fun i q hq => hk1 q.1 ((hPc i q hq).lt) (fun h => by
    obtain ⟨hi, rfl⟩ := sg_atlt hq
    obtain ⟨j, hj, h⟩ := h
    exact gx i j hi hj h))
  exact k H1 locs1 ls hO hP1 hS1 hl
end LW
