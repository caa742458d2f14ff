/-! the law: its loop, its start, the claim -/
section LE
variable {Z : lw_X} {N : Nat}
theorem lw_of : ∀ w, w < 65 → ((33 : Nat) : Int) + ([275, 338, 361, 374, 397, 420, 453, 486, 519, 542, 576, 610, 644, 657, 670, 683, 696, 709, 733, 777, 821, 855, 888, 901, 914, 937, 981, 1014, 1027, 1050, 1084, 1097, 1110, 1143, 1156, 1179, 1192, 1215, 1238, 1272, 1285, 1298, 1321, 1334, 1347, 1370, 1383, 1406, 1440, 1463, 1476, 1489, 1502, 1525, 1558, 1602, 1625, 1658, 1681, 1714, 1727, 1760, 1783, 1806, 1819] : List Int).getD w 0 = ((lw_tg.getD w 0 : Nat) : Int) := by decide +kernel
theorem lw_of2 : ∀ w, w < 65 → (#[275, 338, 361, 374, 397, 420, 453, 486, 519, 542, 576, 610, 644, 657, 670, 683, 696, 709, 733, 777, 821, 855, 888, 901, 914, 937, 981, 1014, 1027, 1050, 1084, 1097, 1110, 1143, 1156, 1179, 1192, 1215, 1238, 1272, 1285, 1298, 1321, 1334, 1347, 1370, 1383, 1406, 1440, 1463, 1476, 1489, 1502, 1525, 1558, 1602, 1625, 1658, 1681, 1714, 1727, 1760, 1783, 1806, 1819] : Array Int)[w]? = some (([275, 338, 361, 374, 397, 420, 453, 486, 519, 542, 576, 610, 644, 657, 670, 683, 696, 709, 733, 777, 821, 855, 888, 901, 914, 937, 981, 1014, 1027, 1050, 1084, 1097, 1110, 1143, 1156, 1179, 1192, 1215, 1238, 1272, 1285, 1298, 1321, 1334, 1347, 1370, 1383, 1406, 1440, 1463, 1476, 1489, 1502, 1525, 1558, 1602, 1625, 1658, 1681, 1714, 1727, 1760, 1783, 1806, 1819] : List Int).getD w 0) := by decide +kernel
theorem L_next (C : lw_C Z) {i : Nat} {Mc Mr : sg_M} (k : lw_T Z 18 (lwv Z (i + 6)) [] Mc Mr) : lw_T Z 1865 (lwv Z i) [] Mc Mr := by
  obtain ⟨⟨l, cy, D, zK, zV⟩, p, e, s, m, below, meth, c, ac, ar, b, L, xs⟩ := Z
  intro H locs ls hPc hPr hS hl
  refine lv_iinc (v := nI (i + 6)) (lv' := lwv ((l, cy, D, zK, zV), p, e, s, m, below, meth, c, ac, ar, b, L, xs) (i + 6)) C.1 C.2.1 dL_law_1865 hl (k := 0) rfl (by rw [show Int32.ofInt 6 = nI 6 by decide, nI_add]) (by decide) rfl (fun ls' hl' => ?_)
  exact lv_goto (tgt := 18) C.1 C.2.1 dL_law_1868 (by decide) (k H locs ls' hPc hPr hS hl')
theorem L_end (C : lw_C Z) {i : Nat} {Mc Mr : sg_M} : lw_T Z 1871 (lwv Z i) [] Mc Mr := by
  refine L_ic (pc := 1871) (v := 1) C dL_law_1871 (by decide) ?_
  obtain ⟨⟨l, cy, D, zK, zV⟩, p, e, s, m, below, meth, c, ac, ar, b, L, xs⟩ := Z
  obtain ⟨hx, hb, hml, hown, hts, hK, hI, hG, hZ, hX, hlk, hret⟩ := C
  intro H locs ls hPc hPr hS hl
  refine va_forget (fun q hq => hS.2.2 q hq) ?_
  refine W.widen (k := 600000) (n := 7302250) (Nat.le_of_ble_eq_true rfl) (Nat.le_of_ble_eq_true rfl) ?_
  exact lw_ret hx hb hret hlk dL_law_1872
theorem sub6 {L : Nat} (hL : L ≤ 3072) : (nI L - 6).toInt = (L : Int) - 6 := by
  rw [Int32.toInt_sub, nI_toInt (by omega), show Int32.toInt 6 = 6 by decide]
  unfold Int.bmod
  dsimp only
  split <;> omega
theorem lw_loop (hN : 1000 ≤ N) (C : lw_C Z) (hL : lw_L Z ≤ 3072) : ∀ (d i : Nat) (Mc Mr : sg_M), lw_L Z ≤ i + d → i ≤ lw_L Z + 6 → CR Mc Mr → lw_T Z 18 (lwv Z i) [] Mc Mr := by
  intro d
  induction d with
  | zero => ?_
  | succ d ih => ?_
  all_goals
    intro i Mc Mr hd hi hCR
    refine L_il (pc := 18) C 0 rfl rfl dL_law_18 ?_
    refine L_al (pc := 19) C 3 rfl rfl dL_law_19 ?_
    refine L_len (pc := 20) C dL_law_20 ?_
    refine L_bi (pc := 21) (v := 6) C dL_law_21 (by decide) ?_
    refine L_sub (pc := 23) C dL_law_23 ?_
    have key : (nI (lw_L Z) - 6 < nI i → lw_T Z 1871 (lwv Z i) [] Mc Mr) → (¬ nI (lw_L Z) - 6 < nI i → lw_T Z 27 (lwv Z i) [] Mc Mr) → lw_T Z 24 (lwv Z i) [.int (nI (lw_L Z) - 6), .int (nI i)] Mc Mr := by
      obtain ⟨⟨l, cy, D, zK, zV⟩, p, e, s, m, below, meth, c, ac, ar, b, L, xs⟩ := Z
      intro k1 k2 H locs ls hPc hPr hS hl
      exact lv_icmp_gt (tgt := 1871) C.1 C.2.1 dL_law_24 (by decide) (fun h => k1 h H locs ls hPc hPr hS hl) (fun h => k2 h H locs ls hPc hPr hS hl)
    refine key (fun _ => L_end C) (fun h => ?_)
    have h6 : i + 6 ≤ lw_L Z := by
      rw [Int32.lt_iff_toInt_lt, sub6 hL, nI_toInt (by omega)] at h
      omega
    first
    | (exfalso; omega)
    | (refine L_al (pc := 27) C 3 rfl rfl dL_law_27 ?_
       refine L_il (pc := 28) C 0 rfl rfl dL_law_28 ?_
       refine L_ld (pc := 29) C (by omega) dL_law_29 ?_
       refine L_bi (pc := 30) (v := 127) C dL_law_30 (by decide) ?_
       refine L_and (pc := 32) C dL_law_32 ?_
       obtain ⟨w, hw, ew⟩ := and127 (lw_s Z i)
       rw [ew]
       have nx : ∀ Mc Mr, CR Mc Mr → lw_T Z 1865 (lwv Z i) [] Mc Mr := fun Mc Mr h => L_next C (ih (i + 6) Mc Mr (by omega) (by omega) h)
       by_cases q : w < 65
       · have hc := cs_all C hN h6 hCR nx w q
         generalize hb9 : lw_tg.getD w 0 = tg at hc
         have ht := lw_of w q
         rw [hb9] at ht
         obtain ⟨⟨l, cy, D, zK, zV⟩, p, e, s, m, below, meth, c, ac, ar, b, L, xs⟩ := Z
         intro H locs ls hPc hPr hS hl
         exact lv_tableIn (tgt := tg) C.1 C.2.1 dL_law_33 (by rw [nI_toInt (by omega)]; omega) (by rw [nI_toInt (by omega)]; omega) (by rw [nI_toInt (by omega), show (((w : Nat) : Int) - 0).toNat = w by omega]; exact lw_of2 w q) ht (hc H locs ls hPc hPr hS hl)
       · have hc := nx Mc Mr hCR
         obtain ⟨⟨l, cy, D, zK, zV⟩, p, e, s, m, below, meth, c, ac, ar, b, L, xs⟩ := Z
         intro H locs ls hPc hPr hS hl
         exact lv_tableOut (tgt := 1865) C.1 C.2.1 dL_law_33 (by rw [nI_toInt (by omega)]; omega) (by decide) (hc H locs ls hPc hPr hS hl))
end LE
/-- an object more, made in the law -/
theorem lw_obj {p : Program} {l : Launch} {e : Env} {s : State} {m : MethodId} {below : List Frame} {meth : Method} {c0 : Code} {b : Nat} {H : Heap} {locs : List Loc} {k n : Nat} {Q : State → Prop} {cy : Nat → ClassId} {D : va_G} {zK zV : Nat → Nat} {ws : va_W} {pc : Nat} {ls : Array Slot} {st : List Value} {lv9 : List (Nat × Value)} (hx : p.tables.exec = Jvm.exec) (hb : c0.code = code) (hml : c0.maxLocals = 4) (hown : s.vm.findClass RL = some m.cls) (hts : ∀ w ∈ sg_G, w.before #[Value.ref b] s = true) (hK : va_K D vwCl (sg_tys cy) s) (hN : cn_N s) {ci N index i2 d1 mc1 ms1 maxL : Nat} {cn : String} {T : u_T} {y : MethodName} {c1 : ByteArray} {ks ls1 : List Nat} (hM : cn_ct (l, cy, D, zK, zV) y c1 maxL ci d1 mc1 ms1 ks ls1) (hin9 : ∀ w ∈ u_ws cn T N, w ∈ sg_G) (ty0 : Nat → FieldType) (hty : ∀ k, k < N → parseFieldDescriptor (T k).2.2.1 = some (ty0 k)) (hcl : Cond.classLink RL index cn ∈ sg_G) (hins : Cond.instantiable cn N ∈ sg_G) (hini : Cond.initialized cn ∈ sg_G) (hc : vwCl[ci]? = some (cn, T, N)) (hfs : ∀ j, j < N → defaultValue (ty0 j) = vp_V (dfl ci) j) (hyc : y.cls = cn) (hlk : Cond.methodLink RL i2 y ∈ sg_G) (hcode : Cond.code y c1 maxL none ∈ sg_G) (hinst : Cond.instanceMethod y ∈ sg_G) (hy : y.name = "<init>") (hy2 : y.cls ≠ "java/lang/invoke/MethodHandle" ∧ y.cls ≠ "java/lang/invoke/VarHandle" ∧ (parseMethodDescriptor y.desc).map (fun d => d.parameters.length) = some 0) (hmax : maxL ≤ 45) (hd : d1 ≤ 1000) (hkc : k + 1 + mc1 ≤ 600000) (hns : n + N + ms1 ≤ 7302250) (hroom : (st.map fun v => v.category).sum ≤ 7) (hd1 : decode code pc = .ok (.new index, 3)) (hd2 : decode code (pc + 3) = .ok (.dup, 1)) (hd3 : decode code (pc + 4) = .ok (.invokespecial i2, 3))
    (hP : va_P D vwCl ws H) (hD : va_D (fun q => s.heap.size ≤ q) ws) (hS : va_S (fun q => s.heap.size ≤ q) s.heap H locs) (hl : lv_has ls 4 lv9)
    (kk : ∀ (u : Nat → Nat) (H1 : Heap) (locs1 : List Loc), va_P D vwCl (ws ++ sgw cy (ks, ls1, u)) H1 → va_D (fun q => s.heap.size ≤ q) (ws ++ sgw cy (ks, ls1, u)) → va_S (fun q => s.heap.size ≤ q) s.heap H1 locs1 → W p l e room_1 s m #[Value.ref b] below meth c0 H1 locs1 (k + 1 + mc1) (n + N + ms1) Q (F0 m (pc + 7) ls (.ref (u 0) :: st))) : W p l e room_1 s m #[Value.ref b] below meth c0 H locs k n Q (F0 m pc ls st) := by
  have hA : ∀ q, s.heap.size ≤ q → (fun q => s.heap.size ≤ q) q := fun q h => h
  refine va_new (ci := ci) (fs := dfl ci) (C := cn) (T := T) (N := N) hx hb hts hin9 ty0 hty hown (hts _ hcl) (hts _ hins) (hts _ hini) hK hP hD hS hA hc hfs (by show k + 1 ≤ 600000; omega) (by show n + N ≤ 7302250; omega) hd1 (fun q H hP hD hS => ?_)
  refine lv_dup hx hb hd2 rfl ?_
  have hPc := cn_lastP hP
  have hPi := cn_initP hP
  have hDi := cn_initD hD
  obtain ⟨hAq, hne⟩ := cn_lastD hD
  have hFc : ∀ x, va_A [(q, (Sum.inr (ci, dfl ci) : va_E))] H.size x → s.heap.size ≤ x := by
    intro x hx9
    rcases hx9 with ⟨j, z, hz⟩ | hz
    · have hj : j < 1 := (List.getElem?_eq_some_iff.mp hz).1
      obtain rfl : j = 0 := by omega
      cases hz
      exact hAq
    · exact Nat.le_trans hS.1 hz
  have hno : ∀ (j : Nat) (z : Nat × va_E), ws[j]? = some z → ¬ va_A [(q, (Sum.inr (ci, dfl ci) : va_E))] H.size z.1 := by
    intro j z hz hA9
    rcases hA9 with ⟨i, w, hw⟩ | hw
    · have hi : i < 1 := (List.getElem?_eq_some_iff.mp hw).1
      obtain rfl : i = 0 := by omega
      have hw := Option.some.inj hw
      exact hne j z hz (congrArg Prod.fst hw).symm
    · have := (hPi j z hz).lt
      omega
  refine va_callv (va_runI (As := []) (rest := .ref q :: st) ⟨hx, hb, hml, hown, hts⟩ (hM q H.size) (cwI 0 hts (sg_good hcode) rfl rfl rfl (hts _ (by rw [hyc]; exact hini)) (hts _ hlk) (hts _ hinst) hy hy2 ⟨by show d1 + 1 ≤ 2048; omega, by show 8 + (maxL + 11) + 64 * d1 ≤ 84000; omega⟩) ⟨fun a U g mk h => ⟨h.1, h.2.1, h.2.2.1, va_K.moved (u := U) (U := U.calling g mk a) (Vm.Alike.refl U.vm) h.2.2.2.1, cn_N.same rfl h.2.2.2.2⟩, fun U hU hW => ⟨rfl, by rw [hU], by rw [hU]; exact hPc, va_K.moved hW.alike hK, hN.warm hW⟩⟩ rfl rfl hl.1 rfl (lv_room (by show 1 + (st.map fun v => v.category).sum ≤ 8; omega)) hd3 ⟨hkc, hns⟩) hS (fun x _ h => hFc x h) hFc (fun u t H1 locs1 ht hvm hu hB hz1 hk1 hS1 => ?_)
  obtain ⟨hB1, hB2⟩ := hB
  rw [ht] at hB1
  have hP1 := (hPi.kept (H1 := H1) (fun j z hz => hk1 z.1 ((hPi j z hz).lt) (hno j z hz))).app hB1
  have hD1 := cn_Dapp hDi hB2 hFc hno
  have key := kk u H1 locs1 hP1 hD1 hS1
  rw [hu] at key
  exact key
theorem lw_YC : mkY sg_kc sg_lc = Yc := by
  have h : sg_kc.length = 267 := by decide +kernel
  show ((sg_kc.length, fun j => sg_kc.getD j 99, fun j => sg_lc.getD j 0, fun j k => if sg_kc.getD j 99 < 12 then j + (sg_oc.getD (sg_kc.getD j 99) []).getD k 0 else if sg_kc.getD j 99 = 16 then j + 1 + 10 * k else j + 1 + k) : sg_Y) = _
  rw [h]
  rfl
theorem sgw_c (cy : Nat → ClassId) (u : Nat → Nat) : sgw cy (sg_kc, sg_lc, u) = sg_W Yc u cy (M0 sg_kc) := by
  show sg_W (mkY sg_kc sg_lc) u cy (M0 sg_kc) = _
  rw [lw_YC]
theorem lw_YR : mkY sg_kr sg_lr = Yr := by
  have h : sg_kr.length = 18 := by decide +kernel
  show ((sg_kr.length, fun j => sg_kr.getD j 99, fun j => sg_lr.getD j 0, fun j k => if sg_kr.getD j 99 < 12 then j + (sg_oc.getD (sg_kr.getD j 99) []).getD k 0 else if sg_kr.getD j 99 = 16 then j + 1 + 10 * k else j + 1 + k) : sg_Y) = _
  rw [h]
  rfl
theorem sgw_r (cy : Nat → ClassId) (u : Nat → Nat) : sgw cy (sg_kr, sg_lr, u) = sg_W Yr u cy (M0 sg_kr) := by
  show sg_W (mkY sg_kr sg_lr) u cy (M0 sg_kr) = _
  rw [lw_YR]
theorem lw_injD {A : Nat → Prop} {Y : sg_Y} {ad : Nat → Nat} {cy : Nat → ClassId} {M : sg_M} (h : va_D A (sg_W Y ad cy M)) : sg_inj Y ad ∧ ∀ j, j < Y.1 → A (ad j) := ⟨fun i j hi hj e => h.1 i j _ _ (sg_at hi) (sg_at hj) e, fun j hj => h.2 j _ (sg_at hj)⟩
theorem lw_exD {A : Nat → Prop} {Y1 Y2 : sg_Y} {a1 a2 : Nat → Nat} {cy : Nat → ClassId} {M1 M2 : sg_M} (h : va_D A (sg_W Y1 a1 cy M1 ++ sg_W Y2 a2 cy M2)) : va_D A (sg_W Y1 a1 cy M1) ∧ va_D A (sg_W Y2 a2 cy M2) ∧ ∀ i j, i < Y1.1 → j < Y2.1 → a1 i ≠ a2 j := by
  have l1 : (sg_W Y1 a1 cy M1).length = Y1.1 := by unfold sg_W; rw [List.length_map, List.length_range]
  have g1 : ∀ (i : Nat) (x : Nat × va_E), (sg_W Y1 a1 cy M1)[i]? = some x → (sg_W Y1 a1 cy M1 ++ sg_W Y2 a2 cy M2)[i]? = some x := fun i x hx => by rw [List.getElem?_append_left (List.getElem?_eq_some_iff.mp hx).1]; exact hx
  have g2 : ∀ (i : Nat) (x : Nat × va_E), (sg_W Y2 a2 cy M2)[i]? = some x → (sg_W Y1 a1 cy M1 ++ sg_W Y2 a2 cy M2)[Y1.1 + i]? = some x := fun i x hx => by rw [List.getElem?_append_right (by omega), l1, show Y1.1 + i - Y1.1 = i by omega]; exact hx
  refine ⟨⟨fun i j p q hi hj e => h.1 i j p q (g1 i p hi) (g1 j q hj) e, fun k q hk => h.2 k q (g1 k q hk)⟩, ⟨fun i j p q hi hj e => ?_, fun k q hk => h.2 _ q (g2 k q hk)⟩, fun i j hi hj e => ?_⟩
  · have := h.1 _ _ p q (g2 i p hi) (g2 j q hj) e
    omega
  · have := h.1 _ _ _ _ (g1 i _ (sg_at hi)) (g2 j _ (sg_at hj)) e
    omega
