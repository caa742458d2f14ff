abbrev sg_zv (V : sg_V) (i : Nat) : Nat := V.2.2.2.2 i
section SGS
variable {Y : sg_Y} {ad : Nat → Nat} {X : sg_X} {cc : ByteArray} {own : String} {nL d pc i : Nat} {lv lv9 : List (Nat × Value)} {st stk : List Value} {M : sg_M}
theorem zs_val (C : sg_C Y ad X cc RJ0 nL d) (hi : i < 16) (hdg : decode cc pc = .ok (.getfield 9, 3)) (k : sg_T Y ad X nL (pc + 3) lv (.ref (sg_zv X.1 i) :: st) M) : sg_T Y ad X nL pc lv (.ref (sg_z X.1 i) :: st) M := by
  obtain ⟨⟨l, cy, D, zK, zV⟩, p, e, R, s, m, args, below, meth, c, Q⟩ := X
  obtain ⟨hx, hb, hml, hown, hts, hK, hinj, rfl, hZ, hlk9⟩ := C
  intro H locs ls hP hS hl
  exact vk_getf hx hb ((hZ.1.1 i hi).2.2.1) hS hown (hts _ (sg_w 1962 (by decide +kernel) rfl)) (fun _ h => h) hdg (k H locs ls hP hS hl)
theorem zs_cod (C : sg_C Y ad X cc RJ0 nL d) (hi : i < 16) (hdg : decode cc pc = .ok (.getfield 15, 3)) (k : sg_T Y ad X nL (pc + 3) lv (.int 0 :: st) M) : sg_T Y ad X nL pc lv (.ref (sg_z X.1 i) :: st) M := by
  obtain ⟨⟨l, cy, D, zK, zV⟩, p, e, R, s, m, args, below, meth, c, Q⟩ := X
  obtain ⟨hx, hb, hml, hown, hts, hK, hinj, rfl, hZ, hlk9⟩ := C
  intro H locs ls hP hS hl
  exact vk_getf hx hb ((hZ.1.1 i hi).2.1) hS hown (hts _ (sg_w 1963 (by decide +kernel) rfl)) (fun _ h => h) hdg (k H locs ls hP hS hl)
theorem zs_cs (C : sg_C Y ad X cc RJ0 nL d) (hdg : decode cc pc = .ok (.getstatic 38, 3)) (k : sg_T Y ad X nL (pc + 3) lv (.int 1 :: st) M) : sg_T Y ad X nL pc lv st M := by
  obtain ⟨⟨l, cy, D, zK, zV⟩, p, e, R, s, m, args, below, meth, c, Q⟩ := X
  obtain ⟨hx, hb, hml, hown, hts, hK, hinj, rfl, hZ, hlk9⟩ := C
  intro H locs ls hP hS hl
  exact va_gets hx hb hZ.2.2.1 hS hown (hts _ (sg_w 595 (by decide +kernel) rfl)) (fun _ h => h) hdg (k H locs ls hP hS hl)
theorem zs_fm (C : sg_C Y ad X cc RJ0 nL d) (hdg : decode cc pc = .ok (.getstatic 1053, 3)) (k : ∀ v : Value, v.category = 1 → sg_T Y ad X nL (pc + 3) lv (v :: st) M) : sg_T Y ad X nL pc lv st M := by
  obtain ⟨⟨l, cy, D, zK, zV⟩, p, e, R, s, m, args, below, meth, c, Q⟩ := X
  obtain ⟨hx, hb, hml, hown, hts, hK, hinj, rfl, hZ, hlk9⟩ := C
  intro H locs ls hP hS hl
  rcases hZ.2.2.2 with q | ⟨t, q⟩
  · exact va_gets hx hb q hS hown (hts _ (sg_w 611 (by decide +kernel) rfl)) (fun _ h => h) hdg (k _ rfl H locs ls hP hS hl)
  · exact va_gets hx hb q hS hown (hts _ (sg_w 611 (by decide +kernel) rfl)) (fun _ h => h) hdg (k _ rfl H locs ls hP hS hl)
theorem zs_len (C : sg_C Y ad X cc own nL d) (hi : i < 16) (hdg : decode cc pc = .ok (.arraylength, 1)) (k : sg_T Y ad X nL (pc + 1) lv (.int (Int32.ofNat (sg_len.getD i 0)) :: st) M) : sg_T Y ad X nL pc lv (.ref (sg_zv X.1 i) :: st) M := by
  obtain ⟨⟨l, cy, D, zK, zV⟩, p, e, R, s, m, args, below, meth, c, Q⟩ := X
  obtain ⟨hx, hb, hml, hown, hts, hK, hinj, rfl, hZ, hlk9⟩ := C
  intro H locs ls hP hS hl
  exact va_tlen hx hb ((hZ.1.1 i hi).2.2.2) hS rfl hdg (k H locs ls hP hS hl)
theorem zs_bal (C : sg_C Y ad X cc own nL d) (hi : i < 16) {q : Int32} (hq : sg_ib q (sg_len.getD i 0) = true) (hdg : decode cc pc = .ok (.baload, 1)) (k : sg_T Y ad X nL (pc + 1) lv (.int ((sg_byt.getD i []).getD q.toNatClampNeg 0) :: st) M) : sg_T Y ad X nL pc lv (.int q :: .ref (sg_zv X.1 i) :: st) M := by
  obtain ⟨⟨l, cy, D, zK, zV⟩, p, e, R, s, m, args, below, meth, c, Q⟩ := X
  obtain ⟨hx, hb, hml, hown, hts, hK, hinj, rfl, hZ, hlk9⟩ := C
  intro H locs ls hP hS hl
  exact va_tb hx hb ((hZ.1.1 i hi).2.2.2) hS (sg_ib_in hq) rfl hdg (k H locs ls hP hS hl)
theorem s_nret (C : sg_C Y ad X cc own nL d) {rt : FieldType} {x : Int32} {res : Int32 × sg_M} (E : sg_eI Y ad X cc rt res) (hn : narrow rt (.int x) = .int x) (hdg : decode cc pc = .ok (.ireturn, 1)) (h : some (x, M) = some res) : sg_T Y ad X nL pc lv [.int x] M := by
  cases h
  obtain ⟨⟨l, cy, D, zK, zV⟩, p, e, R, s, m, args, below, meth, c, Q⟩ := X
  intro H locs ls hP hS hl
  exact E hn H locs pc ls hP hS hdg
/-- a call on a String constant -/
theorem zs_vcI (C : sg_C Y ad X cc own nL d) {y : MethodName} {c1 : ByteArray} {maxL n d1 index : Nat} {rt : FieldType} {res : Int32 × sg_M} (As : List Value) (vm : sg_vm y c1 maxL (some rt) n) (hlk : Cond.methodLink own index y ∈ sg_G) (hi : i < 16) (hy : y.cls = "java/lang/String") (hd : d1 + 1 ≤ d) (hn : As.length = n) (hst : stk = As.reverse ++ .ref (sg_z X.1 i) :: st) (hroom : (st.map fun v => v.category).sum ≤ 8) (hdg : decode cc pc = .ok (.invokevirtual index, 3)) (hM : sg_cI Y ad X.1 y c1 maxL rt d1 (.ref (sg_z X.1 i) :: As) M res) (k : sg_T Y ad X nL (pc + 3) lv (.int res.1 :: st) res.2) : sg_T Y ad X nL pc lv stk M := by
  subst hst
  obtain ⟨⟨l, cy, D, zK, zV⟩, p, e, R, s, m, args, below, meth, c, Q⟩ := X
  obtain ⟨hx, hb, hml, hown, hts, hK, hinj, rfl, hZ, hlk9⟩ := C
  intro H locs ls hP hS hl
  refine va_calli (va_runV (As := As) (rest := st) ⟨hx, hb, hml, hown, hts⟩ hM (cwV n hts (sg_goodV vm hlk) rfl rfl rfl ⟨rfl, vm.2.2.2.2.1, vm.2.2.2.2.2.1, vm.2.2.2.2.2.2.1⟩ ⟨hd, by have := vm.2.2.2.2.2.2.2; show 8 + (maxL + 11) + 64 * d1 ≤ 64 * d; omega⟩) ⟨fun a U g mk q => ⟨q.1, sg_Wd.call q.2⟩, by rw [hy]; exact vk_recv hZ.1 hi hS, fun U hU hW => ⟨rfl, by rw [hU]; exact hP, va_K.moved hW.alike hK, by rw [hU]; exact (hZ.kept hS.2.1).warm hW⟩⟩ rfl hn hl.1 rfl (lv_room hroom) hdg ⟨Nat.le_refl _, Nat.le_refl _⟩) hS (fun q _ h => h) (fun q h => h) (fun r9 u t H1 locs1 ht hvm hw hB hz1 hk1 hS1 => ?_)
  obtain ⟨rfl, rfl⟩ := hw
  have hP1 := hB.1
  rw [ht] at hP1
  exact k H1 locs1 ls hP1 hS1 hl
end SGS
theorem ctJ0_coder {Y : sg_Y} {ad : Nat → Nat} {V : sg_V} {M : sg_M} {i : Nat} (hi : sg_inj Y ad) (h : i < 16) : sg_cI Y ad V yJ0_coder_7d493 cJ0_coder_7d493 1 .byte 0 [.ref (sg_z V i)] M (0, M) := sg_bodyI (by decide) hi (Nat.le_of_ble_eq_true rfl) (fun X hX C E => by
  subst hX
  refine zs_cs C dJ0_coder_7d493_0 ?_
  refine s_if_eq C 13 (by decide) dJ0_coder_7d493_3 (show (if (1 : Int32) = 0 then (none : Option (Int32 × sg_M)) else some (0, M)) = some (0, M) from rfl) (fun e _ => absurd e (by decide)) (fun _ h9 => ?_)
  refine i_aload_n C dJ0_coder_7d493_6 0 rfl ?_
  refine zs_cod C h dJ0_coder_7d493_7 ?_
  refine s_goto C 14 (by decide) dJ0_coder_7d493_10 ?_
  exact s_nret C E (by decide) dJ0_coder_7d493_14 h9)
theorem ctJ0_isLatin1 {Y : sg_Y} {ad : Nat → Nat} {V : sg_V} {M : sg_M} {i : Nat} (hi : sg_inj Y ad) (h : i < 16) : sg_cI Y ad V yJ0_isLatin1_aae02 cJ0_isLatin1_aae02 1 .boolean 0 [.ref (sg_z V i)] M (1, M) := sg_bodyI (by decide) hi (Nat.le_of_ble_eq_true rfl) (fun X hX C E => by
  subst hX
  refine zs_cs C dJ0_isLatin1_aae02_0 ?_
  refine s_if_eq C 17 (by decide) dJ0_isLatin1_aae02_3 (show (if (1 : Int32) = 0 then (none : Option (Int32 × sg_M)) else some (1, M)) = some (1, M) from rfl) (fun e _ => absurd e (by decide)) (fun _ h9 => ?_)
  refine i_aload_n C dJ0_isLatin1_aae02_6 0 rfl ?_
  refine zs_cod C h dJ0_isLatin1_aae02_7 ?_
  refine s_if_ne C 17 (by decide) dJ0_isLatin1_aae02_10 (show (if (0 : Int32) = 0 then some (1, M) else (none : Option (Int32 × sg_M))) = some (1, M) from rfl) (fun _ h9 => ?_) (fun e _ => absurd rfl e)
  refine s_iconst C (1 : Int32) dJ0_isLatin1_aae02_13 (by decide) ?_
  refine s_goto C 18 (by decide) dJ0_isLatin1_aae02_14 ?_
  exact s_nret C E (by decide) dJ0_isLatin1_aae02_18 h9)
theorem sg_lenshr : ∀ i, i < 16 → Int32.ofNat (sg_len.getD i 0) >>> ((0 : Int32) &&& 31) = Int32.ofNat (sg_len.getD i 0) := by decide +kernel
theorem ctJ0_length {Y : sg_Y} {ad : Nat → Nat} {V : sg_V} {M : sg_M} {i : Nat} (hi : sg_inj Y ad) (h : i < 16) : sg_cI Y ad V yJ0_length_8abf5 cJ0_length_8abf5 1 .int 1 [.ref (sg_z V i)] M (Int32.ofNat (sg_len.getD i 0), M) := sg_bodyI (by decide) hi (Nat.le_of_ble_eq_true rfl) (fun X hX C E => by
  subst hX
  refine i_aload_n C dJ0_length_8abf5_0 0 rfl ?_
  refine zs_val C h dJ0_length_8abf5_1 ?_
  refine zs_len C h dJ0_length_8abf5_4 ?_
  refine i_aload_n C dJ0_length_8abf5_5 0 rfl ?_
  refine zs_vcI C [] vmJ0_coder_7d493 lkJ0_335 h rfl (by decide) rfl rfl (Nat.le_of_ble_eq_true rfl) dJ0_length_8abf5_6 (ctJ0_coder C.inj h) ?_
  refine s_ishr C dJ0_length_8abf5_9 ?_
  exact s_nret C E rfl dJ0_length_8abf5_10 (by rw [sg_lenshr i h]))
theorem ctJ3_checkIndex {Y : sg_Y} {ad : Nat → Nat} {V : sg_V} {M : sg_M} {k n : Int32} {v : Value} (hi : sg_inj Y ad) (hv : v.category = 1) (h0 : 0 ≤ k.toInt) (h1 : k < n) : ∀ res, some (k, M) = some res → sg_cI Y ad V yJ3_checkIndex_8e157 cJ3_checkIndex_8e157 3 .int 0 [.int k, .int n, v] M res := fun res hr => sg_bodyI (by decide) hi (by cases v <;> first | (exact Nat.le_of_ble_eq_true rfl) | (simp [Value.category] at hv)) (fun X hX C E => by
  subst hX
  refine i_iload_n C dJ3_checkIndex_8e157_0 0 rfl ?_
  refine s_if_lt C 9 (by decide) dJ3_checkIndex_8e157_1 (show (if k < 0 then (none : Option (Int32 × sg_M)) else some (k, M)) = some (k, M) from if_neg (fun q => by have := Int32.lt_iff_toInt_lt.mp q; simp at this; omega)) (fun _ e => by cases e) (fun _ h9 => ?_)
  refine i_iload_n C dJ3_checkIndex_8e157_4 0 rfl ?_
  refine i_iload_n C dJ3_checkIndex_8e157_5 1 rfl ?_
  refine s_icmp_lt C 16 (by decide) dJ3_checkIndex_8e157_6 (show (if k < n then some (k, M) else (none : Option (Int32 × sg_M))) = some (k, M) from if_pos h1) (fun _ h9 => ?_) (fun _ e => by cases e)
  refine i_iload_n C dJ3_checkIndex_8e157_16 0 rfl ?_
  exact s_iret C E dJ3_checkIndex_8e157_17 hr)
theorem ctJ0_checkIndex {Y : sg_Y} {ad : Nat → Nat} {V : sg_V} {M : sg_M} {k n : Int32} (hi : sg_inj Y ad) (h0 : 0 ≤ k.toInt) (h1 : k < n) : ∀ res, some M = some res → sg_cV Y ad V yJ0_checkIndex_df160 cJ0_checkIndex_df160 2 1 [.int k, .int n] M res := fun res hr => sg_bodyV (by decide) hi (Nat.le_of_ble_eq_true rfl) (fun X hX C E => by
  subst hX
  refine i_iload_n C dJ0_checkIndex_df160_0 0 rfl ?_
  refine i_iload_n C dJ0_checkIndex_df160_1 1 rfl ?_
  refine zs_fm C dJ0_checkIndex_df160_2 (fun v hv => ?_)
  refine s_scI C [_, _, v] smJ3_checkIndex_8e157 lkJ0_1059 (by decide) rfl rfl (Nat.le_of_ble_eq_true rfl) dJ0_checkIndex_df160_5 (ctJ3_checkIndex C.inj hv h0 h1) (show sg_b (some (k, M)) (fun _ M1 => some M1) = some res from hr) (fun x M1 h => ?_)
  refine s_pop C dJ0_checkIndex_df160_8 rfl ?_
  exact s_vret C E dJ0_checkIndex_df160_9 h)
theorem sg_chr : ∀ i, i < 16 → ∀ k, k < sg_len.getD i 0 → (((((sg_byt.getD i []).getD k 0) &&& 255).toUInt32 % 65536).toInt32 = (sg_byt.getD i []).getD k 0 ∧ narrow .char (.int ((sg_byt.getD i []).getD k 0)) = .int ((sg_byt.getD i []).getD k 0)) := by decide +kernel
theorem sg_lenlt : ∀ i, i < 16 → sg_len.getD i 0 < 100 := by decide +kernel
theorem sg_iblt {k : Int32} {n : Nat} (h : sg_ib k n = true) (hn : n < 100) : 0 ≤ k.toInt ∧ k < Int32.ofNat n := by
  obtain ⟨h0, h1⟩ := of_decide_eq_true h
  refine ⟨h0, Int32.lt_iff_toInt_lt.mpr ?_⟩
  rw [Int32.toInt_ofNat_of_lt (by omega)]
  exact h1
theorem ctJ1_charAt {Y : sg_Y} {ad : Nat → Nat} {V : sg_V} {M : sg_M} {k : Int32} {i : Nat} (hi : sg_inj Y ad) (h : i < 16) (hk : sg_ib k (sg_len.getD i 0) = true) : ∀ res, some ((sg_byt.getD i []).getD k.toNatClampNeg 0, M) = some res → sg_cI Y ad V yJ1_charAt_3b067 cJ1_charAt_3b067 2 .char 2 [.ref (sg_zv V i), .int k] M res := fun res hr => sg_bodyI (by decide) hi (Nat.le_of_ble_eq_true rfl) (fun X hX C E => by
  subst hX
  have hc := sg_chr i h _ (sg_ib_lt hk)
  refine i_iload_n C dJ1_charAt_3b067_0 1 rfl ?_
  refine i_aload_n C dJ1_charAt_3b067_1 0 rfl ?_
  refine zs_len C h dJ1_charAt_3b067_2 ?_
  refine s_scV C [_, _] smJ0_checkIndex_df160 lkJ1_9 (by decide) rfl rfl (Nat.le_of_ble_eq_true rfl) dJ1_charAt_3b067_3 (ctJ0_checkIndex C.inj (sg_iblt hk (sg_lenlt i h)).1 (sg_iblt hk (sg_lenlt i h)).2) (show sg_bv (some M) (fun M1 => some ((sg_byt.getD i []).getD k.toNatClampNeg 0, M1)) = some res from hr) (fun M1 h9 => ?_)
  refine i_aload_n C dJ1_charAt_3b067_6 0 rfl ?_
  refine i_iload_n C dJ1_charAt_3b067_7 1 rfl ?_
  refine zs_bal C h hk dJ1_charAt_3b067_8 ?_
  refine s_sipush C (255 : Int32) dJ1_charAt_3b067_9 (by decide) ?_
  refine s_iand C dJ1_charAt_3b067_12 ?_
  refine s_i2c C dJ1_charAt_3b067_13 ?_
  rw [hc.1]
  exact s_nret C E hc.2 dJ1_charAt_3b067_14 h9)
theorem ctJ0_charAt {Y : sg_Y} {ad : Nat → Nat} {V : sg_V} {M : sg_M} {k : Int32} {i : Nat} (hi : sg_inj Y ad) (h : i < 16) (hk : sg_ib k (sg_len.getD i 0) = true) : sg_cI Y ad V yJ0_charAt_5068e cJ0_charAt_5068e 2 .char 3 [.ref (sg_z V i), .int k] M ((sg_byt.getD i []).getD k.toNatClampNeg 0, M) := sg_bodyI (by decide) hi (Nat.le_of_ble_eq_true rfl) (fun X hX C E => by
  subst hX
  have hc := sg_chr i h _ (sg_ib_lt hk)
  refine i_aload_n C dJ0_charAt_5068e_0 0 rfl ?_
  refine zs_vcI C [] vmJ0_isLatin1_aae02 lkJ0_492 h rfl (by decide) rfl rfl (Nat.le_of_ble_eq_true rfl) dJ0_charAt_5068e_1 (ctJ0_isLatin1 C.inj h) ?_
  refine s_if_eq C 16 (by decide) dJ0_charAt_5068e_4 (show (if (1 : Int32) = 0 then (none : Option (Int32 × sg_M)) else some ((sg_byt.getD i []).getD k.toNatClampNeg 0, M)) = some _ from rfl) (fun e _ => absurd (show (1 : Int32) = 0 from e) (by decide)) (fun _ h9 => ?_)
  refine i_aload_n C dJ0_charAt_5068e_7 0 rfl ?_
  refine zs_val C h dJ0_charAt_5068e_8 ?_
  refine i_iload_n C dJ0_charAt_5068e_11 1 rfl ?_
  refine s_scI C [_, _] smJ1_charAt_3b067 lkJ0_495 (by decide) rfl rfl (Nat.le_of_ble_eq_true rfl) dJ0_charAt_5068e_12 (ctJ1_charAt C.inj h hk) (K := fun x M1 => some (x, M1)) (show sg_b (some ((sg_byt.getD i []).getD k.toNatClampNeg 0, M)) _ = some _ from rfl) (fun x M1 h8 => ?_)
  cases h8
  exact s_nret C E hc.2 dJ0_charAt_5068e_15 rfl)
section SGT
variable {Y : sg_Y} {ad : Nat → Nat} {X : sg_X} {cc : ByteArray} {own : String} {nL d pc i : Nat} {lv lv9 : List (Nat × Value)} {st stk : List Value} {M : sg_M}
theorem s_strlen (C : sg_C Y ad X cc own nL d) {index : Nat} (hi : i < 16) (hlk : Cond.methodLink own index yJ0_length_8abf5 ∈ sg_G) (hd : 4 ≤ d) (hroom : (st.map fun v => v.category).sum ≤ 8) (hdg : decode cc pc = .ok (.invokevirtual index, 3)) (k : sg_T Y ad X nL (pc + 3) lv (.int (Int32.ofNat (sg_len.getD i 0)) :: st) M) : sg_T Y ad X nL pc lv (.ref (sg_z X.1 i) :: st) M :=
  zs_vcI C [] vmJ0_length_8abf5 hlk hi rfl (by omega) rfl rfl hroom hdg (ctJ0_length C.inj hi) k
theorem s_strat (C : sg_C Y ad X cc own nL d) {β : Type} {A : Option β} {r : β} {index : Nat} {q : Int32} (hi : i < 16) (hlk : Cond.methodLink own index yJ0_charAt_5068e ∈ sg_G) (hd : 4 ≤ d) (hroom : (st.map fun v => v.category).sum ≤ 8) (hdg : decode cc pc = .ok (.invokevirtual index, 3)) (h : (if sg_ib q (sg_len.getD i 0) = true then A else none) = some r) (k : A = some r → sg_T Y ad X nL (pc + 3) lv (.int ((sg_byt.getD i []).getD q.toNatClampNeg 0) :: st) M) : sg_T Y ad X nL pc lv (.int q :: .ref (sg_z X.1 i) :: st) M := by
  obtain ⟨h0, h1⟩ := sg_if h
  exact zs_vcI C [_] vmJ0_charAt_5068e hlk hi rfl (by omega) rfl rfl hroom hdg (ctJ0_charAt C.inj hi h0) (k h1)
end SGT
