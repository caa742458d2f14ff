def bX6_putBytes_3 (N : Nat)  (k3 : (Nat × Int32 × Int32) → sg_M → Option (sg_M)) (s : Nat × Int32 × Int32) (M : sg_M) : Option (sg_M) :=
  if s.2.2 < 0 then (
  some M) else (
  if (700 : Int32) ≤ (M.1 s.1 0) then (
  some M) else (
  if sg_ib (M.1 s.1 0) (Yc.2.2.1 (Yc.2.2.2 s.1 4)) = true then
  sg_m (sg_uI M (Yc.2.2.2 s.1 4) ((M.1 s.1 0)).toNatClampNeg (((s.2.1).toUInt32 >>> ((s.2.2).toUInt32 &&& Int32.toUInt32 31)).toInt32 &&& (255 : Int32))) (fun M1 : sg_M =>
  sg_m (sg_uI M1 s.1 0 ((M1.1 s.1 0) + (1 : Int32))) (fun M2 : sg_M =>
  sg_m (s.2.2 + (-8 : Int32)) (fun x3 : Int32 =>
  k3 (s.1, s.2.1, x3) M2)))
  else none))
def gX6_putBytes_3 (N : Nat)  : (Nat × Int32 × Int32) → sg_M → Option (sg_M) := sg_lp (bX6_putBytes_3 N ) N
set_option maxHeartbeats 4000000 in
set_option maxRecDepth 100000 in
theorem tX6_putBytes_3 {ad : Nat → Nat} {X : sg_X} {N : Nat} {r : sg_M} (C : sg_C Yc ad X cX6_putBytes RX6 3 0) (E : sg_eV Yc ad X cX6_putBytes r)  : ∀ (s : Nat × Int32 × Int32) (M : sg_M), gX6_putBytes_3 N s M = some r → sg_K Yc s.1 6 → sg_T Yc ad X 3 3 [(0, .ref (ad (s.1))), (1, .int (s.2.1)), (2, .int (s.2.2))] [] M := by
  have key : ∀ n : Nat, ∀ (s : Nat × Int32 × Int32) (M : sg_M), sg_lp (bX6_putBytes_3 N) n s M = some r → sg_K Yc s.1 6 → sg_T Yc ad X 3 3 [(0, .ref (ad (s.1))), (1, .int (s.2.1)), (2, .int (s.2.2))] [] M := by
    intro n
    induction n with
    | zero => intro s M h; cases h
    | succ n ih =>
      intro s M h hq0
      have h : bX6_putBytes_3 N (sg_lp (bX6_putBytes_3 N) n) s M = some r := h
      generalize sg_lp (bX6_putBytes_3 N) n = k3 at h ih
      have hk3 := ih
      unfold bX6_putBytes_3 at h
      refine i_iload_n C dX6_putBytes_3 2 rfl ?_
      refine s_if_lt C 49 (by decide) dX6_putBytes_4 h (fun _ h => ?_) (fun _ h => ?_)
      · exact s_vret C E dX6_putBytes_49 h
      · refine i_aload_n C dX6_putBytes_7 0 rfl ?_
        refine gf6_9 C hq0 dX6_putBytes_8 ?_
        refine s_sipush C (700 : Int32) dX6_putBytes_11 (by decide) ?_
        refine s_icmp_ge C 49 (by decide) dX6_putBytes_14 h (fun _ h => ?_) (fun _ h => ?_)
        · exact s_vret C E dX6_putBytes_49 h
        · refine i_aload_n C dX6_putBytes_17 0 rfl ?_
          refine gf6_28 C hq0 dX6_putBytes_18 ?_
          refine i_aload_n C dX6_putBytes_21 0 rfl ?_
          refine gf6_9 C hq0 dX6_putBytes_22 ?_
          refine i_iload_n C dX6_putBytes_25 1 rfl ?_
          refine i_iload_n C dX6_putBytes_26 2 rfl ?_
          refine s_iushr C dX6_putBytes_27 ?_
          refine s_sipush C (255 : Int32) dX6_putBytes_28 (by decide) ?_
          refine s_iand C dX6_putBytes_31 ?_
          refine s_iast C (ky6_4 hq0) dX6_putBytes_32 h (fun h => ?_)
          refine z_gM h (fun M1 h => ?_)
          refine i_aload_n C dX6_putBytes_33 0 rfl ?_
          refine s_dup C dX6_putBytes_34 rfl ?_
          refine gf6_9 C hq0 dX6_putBytes_35 ?_
          refine s_iconst C (1 : Int32) dX6_putBytes_38 (by decide) ?_
          refine s_iadd C dX6_putBytes_39 ?_
          refine pf6_9 C hq0 dX6_putBytes_40 ?_
          refine z_gM h (fun M2 h => ?_)
          refine z_iinc (n := -8) (c9 := (-8 : Int32)) (by decide) h (fun x3 hx h => ?_)
          refine i_iinc (lv9 := [(2, _), (0, _), (1, _)]) C dX6_putBytes_43 2 rfl hx (by decide) rfl ?_
          refine s_goto C 3 (by decide) dX6_putBytes_46 ?_
          exact sg_T.to (hk3 _ _ h hq0) [1, 2, 0] rfl
  exact key N
def fX6_putBytes (N : Nat) (a0_ : Nat) (x1_ : Int32) (M : sg_M) : Option (sg_M) :=
  sg_m (24 : Int32) (fun x4 : Int32 =>
  gX6_putBytes_3 N (a0_, x1_, x4) M)
set_option maxHeartbeats 4000000 in
set_option maxRecDepth 100000 in
theorem tX6_putBytes {ad : Nat → Nat} {X : sg_X} {N : Nat} {r : sg_M} (C : sg_C Yc ad X cX6_putBytes RX6 3 0) (E : sg_eV Yc ad X cX6_putBytes r) : ∀ (a0_ : Nat) (x1_ : Int32) (M : sg_M), sg_K Yc a0_ 6 → fX6_putBytes N a0_ x1_ M = some r → sg_T Yc ad X 3 0 [(0, .ref (ad a0_)), (1, .int x1_)] [] M := by
  intro a0_ x1_ M hq0 h
  unfold fX6_putBytes at h
  refine s_bipush C (24 : Int32) dX6_putBytes_0 (by decide) ?_
  refine z_gi h (fun x4 h => ?_)
  refine i_istore_n (lv9 := [(2, _), (0, _), (1, _)]) C 2 dX6_putBytes_2 rfl (by decide) rfl ?_
  exact sg_T.to (tX6_putBytes_3 C E _ _ h hq0) [1, 2, 0] rfl
theorem ctX6_putBytes {ad : Nat → Nat} {V : sg_V} {N : Nat} (hi : sg_inj Yc ad) {a0_ : Nat} {x1_ : Int32} {M : sg_M} (hq0 : sg_K Yc a0_ 6) : ∀ res, fX6_putBytes N a0_ x1_ M = some res → sg_cV Yc ad V yX6_putBytes cX6_putBytes 3 0 [.ref (ad a0_), .int x1_] M res := fun res h => sg_bodyV (by decide) hi (Nat.le_of_ble_eq_true rfl) (fun X hX C E => by subst hX; exact tX6_putBytes C E _ _  _ hq0 h)
def gX6_kindOf_28 (N : Nat)  (x0_ : Int32) (M : sg_M) : Option (Int32 × sg_M) :=
  if x0_ = (32 : Int32) then (
  some ((4 : Int32), M)) else (
  if x0_ = (10 : Int32) then (
  some ((4 : Int32), M)) else (
  if x0_ = (59 : Int32) then (
  some ((3 : Int32), M)) else (
  some ((5 : Int32), M))))
set_option maxHeartbeats 4000000 in
set_option maxRecDepth 100000 in
theorem tX6_kindOf_28 {ad : Nat → Nat} {X : sg_X} {N : Nat} {r : Int32 × sg_M} (C : sg_C Yc ad X cX6_kindOf RX6 1 0) (E : sg_eI Yc ad X cX6_kindOf .int r)  : ∀ (x0_ : Int32) (M : sg_M), gX6_kindOf_28 N x0_ M = some r → sg_T Yc ad X 1 28 [(0, .int x0_)] [] M := by
  intro x0_ M h 
  unfold gX6_kindOf_28 at h
  refine i_iload_n C dX6_kindOf_28 0 rfl ?_
  refine s_bipush C (32 : Int32) dX6_kindOf_29 (by decide) ?_
  refine s_icmp_eq C 40 (by decide) dX6_kindOf_31 h (fun _ h => ?_) (fun _ h => ?_)
  · refine s_iconst C (4 : Int32) dX6_kindOf_40 (by decide) ?_
    exact s_iret C E dX6_kindOf_41 h
  · refine i_iload_n C dX6_kindOf_34 0 rfl ?_
    refine s_bipush C (10 : Int32) dX6_kindOf_35 (by decide) ?_
    refine s_icmp_ne C 42 (by decide) dX6_kindOf_37 h (fun _ h => ?_) (fun _ h => ?_)
    · refine s_iconst C (4 : Int32) dX6_kindOf_40 (by decide) ?_
      exact s_iret C E dX6_kindOf_41 h
    · refine i_iload_n C dX6_kindOf_42 0 rfl ?_
      refine s_bipush C (59 : Int32) dX6_kindOf_43 (by decide) ?_
      refine s_icmp_ne C 52 (by decide) dX6_kindOf_45 h (fun _ h => ?_) (fun _ h => ?_)
      · refine s_iconst C (3 : Int32) dX6_kindOf_48 (by decide) ?_
        refine s_goto C 53 (by decide) dX6_kindOf_49 ?_
        exact s_iret C E dX6_kindOf_53 h
      · refine s_iconst C (5 : Int32) dX6_kindOf_52 (by decide) ?_
        exact s_iret C E dX6_kindOf_53 h
def gX6_kindOf_14 (N : Nat)  (x0_ : Int32) (M : sg_M) : Option (Int32 × sg_M) :=
  if x0_ < (48 : Int32) then (
  gX6_kindOf_28 N x0_ M) else (
  if (57 : Int32) < x0_ then (
  gX6_kindOf_28 N x0_ M) else (
  some ((2 : Int32), M)))
set_option maxHeartbeats 4000000 in
set_option maxRecDepth 100000 in
theorem tX6_kindOf_14 {ad : Nat → Nat} {X : sg_X} {N : Nat} {r : Int32 × sg_M} (C : sg_C Yc ad X cX6_kindOf RX6 1 0) (E : sg_eI Yc ad X cX6_kindOf .int r)  : ∀ (x0_ : Int32) (M : sg_M), gX6_kindOf_14 N x0_ M = some r → sg_T Yc ad X 1 14 [(0, .int x0_)] [] M := by
  intro x0_ M h 
  unfold gX6_kindOf_14 at h
  refine i_iload_n C dX6_kindOf_14 0 rfl ?_
  refine s_bipush C (48 : Int32) dX6_kindOf_15 (by decide) ?_
  refine s_icmp_lt C 28 (by decide) dX6_kindOf_17 h (fun _ h => ?_) (fun _ h => ?_)
  · exact sg_T.to (tX6_kindOf_28 C E _ _ h ) [0] rfl
  · refine i_iload_n C dX6_kindOf_20 0 rfl ?_
    refine s_bipush C (57 : Int32) dX6_kindOf_21 (by decide) ?_
    refine s_icmp_gt C 28 (by decide) dX6_kindOf_23 h (fun _ h => ?_) (fun _ h => ?_)
    · exact sg_T.to (tX6_kindOf_28 C E _ _ h ) [0] rfl
    · refine s_iconst C (2 : Int32) dX6_kindOf_26 (by decide) ?_
      exact s_iret C E dX6_kindOf_27 h
def fX6_kindOf (N : Nat) (x0_ : Int32) (M : sg_M) : Option (Int32 × sg_M) :=
  if x0_ < (97 : Int32) then (
  gX6_kindOf_14 N x0_ M) else (
  if (122 : Int32) < x0_ then (
  gX6_kindOf_14 N x0_ M) else (
  some ((1 : Int32), M)))
set_option maxHeartbeats 4000000 in
set_option maxRecDepth 100000 in
theorem tX6_kindOf {ad : Nat → Nat} {X : sg_X} {N : Nat} {r : Int32 × sg_M} (C : sg_C Yc ad X cX6_kindOf RX6 1 0) (E : sg_eI Yc ad X cX6_kindOf .int r) : ∀ (x0_ : Int32) (M : sg_M), fX6_kindOf N x0_ M = some r → sg_T Yc ad X 1 0 [(0, .int x0_)] [] M := by
  intro x0_ M  h
  unfold fX6_kindOf at h
  refine i_iload_n C dX6_kindOf_0 0 rfl ?_
  refine s_bipush C (97 : Int32) dX6_kindOf_1 (by decide) ?_
  refine s_icmp_lt C 14 (by decide) dX6_kindOf_3 h (fun _ h => ?_) (fun _ h => ?_)
  · exact sg_T.to (tX6_kindOf_14 C E _ _ h ) [0] rfl
  · refine i_iload_n C dX6_kindOf_6 0 rfl ?_
    refine s_bipush C (122 : Int32) dX6_kindOf_7 (by decide) ?_
    refine s_icmp_gt C 14 (by decide) dX6_kindOf_9 h (fun _ h => ?_) (fun _ h => ?_)
    · exact sg_T.to (tX6_kindOf_14 C E _ _ h ) [0] rfl
    · refine s_iconst C (1 : Int32) dX6_kindOf_12 (by decide) ?_
      exact s_iret C E dX6_kindOf_13 h
theorem ctX6_kindOf {ad : Nat → Nat} {V : sg_V} {N : Nat} (hi : sg_inj Yc ad) {x0_ : Int32} {M : sg_M}  : ∀ res, fX6_kindOf N x0_ M = some res → sg_cI Yc ad V yX6_kindOf cX6_kindOf 1 .int 0 [.int x0_] M res := fun res h => sg_bodyI (by decide) hi (Nat.le_of_ble_eq_true rfl) (fun X hX C E => by subst hX; exact tX6_kindOf C E _  _ h)
def gX6_step_178 (N : Nat) (k96 : (Nat × Int32) → sg_M → Option (sg_M)) (a0_ : Nat) (M : sg_M) : Option (sg_M) :=
  if (M.1 a0_ 0) ≤ (M.1 a0_ 7) then (
  sg_m (0 : Int32) (fun x1 : Int32 =>
  k96 (a0_, x1) M)) else (
  if sg_ib (M.1 a0_ 7) (Yc.2.2.1 (Yc.2.2.2 a0_ 4)) = true then
  sg_b (fX6_kindOf N (M.1 (Yc.2.2.2 a0_ 4) ((M.1 a0_ 7)).toNatClampNeg) M) (fun (x3 : Int32) (M2 : sg_M) =>
  if x3 = (M2.1 a0_ 5) then (
  sg_m (1 : Int32) (fun x4 : Int32 =>
  k96 (a0_, x4) M2)) else (
  sg_m (0 : Int32) (fun x5 : Int32 =>
  k96 (a0_, x5) M2)))
  else none)
set_option maxHeartbeats 4000000 in
set_option maxRecDepth 100000 in
theorem tX6_step_178 {ad : Nat → Nat} {X : sg_X} {N : Nat} {r : sg_M} (C : sg_C Yc ad X cX6_step RX6 2 1) (E : sg_eV Yc ad X cX6_step r) {k96 : (Nat × Int32) → sg_M → Option (sg_M)} (hk96 : ∀ (s : Nat × Int32) (M : sg_M), k96 s M = some r → sg_K Yc s.1 6 → sg_T Yc ad X 2 96 [(0, .ref (ad (s.1))), (1, .int (s.2))] [] M) : ∀ (a0_ : Nat) (M : sg_M), gX6_step_178 N k96 a0_ M = some r → sg_K Yc a0_ 6 → sg_T Yc ad X 2 178 [(0, .ref (ad a0_))] [] M := by
  intro a0_ M h hq0
  unfold gX6_step_178 at h
  refine i_aload_n C dX6_step_178 0 rfl ?_
  refine gf6_38 C hq0 dX6_step_179 ?_
  refine i_aload_n C dX6_step_182 0 rfl ?_
  refine gf6_9 C hq0 dX6_step_183 ?_
  refine s_icmp_ge C 212 (by decide) dX6_step_186 h (fun _ h => ?_) (fun _ h => ?_)
  · refine s_iconst C (0 : Int32) dX6_step_212 (by decide) ?_
    refine z_gi h (fun x1 h => ?_)
    refine i_istore_n (lv9 := [(1, _), (0, _)]) C 1 dX6_step_213 rfl (by decide) rfl ?_
    refine s_goto C 96 (by decide) dX6_step_214 ?_
    exact sg_T.to (hk96 _ _ h hq0) [1, 0] rfl
  · refine i_aload_n C dX6_step_189 0 rfl ?_
    refine gf6_28 C hq0 dX6_step_190 ?_
    refine i_aload_n C dX6_step_193 0 rfl ?_
    refine gf6_38 C hq0 dX6_step_194 ?_
    refine s_iald C (ky6_4 hq0) dX6_step_197 h (fun h => ?_)
    refine s_scI C [_] smX6_kindOf lkX6_169 (by decide) rfl rfl (Nat.le_of_ble_eq_true rfl) dX6_step_198 (ctX6_kindOf C.inj ) h (fun x3 M2 h => ?_)
    refine i_aload_n C dX6_step_201 0 rfl ?_
    refine gf6_32 C hq0 dX6_step_202 ?_
    refine s_icmp_ne C 212 (by decide) dX6_step_205 h (fun _ h => ?_) (fun _ h => ?_)
    · refine s_iconst C (1 : Int32) dX6_step_208 (by decide) ?_
      refine s_goto C 213 (by decide) dX6_step_209 ?_
      refine z_gi h (fun x4 h => ?_)
      refine i_istore_n (lv9 := [(1, _), (0, _)]) C 1 dX6_step_213 rfl (by decide) rfl ?_
      refine s_goto C 96 (by decide) dX6_step_214 ?_
      exact sg_T.to (hk96 _ _ h hq0) [1, 0] rfl
    · refine s_iconst C (0 : Int32) dX6_step_212 (by decide) ?_
      refine z_gi h (fun x5 h => ?_)
      refine i_istore_n (lv9 := [(1, _), (0, _)]) C 1 dX6_step_213 rfl (by decide) rfl ?_
      refine s_goto C 96 (by decide) dX6_step_214 ?_
      exact sg_T.to (hk96 _ _ h hq0) [1, 0] rfl
def gX6_step_152 (N : Nat) (k96 : (Nat × Int32) → sg_M → Option (sg_M)) (a0_ : Nat) (M : sg_M) : Option (sg_M) :=
  sg_m (sg_uI M a0_ 7 ((M.1 a0_ 7) + (1 : Int32))) (fun M6 : sg_M =>
  if (M6.1 a0_ 5) = (1 : Int32) then (
  gX6_step_178 N k96 a0_ M6) else (
  if (M6.1 a0_ 5) = (2 : Int32) then (
  gX6_step_178 N k96 a0_ M6) else (
  sg_m (0 : Int32) (fun x7 : Int32 =>
  k96 (a0_, x7) M6))))
set_option maxHeartbeats 4000000 in
set_option maxRecDepth 100000 in
theorem tX6_step_152 {ad : Nat → Nat} {X : sg_X} {N : Nat} {r : sg_M} (C : sg_C Yc ad X cX6_step RX6 2 1) (E : sg_eV Yc ad X cX6_step r) {k96 : (Nat × Int32) → sg_M → Option (sg_M)} (hk96 : ∀ (s : Nat × Int32) (M : sg_M), k96 s M = some r → sg_K Yc s.1 6 → sg_T Yc ad X 2 96 [(0, .ref (ad (s.1))), (1, .int (s.2))] [] M) : ∀ (a0_ : Nat) (M : sg_M), gX6_step_152 N k96 a0_ M = some r → sg_K Yc a0_ 6 → sg_T Yc ad X 2 152 [(0, .ref (ad a0_))] [] M := by
  intro a0_ M h hq0
  unfold gX6_step_152 at h
  refine i_aload_n C dX6_step_152 0 rfl ?_
  refine s_dup C dX6_step_153 rfl ?_
  refine gf6_38 C hq0 dX6_step_154 ?_
  refine s_iconst C (1 : Int32) dX6_step_157 (by decide) ?_
  refine s_iadd C dX6_step_158 ?_
  refine pf6_38 C hq0 dX6_step_159 ?_
  refine z_gM h (fun M6 h => ?_)
  refine i_aload_n C dX6_step_162 0 rfl ?_
  refine gf6_32 C hq0 dX6_step_163 ?_
  refine s_iconst C (1 : Int32) dX6_step_166 (by decide) ?_
  refine s_icmp_eq C 178 (by decide) dX6_step_167 h (fun _ h => ?_) (fun _ h => ?_)
  · exact sg_T.to (tX6_step_178 C E hk96 _ _ h hq0) [0] rfl
  · refine i_aload_n C dX6_step_170 0 rfl ?_
    refine gf6_32 C hq0 dX6_step_171 ?_
    refine s_iconst C (2 : Int32) dX6_step_174 (by decide) ?_
    refine s_icmp_ne C 212 (by decide) dX6_step_175 h (fun _ h => ?_) (fun _ h => ?_)
    · exact sg_T.to (tX6_step_178 C E hk96 _ _ h hq0) [0] rfl
    · refine s_iconst C (0 : Int32) dX6_step_212 (by decide) ?_
      refine z_gi h (fun x7 h => ?_)
      refine i_istore_n (lv9 := [(1, _), (0, _)]) C 1 dX6_step_213 rfl (by decide) rfl ?_
      refine s_goto C 96 (by decide) dX6_step_214 ?_
      exact sg_T.to (hk96 _ _ h hq0) [1, 0] rfl
def bX6_step_96 (N : Nat)  (k96 : (Nat × Int32) → sg_M → Option (sg_M)) (s : Nat × Int32) (M : sg_M) : Option (sg_M) :=
  if (M.1 s.1 0) ≤ (M.1 s.1 7) then (
  some M) else (
  if s.2 = 0 then (
  some M) else (
  if (M.1 s.1 5) = (2 : Int32) then (
  if (100000 : Int32) ≤ (M.1 s.1 8) then (
  gX6_step_152 N k96 s.1 M) else (
  if sg_ib (M.1 s.1 7) (Yc.2.2.1 (Yc.2.2.2 s.1 4)) = true then
  sg_m (sg_uI M s.1 8 ((((M.1 s.1 8) * (10 : Int32)) + (M.1 (Yc.2.2.2 s.1 4) ((M.1 s.1 7)).toNatClampNeg)) - (48 : Int32))) (fun M8 : sg_M =>
  gX6_step_152 N k96 s.1 M8)
  else none)) else (
  gX6_step_152 N k96 s.1 M)))
def gX6_step_96 (N : Nat)  : (Nat × Int32) → sg_M → Option (sg_M) := sg_lp (bX6_step_96 N ) N
set_option maxHeartbeats 4000000 in
set_option maxRecDepth 100000 in
theorem tX6_step_96 {ad : Nat → Nat} {X : sg_X} {N : Nat} {r : sg_M} (C : sg_C Yc ad X cX6_step RX6 2 1) (E : sg_eV Yc ad X cX6_step r)  : ∀ (s : Nat × Int32) (M : sg_M), gX6_step_96 N s M = some r → sg_K Yc s.1 6 → sg_T Yc ad X 2 96 [(0, .ref (ad (s.1))), (1, .int (s.2))] [] M := by
  have key : ∀ n : Nat, ∀ (s : Nat × Int32) (M : sg_M), sg_lp (bX6_step_96 N) n s M = some r → sg_K Yc s.1 6 → sg_T Yc ad X 2 96 [(0, .ref (ad (s.1))), (1, .int (s.2))] [] M := by
    intro n
    induction n with
    | zero => intro s M h; cases h
    | succ n ih =>
      intro s M h hq0
      have h : bX6_step_96 N (sg_lp (bX6_step_96 N) n) s M = some r := h
      generalize sg_lp (bX6_step_96 N) n = k96 at h ih
      have hk96 := ih
      unfold bX6_step_96 at h
      refine i_aload_n C dX6_step_96 0 rfl ?_
      refine gf6_38 C hq0 dX6_step_97 ?_
      refine i_aload_n C dX6_step_100 0 rfl ?_
      refine gf6_9 C hq0 dX6_step_101 ?_
      refine s_icmp_ge C 217 (by decide) dX6_step_104 h (fun _ h => ?_) (fun _ h => ?_)
      · exact s_vret C E dX6_step_217 h
      · refine i_iload_n C dX6_step_107 1 rfl ?_
        refine s_if_eq C 217 (by decide) dX6_step_108 h (fun _ h => ?_) (fun _ h => ?_)
        · exact s_vret C E dX6_step_217 h
        · refine i_aload_n C dX6_step_111 0 rfl ?_
          refine gf6_32 C hq0 dX6_step_112 ?_
          refine s_iconst C (2 : Int32) dX6_step_115 (by decide) ?_
          refine s_icmp_ne C 152 (by decide) dX6_step_116 h (fun _ h => ?_) (fun _ h => ?_)
          · refine i_aload_n C dX6_step_119 0 rfl ?_
            refine gf6_41 C hq0 dX6_step_120 ?_
            refine s_ldc C (100000 : Int32) kc_X6_173 dX6_step_123 ?_
            refine s_icmp_ge C 152 (by decide) dX6_step_125 h (fun _ h => ?_) (fun _ h => ?_)
            · exact sg_T.to (tX6_step_152 C E hk96 _ _ h hq0) [0] rfl
            · refine i_aload_n C dX6_step_128 0 rfl ?_
              refine i_aload_n C dX6_step_129 0 rfl ?_
              refine gf6_41 C hq0 dX6_step_130 ?_
              refine s_bipush C (10 : Int32) dX6_step_133 (by decide) ?_
              refine s_imul C dX6_step_135 ?_
              refine i_aload_n C dX6_step_136 0 rfl ?_
              refine gf6_28 C hq0 dX6_step_137 ?_
              refine i_aload_n C dX6_step_140 0 rfl ?_
              refine gf6_38 C hq0 dX6_step_141 ?_
              refine s_iald C (ky6_4 hq0) dX6_step_144 h (fun h => ?_)
              refine s_iadd C dX6_step_145 ?_
              refine s_bipush C (48 : Int32) dX6_step_146 (by decide) ?_
              refine s_isub C dX6_step_148 ?_
              refine pf6_41 C hq0 dX6_step_149 ?_
              refine z_gM h (fun M8 h => ?_)
              exact sg_T.to (tX6_step_152 C E hk96 _ _ h hq0) [0] rfl
          · exact sg_T.to (tX6_step_152 C E hk96 _ _ h hq0) [0] rfl
  exact key N
def gX6_step_48 (N : Nat)  (a0_ : Nat) (M : sg_M) : Option (sg_M) :=
  sg_m (sg_uI M a0_ 7 (M.1 a0_ 6)) (fun M9 : sg_M =>
  if (M9.1 a0_ 6) < (M9.1 a0_ 0) then (
  if sg_ib (M9.1 a0_ 6) (Yc.2.2.1 (Yc.2.2.2 a0_ 4)) = true then
  sg_b (fX6_kindOf N (M9.1 (Yc.2.2.2 a0_ 4) ((M9.1 a0_ 6)).toNatClampNeg) M9) (fun (x11 : Int32) (M10 : sg_M) =>
  sg_m (sg_uI M10 a0_ 5 x11) (fun M12 : sg_M =>
  sg_m (sg_uI M12 a0_ 8 (0 : Int32)) (fun M13 : sg_M =>
  sg_m (1 : Int32) (fun x14 : Int32 =>
  gX6_step_96 N (a0_, x14) M13))))
  else none) else (
  sg_m (sg_uI M9 a0_ 5 (0 : Int32)) (fun M15 : sg_M =>
  some M15)))
set_option maxHeartbeats 4000000 in
set_option maxRecDepth 100000 in
theorem tX6_step_48 {ad : Nat → Nat} {X : sg_X} {N : Nat} {r : sg_M} (C : sg_C Yc ad X cX6_step RX6 2 1) (E : sg_eV Yc ad X cX6_step r)  : ∀ (a0_ : Nat) (M : sg_M), gX6_step_48 N a0_ M = some r → sg_K Yc a0_ 6 → sg_T Yc ad X 2 48 [(0, .ref (ad a0_))] [] M := by
  intro a0_ M h hq0
  unfold gX6_step_48 at h
  refine i_aload_n C dX6_step_48 0 rfl ?_
  refine i_aload_n C dX6_step_49 0 rfl ?_
  refine gf6_35 C hq0 dX6_step_50 ?_
  refine pf6_38 C hq0 dX6_step_53 ?_
  refine z_gM h (fun M9 h => ?_)
  refine i_aload_n C dX6_step_56 0 rfl ?_
  refine gf6_35 C hq0 dX6_step_57 ?_
  refine i_aload_n C dX6_step_60 0 rfl ?_
  refine gf6_9 C hq0 dX6_step_61 ?_
  refine s_icmp_lt C 73 (by decide) dX6_step_64 h (fun _ h => ?_) (fun _ h => ?_)
  · refine i_aload_n C dX6_step_73 0 rfl ?_
    refine i_aload_n C dX6_step_74 0 rfl ?_
    refine gf6_28 C hq0 dX6_step_75 ?_
    refine i_aload_n C dX6_step_78 0 rfl ?_
    refine gf6_35 C hq0 dX6_step_79 ?_
    refine s_iald C (ky6_4 hq0) dX6_step_82 h (fun h => ?_)
    refine s_scI C [_] smX6_kindOf lkX6_169 (by decide) rfl rfl (Nat.le_of_ble_eq_true rfl) dX6_step_83 (ctX6_kindOf C.inj ) h (fun x11 M10 h => ?_)
    refine pf6_32 C hq0 dX6_step_86 ?_
    refine z_gM h (fun M12 h => ?_)
    refine i_aload_n C dX6_step_89 0 rfl ?_
    refine s_iconst C (0 : Int32) dX6_step_90 (by decide) ?_
    refine pf6_41 C hq0 dX6_step_91 ?_
    refine z_gM h (fun M13 h => ?_)
    refine s_iconst C (1 : Int32) dX6_step_94 (by decide) ?_
    refine z_gi h (fun x14 h => ?_)
    refine i_istore_n (lv9 := [(1, _), (0, _)]) C 1 dX6_step_95 rfl (by decide) rfl ?_
    exact sg_T.to (tX6_step_96 C E _ _ h hq0) [1, 0] rfl
  · refine i_aload_n C dX6_step_67 0 rfl ?_
    refine s_iconst C (0 : Int32) dX6_step_68 (by decide) ?_
    refine pf6_32 C hq0 dX6_step_69 ?_
    refine z_gM h (fun M15 h => ?_)
    exact s_vret C E dX6_step_72 h
def bX6_step_8 (N : Nat)  (k8 : Nat → sg_M → Option (sg_M)) (s : Nat) (M : sg_M) : Option (sg_M) :=
  if (M.1 s 0) ≤ (M.1 s 6) then (
  gX6_step_48 N s M) else (
  if sg_ib (M.1 s 6) (Yc.2.2.1 (Yc.2.2.2 s 4)) = true then
  sg_b (fX6_kindOf N (M.1 (Yc.2.2.2 s 4) ((M.1 s 6)).toNatClampNeg) M) (fun (x17 : Int32) (M16 : sg_M) =>
  if x17 = (4 : Int32) then (
  sg_m (sg_uI M16 s 6 ((M16.1 s 6) + (1 : Int32))) (fun M18 : sg_M =>
  k8 (s) M18)) else (
  gX6_step_48 N s M16))
  else none)
def gX6_step_8 (N : Nat)  : Nat → sg_M → Option (sg_M) := sg_lp (bX6_step_8 N ) N
set_option maxHeartbeats 4000000 in
set_option maxRecDepth 100000 in
theorem tX6_step_8 {ad : Nat → Nat} {X : sg_X} {N : Nat} {r : sg_M} (C : sg_C Yc ad X cX6_step RX6 2 1) (E : sg_eV Yc ad X cX6_step r)  : ∀ (s : Nat) (M : sg_M), gX6_step_8 N s M = some r → sg_K Yc s 6 → sg_T Yc ad X 2 8 [(0, .ref (ad s))] [] M := by
  have key : ∀ n : Nat, ∀ (s : Nat) (M : sg_M), sg_lp (bX6_step_8 N) n s M = some r → sg_K Yc s 6 → sg_T Yc ad X 2 8 [(0, .ref (ad s))] [] M := by
    intro n
    induction n with
    | zero => intro s M h; cases h
    | succ n ih =>
      intro s M h hq0
      have h : bX6_step_8 N (sg_lp (bX6_step_8 N) n) s M = some r := h
      generalize sg_lp (bX6_step_8 N) n = k8 at h ih
      have hk8 := ih
      unfold bX6_step_8 at h
      refine i_aload_n C dX6_step_8 0 rfl ?_
      refine gf6_35 C hq0 dX6_step_9 ?_
      refine i_aload_n C dX6_step_12 0 rfl ?_
      refine gf6_9 C hq0 dX6_step_13 ?_
      refine s_icmp_ge C 48 (by decide) dX6_step_16 h (fun _ h => ?_) (fun _ h => ?_)
      · exact sg_T.to (tX6_step_48 C E _ _ h hq0) [0] rfl
      · refine i_aload_n C dX6_step_19 0 rfl ?_
        refine gf6_28 C hq0 dX6_step_20 ?_
        refine i_aload_n C dX6_step_23 0 rfl ?_
        refine gf6_35 C hq0 dX6_step_24 ?_
        refine s_iald C (ky6_4 hq0) dX6_step_27 h (fun h => ?_)
        refine s_scI C [_] smX6_kindOf lkX6_169 (by decide) rfl rfl (Nat.le_of_ble_eq_true rfl) dX6_step_28 (ctX6_kindOf C.inj ) h (fun x17 M16 h => ?_)
        refine s_iconst C (4 : Int32) dX6_step_31 (by decide) ?_
        refine s_icmp_ne C 48 (by decide) dX6_step_32 h (fun _ h => ?_) (fun _ h => ?_)
        · refine i_aload_n C dX6_step_35 0 rfl ?_
          refine s_dup C dX6_step_36 rfl ?_
          refine gf6_35 C hq0 dX6_step_37 ?_
          refine s_iconst C (1 : Int32) dX6_step_40 (by decide) ?_
          refine s_iadd C dX6_step_41 ?_
          refine pf6_35 C hq0 dX6_step_42 ?_
          refine z_gM h (fun M18 h => ?_)
          refine s_goto C 8 (by decide) dX6_step_45 ?_
          exact sg_T.to (hk8 _ _ h hq0) [0] rfl
        · exact sg_T.to (tX6_step_48 C E _ _ h hq0) [0] rfl
  exact key N
def fX6_step (N : Nat) (a0_ : Nat) (M : sg_M) : Option (sg_M) :=
  sg_m (sg_uI M a0_ 6 (M.1 a0_ 7)) (fun M19 : sg_M =>
  gX6_step_8 N (a0_) M19)
set_option maxHeartbeats 4000000 in
set_option maxRecDepth 100000 in
theorem tX6_step {ad : Nat → Nat} {X : sg_X} {N : Nat} {r : sg_M} (C : sg_C Yc ad X cX6_step RX6 2 1) (E : sg_eV Yc ad X cX6_step r) : ∀ (a0_ : Nat) (M : sg_M), sg_K Yc a0_ 6 → fX6_step N a0_ M = some r → sg_T Yc ad X 2 0 [(0, .ref (ad a0_))] [] M := by
  intro a0_ M hq0 h
  unfold fX6_step at h
  refine i_aload_n C dX6_step_0 0 rfl ?_
  refine i_aload_n C dX6_step_1 0 rfl ?_
  refine gf6_38 C hq0 dX6_step_2 ?_
  refine pf6_35 C hq0 dX6_step_5 ?_
  refine z_gM h (fun M19 h => ?_)
  exact sg_T.to (tX6_step_8 C E _ _ h hq0) [0] rfl
theorem ctX6_step {ad : Nat → Nat} {V : sg_V} {N : Nat} (hi : sg_inj Yc ad) {a0_ : Nat} {M : sg_M} (hq0 : sg_K Yc a0_ 6) : ∀ res, fX6_step N a0_ M = some res → sg_cV Yc ad V yX6_step cX6_step 2 1 [.ref (ad a0_)] M res := fun res h => sg_bodyV (by decide) hi (Nat.le_of_ble_eq_true rfl) (fun X hX C E => by subst hX; exact tX6_step C E _  _ hq0 h)
def bX6_isWord_28 (N : Nat)  (k28 : (Nat × Nat × Int32) → sg_M → Option (Int32 × sg_M)) (s : Nat × Nat × Int32) (M : sg_M) : Option (Int32 × sg_M) :=
  if (Int32.ofNat (sg_len.getD s.2.1 0)) ≤ s.2.2 then (
  some ((1 : Int32), M)) else (
  if sg_ib ((M.1 s.1 6) + s.2.2) (Yc.2.2.1 (Yc.2.2.2 s.1 4)) = true then
  if sg_ib s.2.2 (sg_len.getD s.2.1 0) = true then
  if (M.1 (Yc.2.2.2 s.1 4) (((M.1 s.1 6) + s.2.2)).toNatClampNeg) = ((sg_byt.getD s.2.1 []).getD (s.2.2).toNatClampNeg 0) then (
  sg_m (s.2.2 + (1 : Int32)) (fun x3 : Int32 =>
  k28 (s.1, s.2.1, x3) M)) else (
  some ((0 : Int32), M))
  else none
  else none)
def gX6_isWord_28 (N : Nat)  : (Nat × Nat × Int32) → sg_M → Option (Int32 × sg_M) := sg_lp (bX6_isWord_28 N ) N
set_option maxHeartbeats 4000000 in
set_option maxRecDepth 100000 in
theorem tX6_isWord_28 {ad : Nat → Nat} {X : sg_X} {N : Nat} {r : Int32 × sg_M} (C : sg_C Yc ad X cX6_isWord RX6 3 4) (E : sg_eI Yc ad X cX6_isWord .boolean r)  : ∀ (s : Nat × Nat × Int32) (M : sg_M), gX6_isWord_28 N s M = some r → sg_K Yc s.1 6 → s.2.1 < 16 → sg_T Yc ad X 3 28 [(0, .ref (ad (s.1))), (1, .ref (sg_z X.1 (s.2.1))), (2, .int (s.2.2))] [] M := by
  have key : ∀ n : Nat, ∀ (s : Nat × Nat × Int32) (M : sg_M), sg_lp (bX6_isWord_28 N) n s M = some r → sg_K Yc s.1 6 → s.2.1 < 16 → sg_T Yc ad X 3 28 [(0, .ref (ad (s.1))), (1, .ref (sg_z X.1 (s.2.1))), (2, .int (s.2.2))] [] M := by
    intro n
    induction n with
    | zero => intro s M h; cases h
    | succ n ih =>
      intro s M h hq0 hq1
      have h : bX6_isWord_28 N (sg_lp (bX6_isWord_28 N) n) s M = some r := h
      generalize sg_lp (bX6_isWord_28 N) n = k28 at h ih
      have hk28 := ih
      unfold bX6_isWord_28 at h
      refine i_iload_n C dX6_isWord_28 2 rfl ?_
      refine i_aload_n C dX6_isWord_29 1 rfl ?_
      refine s_strlen C hq1 lkX6_174 (by decide) (Nat.le_of_ble_eq_true rfl) dX6_isWord_30 ?_
      refine s_icmp_ge C 63 (by decide) dX6_isWord_33 h (fun _ h => ?_) (fun _ h => ?_)
      · refine s_iconst C (1 : Int32) dX6_isWord_63 (by decide) ?_
        exact s_zret1 C E (by decide) dX6_isWord_64 h
      · refine i_aload_n C dX6_isWord_36 0 rfl ?_
        refine gf6_28 C hq0 dX6_isWord_37 ?_
        refine i_aload_n C dX6_isWord_40 0 rfl ?_
        refine gf6_35 C hq0 dX6_isWord_41 ?_
        refine i_iload_n C dX6_isWord_44 2 rfl ?_
        refine s_iadd C dX6_isWord_45 ?_
        refine s_iald C (ky6_4 hq0) dX6_isWord_46 h (fun h => ?_)
        refine i_aload_n C dX6_isWord_47 1 rfl ?_
        refine i_iload_n C dX6_isWord_48 2 rfl ?_
        refine s_strat C hq1 lkX6_180 (by decide) (Nat.le_of_ble_eq_true rfl) dX6_isWord_49 h (fun h => ?_)
        refine s_icmp_eq C 57 (by decide) dX6_isWord_52 h (fun _ h => ?_) (fun _ h => ?_)
        · refine z_iinc (n := 1) (c9 := (1 : Int32)) (by decide) h (fun x3 hx h => ?_)
          refine i_iinc (lv9 := [(2, _), (0, _), (1, _)]) C dX6_isWord_57 2 rfl hx (by decide) rfl ?_
          refine s_goto C 28 (by decide) dX6_isWord_60 ?_
          exact sg_T.to (hk28 _ _ h hq0 hq1) [1, 2, 0] rfl
        · refine s_iconst C (0 : Int32) dX6_isWord_55 (by decide) ?_
          exact s_zret1 C E (by decide) dX6_isWord_56 h
  exact key N
def fX6_isWord (N : Nat) (a0_ : Nat) (a1_ : Nat) (M : sg_M) : Option (Int32 × sg_M) :=
  if (M.1 a0_ 5) = (1 : Int32) then (
  if ((M.1 a0_ 7) - (M.1 a0_ 6)) = (Int32.ofNat (sg_len.getD a1_ 0)) then (
  sg_m (0 : Int32) (fun x5 : Int32 =>
  gX6_isWord_28 N (a0_, a1_, x5) M)) else (
  some ((0 : Int32), M))) else (
  some ((0 : Int32), M))
set_option maxHeartbeats 4000000 in
set_option maxRecDepth 100000 in
theorem tX6_isWord {ad : Nat → Nat} {X : sg_X} {N : Nat} {r : Int32 × sg_M} (C : sg_C Yc ad X cX6_isWord RX6 3 4) (E : sg_eI Yc ad X cX6_isWord .boolean r) : ∀ (a0_ : Nat) (a1_ : Nat) (M : sg_M), sg_K Yc a0_ 6 → a1_ < 16 → fX6_isWord N a0_ a1_ M = some r → sg_T Yc ad X 3 0 [(0, .ref (ad a0_)), (1, .ref (sg_z X.1 a1_))] [] M := by
  intro a0_ a1_ M hq0 hq1 h
  unfold fX6_isWord at h
  refine i_aload_n C dX6_isWord_0 0 rfl ?_
  refine gf6_32 C hq0 dX6_isWord_1 ?_
  refine s_iconst C (1 : Int32) dX6_isWord_4 (by decide) ?_
  refine s_icmp_ne C 24 (by decide) dX6_isWord_5 h (fun _ h => ?_) (fun _ h => ?_)
  · refine i_aload_n C dX6_isWord_8 0 rfl ?_
    refine gf6_38 C hq0 dX6_isWord_9 ?_
    refine i_aload_n C dX6_isWord_12 0 rfl ?_
    refine gf6_35 C hq0 dX6_isWord_13 ?_
    refine s_isub C dX6_isWord_16 ?_
    refine i_aload_n C dX6_isWord_17 1 rfl ?_
    refine s_strlen C hq1 lkX6_174 (by decide) (Nat.le_of_ble_eq_true rfl) dX6_isWord_18 ?_
    refine s_icmp_eq C 26 (by decide) dX6_isWord_21 h (fun _ h => ?_) (fun _ h => ?_)
    · refine s_iconst C (0 : Int32) dX6_isWord_26 (by decide) ?_
      refine z_gi h (fun x5 h => ?_)
      refine i_istore_n (lv9 := [(2, _), (0, _), (1, _)]) C 2 dX6_isWord_27 rfl (by decide) rfl ?_
      exact sg_T.to (tX6_isWord_28 C E _ _ h hq0 hq1) [1, 2, 0] rfl
    · refine s_iconst C (0 : Int32) dX6_isWord_24 (by decide) ?_
      exact s_zret1 C E (by decide) dX6_isWord_25 h
  · refine s_iconst C (0 : Int32) dX6_isWord_24 (by decide) ?_
    exact s_zret1 C E (by decide) dX6_isWord_25 h
theorem ctX6_isWord {ad : Nat → Nat} {V : sg_V} {N : Nat} (hi : sg_inj Yc ad) {a0_ : Nat} {a1_ : Nat} {M : sg_M} (hq0 : sg_K Yc a0_ 6) (hq1 : a1_ < 16) : ∀ res, fX6_isWord N a0_ a1_ M = some res → sg_cI Yc ad V yX6_isWord cX6_isWord 3 .boolean 4 [.ref (ad a0_), .ref (sg_z V a1_)] M res := fun res h => sg_bodyI (by decide) hi (Nat.le_of_ble_eq_true rfl) (fun X hX C E => by subst hX; exact tX6_isWord C E _ _  _ hq0 hq1 h)
def fX6_fail (N : Nat) (a0_ : Nat) (x1_ : Int32) (M : sg_M) : Option (Int32 × sg_M) :=
  sg_m (sg_uI M a0_ 1 x1_) (fun M1 : sg_M =>
  sg_m (sg_uI M1 a0_ 2 (M1.1 a0_ 6)) (fun M2 : sg_M =>
  some ((0 : Int32), M2)))
set_option maxHeartbeats 4000000 in
set_option maxRecDepth 100000 in
theorem tX6_fail {ad : Nat → Nat} {X : sg_X} {N : Nat} {r : Int32 × sg_M} (C : sg_C Yc ad X cX6_fail RX6 2 0) (E : sg_eI Yc ad X cX6_fail .boolean r) : ∀ (a0_ : Nat) (x1_ : Int32) (M : sg_M), sg_K Yc a0_ 6 → fX6_fail N a0_ x1_ M = some r → sg_T Yc ad X 2 0 [(0, .ref (ad a0_)), (1, .int x1_)] [] M := by
  intro a0_ x1_ M hq0 h
  unfold fX6_fail at h
  refine i_aload_n C dX6_fail_0 0 rfl ?_
  refine i_iload_n C dX6_fail_1 1 rfl ?_
  refine pf6_15 C hq0 dX6_fail_2 ?_
  refine z_gM h (fun M1 h => ?_)
  refine i_aload_n C dX6_fail_5 0 rfl ?_
  refine i_aload_n C dX6_fail_6 0 rfl ?_
  refine gf6_35 C hq0 dX6_fail_7 ?_
  refine pf6_18 C hq0 dX6_fail_10 ?_
  refine z_gM h (fun M2 h => ?_)
  refine s_iconst C (0 : Int32) dX6_fail_13 (by decide) ?_
  exact s_zret1 C E (by decide) dX6_fail_14 h
theorem ctX6_fail {ad : Nat → Nat} {V : sg_V} {N : Nat} (hi : sg_inj Yc ad) {a0_ : Nat} {x1_ : Int32} {M : sg_M} (hq0 : sg_K Yc a0_ 6) : ∀ res, fX6_fail N a0_ x1_ M = some res → sg_cI Yc ad V yX6_fail cX6_fail 2 .boolean 0 [.ref (ad a0_), .int x1_] M res := fun res h => sg_bodyI (by decide) hi (Nat.le_of_ble_eq_true rfl) (fun X hX C E => by subst hX; exact tX6_fail C E _ _  _ hq0 h)
def gX6_needBounds_42 (N : Nat)   (M : sg_M) : Option (Int32 × sg_M) :=
  some ((1 : Int32), M)
set_option maxHeartbeats 4000000 in
set_option maxRecDepth 100000 in
theorem tX6_needBounds_42 {ad : Nat → Nat} {X : sg_X} {N : Nat} {r : Int32 × sg_M} (C : sg_C Yc ad X cX6_needBounds RX6 3 2) (E : sg_eI Yc ad X cX6_needBounds .boolean r)  : ∀  (M : sg_M), gX6_needBounds_42 N  M = some r → sg_T Yc ad X 3 42 [] [] M := by
  intro  M h 
  unfold gX6_needBounds_42 at h
  refine s_iconst C (1 : Int32) dX6_needBounds_42 (by decide) ?_
  refine s_goto C 47 (by decide) dX6_needBounds_43 ?_
  exact s_zret1 C E (by decide) dX6_needBounds_47 h
def gX6_needBounds_34 (N : Nat)  (a0_ : Nat) (M : sg_M) : Option (Int32 × sg_M) :=
  sg_b (fX6_fail N a0_ (2 : Int32) M) (fun (x2 : Int32) (M1 : sg_M) =>
  if x2 = 0 then (
  some ((0 : Int32), M1)) else (
  gX6_needBounds_42 N M1))
set_option maxHeartbeats 4000000 in
set_option maxRecDepth 100000 in
theorem tX6_needBounds_34 {ad : Nat → Nat} {X : sg_X} {N : Nat} {r : Int32 × sg_M} (C : sg_C Yc ad X cX6_needBounds RX6 3 2) (E : sg_eI Yc ad X cX6_needBounds .boolean r)  : ∀ (a0_ : Nat) (M : sg_M), gX6_needBounds_34 N a0_ M = some r → sg_K Yc a0_ 6 → sg_T Yc ad X 3 34 [(0, .ref (ad a0_))] [] M := by
  intro a0_ M h hq0
  unfold gX6_needBounds_34 at h
  refine i_aload_n C dX6_needBounds_34 0 rfl ?_
  refine s_iconst C (2 : Int32) dX6_needBounds_35 (by decide) ?_
  refine s_vcI C [_] vmX6_fail lkX6_72 rfl rfl (by decide) hq0 (by decide) rfl rfl (Nat.le_of_ble_eq_true rfl) dX6_needBounds_36 (ctX6_fail C.inj hq0) h (fun x2 M1 h => ?_)
  refine s_if_eq C 46 (by decide) dX6_needBounds_39 h (fun _ h => ?_) (fun _ h => ?_)
  · refine s_iconst C (0 : Int32) dX6_needBounds_46 (by decide) ?_
    exact s_zret1 C E (by decide) dX6_needBounds_47 h
  · exact sg_T.to (tX6_needBounds_42 C E _ h ) [] rfl
def fX6_needBounds (N : Nat) (a0_ : Nat) (x1_ : Int32) (x2_ : Int32) (M : sg_M) : Option (Int32 × sg_M) :=
  sg_bv (fX6_step N a0_ M) (fun M3 : sg_M =>
  if (M3.1 a0_ 5) = (2 : Int32) then (
  if (M3.1 a0_ 8) < x1_ then (
  gX6_needBounds_34 N a0_ M3) else (
  if (M3.1 a0_ 8) ≤ x2_ then (
  gX6_needBounds_42 N M3) else (
  gX6_needBounds_34 N a0_ M3))) else (
  sg_b (fX6_fail N a0_ (1 : Int32) M3) (fun (x5 : Int32) (M4 : sg_M) =>
  if sg_bz x5 = true then some (x5, M4) else none)))
set_option maxHeartbeats 4000000 in
set_option maxRecDepth 100000 in
theorem tX6_needBounds {ad : Nat → Nat} {X : sg_X} {N : Nat} {r : Int32 × sg_M} (C : sg_C Yc ad X cX6_needBounds RX6 3 2) (E : sg_eI Yc ad X cX6_needBounds .boolean r) : ∀ (a0_ : Nat) (x1_ : Int32) (x2_ : Int32) (M : sg_M), sg_K Yc a0_ 6 → fX6_needBounds N a0_ x1_ x2_ M = some r → sg_T Yc ad X 3 0 [(0, .ref (ad a0_)), (1, .int x1_), (2, .int x2_)] [] M := by
  intro a0_ x1_ x2_ M hq0 h
  unfold fX6_needBounds at h
  refine i_aload_n C dX6_needBounds_0 0 rfl ?_
  refine s_vcV C [] vmX6_step lkX6_59 rfl rfl (by decide) hq0 (by decide) rfl rfl (Nat.le_of_ble_eq_true rfl) dX6_needBounds_1 (ctX6_step C.inj hq0) h (fun M3 h => ?_)
  refine i_aload_n C dX6_needBounds_4 0 rfl ?_
  refine gf6_32 C hq0 dX6_needBounds_5 ?_
  refine s_iconst C (2 : Int32) dX6_needBounds_8 (by decide) ?_
  refine s_icmp_eq C 18 (by decide) dX6_needBounds_9 h (fun _ h => ?_) (fun _ h => ?_)
  · refine i_aload_n C dX6_needBounds_18 0 rfl ?_
    refine gf6_41 C hq0 dX6_needBounds_19 ?_
    refine i_iload_n C dX6_needBounds_22 1 rfl ?_
    refine s_icmp_lt C 34 (by decide) dX6_needBounds_23 h (fun _ h => ?_) (fun _ h => ?_)
    · exact sg_T.to (tX6_needBounds_34 C E _ _ h hq0) [0] rfl
    · refine i_aload_n C dX6_needBounds_26 0 rfl ?_
      refine gf6_41 C hq0 dX6_needBounds_27 ?_
      refine i_iload_n C dX6_needBounds_30 2 rfl ?_
      refine s_icmp_le C 42 (by decide) dX6_needBounds_31 h (fun _ h => ?_) (fun _ h => ?_)
      · exact sg_T.to (tX6_needBounds_42 C E _ h ) [] rfl
      · exact sg_T.to (tX6_needBounds_34 C E _ _ h hq0) [0] rfl
  · refine i_aload_n C dX6_needBounds_12 0 rfl ?_
    refine s_iconst C (1 : Int32) dX6_needBounds_13 (by decide) ?_
    refine s_vcI C [_] vmX6_fail lkX6_72 rfl rfl (by decide) hq0 (by decide) rfl rfl (Nat.le_of_ble_eq_true rfl) dX6_needBounds_14 (ctX6_fail C.inj hq0) h (fun x5 M4 h => ?_)
    exact s_zret C E dX6_needBounds_17 h
theorem ctX6_needBounds {ad : Nat → Nat} {V : sg_V} {N : Nat} (hi : sg_inj Yc ad) {a0_ : Nat} {x1_ : Int32} {x2_ : Int32} {M : sg_M} (hq0 : sg_K Yc a0_ 6) : ∀ res, fX6_needBounds N a0_ x1_ x2_ M = some res → sg_cI Yc ad V yX6_needBounds cX6_needBounds 3 .boolean 2 [.ref (ad a0_), .int x1_, .int x2_] M res := fun res h => sg_bodyI (by decide) hi (Nat.le_of_ble_eq_true rfl) (fun X hX C E => by subst hX; exact tX6_needBounds C E _ _ _  _ hq0 h)
def fX6_needNumber (N : Nat) (a0_ : Nat) (a1_ : Nat) (x2_ : Int32) (x3_ : Int32) (M : sg_M) : Option (Int32 × sg_M) :=
  sg_bv (fX6_step N a0_ M) (fun M1 : sg_M =>
  sg_b (fX6_isWord N a0_ a1_ M1) (fun (x3 : Int32) (M2 : sg_M) =>
  if x3 = 0 then (
  sg_b (fX6_fail N a0_ (1 : Int32) M2) (fun (x5 : Int32) (M4 : sg_M) =>
  if sg_bz x5 = true then some (x5, M4) else none)) else (
  sg_b (fX6_needBounds N a0_ x2_ x3_ M2) (fun (x7 : Int32) (M6 : sg_M) =>
  if sg_bz x7 = true then some (x7, M6) else none))))
set_option maxHeartbeats 4000000 in
set_option maxRecDepth 100000 in
theorem tX6_needNumber {ad : Nat → Nat} {X : sg_X} {N : Nat} {r : Int32 × sg_M} (C : sg_C Yc ad X cX6_needNumber RX6 4 5) (E : sg_eI Yc ad X cX6_needNumber .boolean r) : ∀ (a0_ : Nat) (a1_ : Nat) (x2_ : Int32) (x3_ : Int32) (M : sg_M), sg_K Yc a0_ 6 → a1_ < 16 → fX6_needNumber N a0_ a1_ x2_ x3_ M = some r → sg_T Yc ad X 4 0 [(0, .ref (ad a0_)), (1, .ref (sg_z X.1 a1_)), (2, .int x2_), (3, .int x3_)] [] M := by
  intro a0_ a1_ x2_ x3_ M hq0 hq1 h
  unfold fX6_needNumber at h
  refine i_aload_n C dX6_needNumber_0 0 rfl ?_
  refine s_vcV C [] vmX6_step lkX6_59 rfl rfl (by decide) hq0 (by decide) rfl rfl (Nat.le_of_ble_eq_true rfl) dX6_needNumber_1 (ctX6_step C.inj hq0) h (fun M1 h => ?_)
  refine i_aload_n C dX6_needNumber_4 0 rfl ?_
  refine i_aload_n C dX6_needNumber_5 1 rfl ?_
  refine s_vcI C [_] vmX6_isWord lkX6_64 rfl rfl (by decide) hq0 (by decide) rfl rfl (Nat.le_of_ble_eq_true rfl) dX6_needNumber_6 (ctX6_isWord C.inj hq0 hq1) h (fun x3 M2 h => ?_)
  refine s_if_eq C 21 (by decide) dX6_needNumber_9 h (fun _ h => ?_) (fun _ h => ?_)
  · refine i_aload_n C dX6_needNumber_21 0 rfl ?_
    refine s_iconst C (1 : Int32) dX6_needNumber_22 (by decide) ?_
    refine s_vcI C [_] vmX6_fail lkX6_72 rfl rfl (by decide) hq0 (by decide) rfl rfl (Nat.le_of_ble_eq_true rfl) dX6_needNumber_23 (ctX6_fail C.inj hq0) h (fun x5 M4 h => ?_)
    exact s_zret C E dX6_needNumber_26 h
  · refine i_aload_n C dX6_needNumber_12 0 rfl ?_
    refine i_iload_n C dX6_needNumber_13 2 rfl ?_
    refine i_iload_n C dX6_needNumber_14 3 rfl ?_
    refine s_vcI C [_, _] vmX6_needBounds lkX6_155 rfl rfl (by decide) hq0 (by decide) rfl rfl (Nat.le_of_ble_eq_true rfl) dX6_needNumber_15 (ctX6_needBounds C.inj hq0) h (fun x7 M6 h => ?_)
    refine s_goto C 26 (by decide) dX6_needNumber_18 ?_
    exact s_zret C E dX6_needNumber_26 h
theorem ctX6_needNumber {ad : Nat → Nat} {V : sg_V} {N : Nat} (hi : sg_inj Yc ad) {a0_ : Nat} {a1_ : Nat} {x2_ : Int32} {x3_ : Int32} {M : sg_M} (hq0 : sg_K Yc a0_ 6) (hq1 : a1_ < 16) : ∀ res, fX6_needNumber N a0_ a1_ x2_ x3_ M = some res → sg_cI Yc ad V yX6_needNumber cX6_needNumber 4 .boolean 5 [.ref (ad a0_), .ref (sg_z V a1_), .int x2_, .int x3_] M res := fun res h => sg_bodyI (by decide) hi (Nat.le_of_ble_eq_true rfl) (fun X hX C E => by subst hX; exact tX6_needNumber C E _ _ _ _  _ hq0 hq1 h)
def gX6_needSign_20 (N : Nat)   (M : sg_M) : Option (Int32 × sg_M) :=
  some ((1 : Int32), M)
set_option maxHeartbeats 4000000 in
set_option maxRecDepth 100000 in
theorem tX6_needSign_20 {ad : Nat → Nat} {X : sg_X} {N : Nat} {r : Int32 × sg_M} (C : sg_C Yc ad X cX6_needSign RX6 1 2) (E : sg_eI Yc ad X cX6_needSign .boolean r)  : ∀  (M : sg_M), gX6_needSign_20 N  M = some r → sg_T Yc ad X 1 20 [] [] M := by
  intro  M h 
  unfold gX6_needSign_20 at h
  refine s_iconst C (1 : Int32) dX6_needSign_20 (by decide) ?_
  refine s_goto C 25 (by decide) dX6_needSign_21 ?_
  exact s_zret1 C E (by decide) dX6_needSign_25 h
def fX6_needSign (N : Nat) (a0_ : Nat) (M : sg_M) : Option (Int32 × sg_M) :=
  sg_bv (fX6_step N a0_ M) (fun M1 : sg_M =>
  if (M1.1 a0_ 5) = (3 : Int32) then (
  gX6_needSign_20 N M1) else (
  sg_b (fX6_fail N a0_ (1 : Int32) M1) (fun (x3 : Int32) (M2 : sg_M) =>
  if x3 = 0 then (
  some ((0 : Int32), M2)) else (
  gX6_needSign_20 N M2))))
set_option maxHeartbeats 4000000 in
set_option maxRecDepth 100000 in
theorem tX6_needSign {ad : Nat → Nat} {X : sg_X} {N : Nat} {r : Int32 × sg_M} (C : sg_C Yc ad X cX6_needSign RX6 1 2) (E : sg_eI Yc ad X cX6_needSign .boolean r) : ∀ (a0_ : Nat) (M : sg_M), sg_K Yc a0_ 6 → fX6_needSign N a0_ M = some r → sg_T Yc ad X 1 0 [(0, .ref (ad a0_))] [] M := by
  intro a0_ M hq0 h
  unfold fX6_needSign at h
  refine i_aload_n C dX6_needSign_0 0 rfl ?_
  refine s_vcV C [] vmX6_step lkX6_59 rfl rfl (by decide) hq0 (by decide) rfl rfl (Nat.le_of_ble_eq_true rfl) dX6_needSign_1 (ctX6_step C.inj hq0) h (fun M1 h => ?_)
  refine i_aload_n C dX6_needSign_4 0 rfl ?_
  refine gf6_32 C hq0 dX6_needSign_5 ?_
  refine s_iconst C (3 : Int32) dX6_needSign_8 (by decide) ?_
  refine s_icmp_eq C 20 (by decide) dX6_needSign_9 h (fun _ h => ?_) (fun _ h => ?_)
  · exact sg_T.to (tX6_needSign_20 C E _ h ) [] rfl
  · refine i_aload_n C dX6_needSign_12 0 rfl ?_
    refine s_iconst C (1 : Int32) dX6_needSign_13 (by decide) ?_
    refine s_vcI C [_] vmX6_fail lkX6_72 rfl rfl (by decide) hq0 (by decide) rfl rfl (Nat.le_of_ble_eq_true rfl) dX6_needSign_14 (ctX6_fail C.inj hq0) h (fun x3 M2 h => ?_)
    refine s_if_eq C 24 (by decide) dX6_needSign_17 h (fun _ h => ?_) (fun _ h => ?_)
    · refine s_iconst C (0 : Int32) dX6_needSign_24 (by decide) ?_
      exact s_zret1 C E (by decide) dX6_needSign_25 h
    · exact sg_T.to (tX6_needSign_20 C E _ h ) [] rfl
theorem ctX6_needSign {ad : Nat → Nat} {V : sg_V} {N : Nat} (hi : sg_inj Yc ad) {a0_ : Nat} {M : sg_M} (hq0 : sg_K Yc a0_ 6) : ∀ res, fX6_needSign N a0_ M = some res → sg_cI Yc ad V yX6_needSign cX6_needSign 1 .boolean 2 [.ref (ad a0_)] M res := fun res h => sg_bodyI (by decide) hi (Nat.le_of_ble_eq_true rfl) (fun X hX C E => by subst hX; exact tX6_needSign C E _  _ hq0 h)
def fX6_readGrid (N : Nat) (a0_ : Nat) (M : sg_M) : Option (Int32 × sg_M) :=
  sg_b (fX6_needNumber N a0_ 1 (1 : Int32) (9 : Int32) M) (fun (x2 : Int32) (M1 : sg_M) =>
  if x2 = 0 then (
  some ((0 : Int32), M1)) else (
  sg_m (M1.1 a0_ 8) (fun x3 : Int32 =>
  sg_b (fX6_needNumber N a0_ 2 (1 : Int32) (9 : Int32) M1) (fun (x5 : Int32) (M4 : sg_M) =>
  if x5 = 0 then (
  some ((0 : Int32), M4)) else (
  sg_m (M4.1 a0_ 8) (fun x6 : Int32 =>
  if (x3 * x6) ≤ (9 : Int32) then (
  sg_b (fX6_needNumber N a0_ 3 (0 : Int32) (4 : Int32) M4) (fun (x8 : Int32) (M7 : sg_M) =>
  if x8 = 0 then (
  some ((0 : Int32), M7)) else (
  sg_bv (fX4_layOut N (Yc.2.2.2 a0_ 3) x3 x6 (M7.1 a0_ 8) M7) (fun M9 : sg_M =>
  sg_b (fX6_needNumber N a0_ 4 (0 : Int32) (999 : Int32) M9) (fun (x11 : Int32) (M10 : sg_M) =>
  if x11 = 0 then (
  some ((0 : Int32), M10)) else (
  sg_m (sg_uI M10 (Yc.2.2.2 a0_ 3) 2 (M10.1 a0_ 8)) (fun M12 : sg_M =>
  sg_b (fX6_needNumber N a0_ 5 (1 : Int32) (999 : Int32) M12) (fun (x14 : Int32) (M13 : sg_M) =>
  if x14 = 0 then (
  some ((0 : Int32), M13)) else (
  sg_m (sg_uI M13 (Yc.2.2.2 a0_ 3) 3 (M13.1 a0_ 8)) (fun M15 : sg_M =>
  sg_b (fX6_needSign N a0_ M15) (fun (x17 : Int32) (M16 : sg_M) =>
  if sg_bz x17 = true then some (x17, M16) else none))))))))))) else (
  sg_b (fX6_fail N a0_ (2 : Int32) M4) (fun (x19 : Int32) (M18 : sg_M) =>
  if sg_bz x19 = true then some (x19, M18) else none))))))))
set_option maxHeartbeats 4000000 in
set_option maxRecDepth 100000 in
theorem tX6_readGrid {ad : Nat → Nat} {X : sg_X} {N : Nat} {r : Int32 × sg_M} (C : sg_C Yc ad X cX6_readGrid RX6 3 6) (E : sg_eI Yc ad X cX6_readGrid .boolean r) : ∀ (a0_ : Nat) (M : sg_M), sg_K Yc a0_ 6 → fX6_readGrid N a0_ M = some r → sg_T Yc ad X 3 0 [(0, .ref (ad a0_))] [] M := by
  intro a0_ M hq0 h
  unfold fX6_readGrid at h
  refine i_aload_n C dX6_readGrid_0 0 rfl ?_
  refine s_ldcS C (tx := "columns") 1 (List.mem_of_getElem? (i := 1) rfl) dX6_readGrid_1 ?_
  refine s_iconst C (1 : Int32) dX6_readGrid_3 (by decide) ?_
  refine s_bipush C (9 : Int32) dX6_readGrid_4 (by decide) ?_
  refine s_vcI C [_, _, _] vmX6_needNumber lkX6_101 rfl rfl (by decide) hq0 (by decide) rfl rfl (Nat.le_of_ble_eq_true rfl) dX6_readGrid_6 (ctX6_needNumber C.inj hq0 (by decide)) h (fun x2 M1 h => ?_)
  refine s_if_ne C 14 (by decide) dX6_readGrid_9 h (fun _ h => ?_) (fun _ h => ?_)
  · refine s_iconst C (0 : Int32) dX6_readGrid_12 (by decide) ?_
    exact s_zret1 C E (by decide) dX6_readGrid_13 h
  · refine i_aload_n C dX6_readGrid_14 0 rfl ?_
    refine gf6_41 C hq0 dX6_readGrid_15 ?_
    refine z_gi h (fun x3 h => ?_)
    refine i_istore_n (lv9 := [(1, _), (0, _)]) C 1 dX6_readGrid_18 rfl (by decide) rfl ?_
    refine i_aload_n C dX6_readGrid_19 1 rfl ?_
    refine s_ldcS C (tx := "rows") 2 (List.mem_of_getElem? (i := 2) rfl) dX6_readGrid_20 ?_
    refine s_iconst C (1 : Int32) dX6_readGrid_22 (by decide) ?_
    refine s_bipush C (9 : Int32) dX6_readGrid_23 (by decide) ?_
    refine s_vcI C [_, _, _] vmX6_needNumber lkX6_101 rfl rfl (by decide) hq0 (by decide) rfl rfl (Nat.le_of_ble_eq_true rfl) dX6_readGrid_25 (ctX6_needNumber C.inj hq0 (by decide)) h (fun x5 M4 h => ?_)
    refine s_if_ne C 33 (by decide) dX6_readGrid_28 h (fun _ h => ?_) (fun _ h => ?_)
    · refine s_iconst C (0 : Int32) dX6_readGrid_31 (by decide) ?_
      exact s_zret1 C E (by decide) dX6_readGrid_32 h
    · refine i_aload_n C dX6_readGrid_33 1 rfl ?_
      refine gf6_41 C hq0 dX6_readGrid_34 ?_
      refine z_gi h (fun x6 h => ?_)
      refine i_istore_n (lv9 := [(2, _), (1, _), (0, _)]) C 2 dX6_readGrid_37 rfl (by decide) rfl ?_
      refine i_iload_n C dX6_readGrid_38 1 rfl ?_
      refine i_iload_n C dX6_readGrid_39 0 rfl ?_
      refine s_imul C dX6_readGrid_40 ?_
      refine s_bipush C (9 : Int32) dX6_readGrid_41 (by decide) ?_
      refine s_icmp_le C 52 (by decide) dX6_readGrid_43 h (fun _ h => ?_) (fun _ h => ?_)
      · refine i_aload_n C dX6_readGrid_52 2 rfl ?_
        refine s_ldcS C (tx := "width") 3 (List.mem_of_getElem? (i := 3) rfl) dX6_readGrid_53 ?_
        refine s_iconst C (0 : Int32) dX6_readGrid_55 (by decide) ?_
        refine s_iconst C (4 : Int32) dX6_readGrid_56 (by decide) ?_
        refine s_vcI C [_, _, _] vmX6_needNumber lkX6_101 rfl rfl (by decide) hq0 (by decide) rfl rfl (Nat.le_of_ble_eq_true rfl) dX6_readGrid_57 (ctX6_needNumber C.inj hq0 (by decide)) h (fun x8 M7 h => ?_)
        refine s_if_ne C 65 (by decide) dX6_readGrid_60 h (fun _ h => ?_) (fun _ h => ?_)
        · refine s_iconst C (0 : Int32) dX6_readGrid_63 (by decide) ?_
          exact s_zret1 C E (by decide) dX6_readGrid_64 h
        · refine i_aload_n C dX6_readGrid_65 2 rfl ?_
          refine gf6_24 C hq0 dX6_readGrid_66 ?_
          refine i_iload_n C dX6_readGrid_69 1 rfl ?_
          refine i_iload_n C dX6_readGrid_70 0 rfl ?_
          refine i_aload_n C dX6_readGrid_71 2 rfl ?_
          refine gf6_41 C hq0 dX6_readGrid_72 ?_
          refine s_vcV C [_, _, _] vmX4_layOut lkX6_109 rfl rfl (by decide) (ky6_3 hq0) (by decide) rfl rfl (Nat.le_of_ble_eq_true rfl) dX6_readGrid_75 (ctX4_layOut C.inj (ky6_3 hq0)) h (fun M9 h => ?_)
          refine i_aload_n C dX6_readGrid_78 2 rfl ?_
          refine s_ldcS C (tx := "limit") 4 (List.mem_of_getElem? (i := 4) rfl) dX6_readGrid_79 ?_
          refine s_iconst C (0 : Int32) dX6_readGrid_81 (by decide) ?_
          refine s_sipush C (999 : Int32) dX6_readGrid_82 (by decide) ?_
          refine s_vcI C [_, _, _] vmX6_needNumber lkX6_101 rfl rfl (by decide) hq0 (by decide) rfl rfl (Nat.le_of_ble_eq_true rfl) dX6_readGrid_85 (ctX6_needNumber C.inj hq0 (by decide)) h (fun x11 M10 h => ?_)
          refine s_if_ne C 93 (by decide) dX6_readGrid_88 h (fun _ h => ?_) (fun _ h => ?_)
          · refine s_iconst C (0 : Int32) dX6_readGrid_91 (by decide) ?_
            exact s_zret1 C E (by decide) dX6_readGrid_92 h
          · refine i_aload_n C dX6_readGrid_93 2 rfl ?_
            refine gf6_24 C hq0 dX6_readGrid_94 ?_
            refine i_aload_n C dX6_readGrid_97 2 rfl ?_
            refine gf6_41 C hq0 dX6_readGrid_98 ?_
            refine pf6_115 C (ky6_3 hq0) dX6_readGrid_101 ?_
            refine z_gM h (fun M12 h => ?_)
            refine i_aload_n C dX6_readGrid_104 2 rfl ?_
            refine s_ldcS C (tx := "wear") 5 (List.mem_of_getElem? (i := 5) rfl) dX6_readGrid_105 ?_
            refine s_iconst C (1 : Int32) dX6_readGrid_107 (by decide) ?_
            refine s_sipush C (999 : Int32) dX6_readGrid_108 (by decide) ?_
            refine s_vcI C [_, _, _] vmX6_needNumber lkX6_101 rfl rfl (by decide) hq0 (by decide) rfl rfl (Nat.le_of_ble_eq_true rfl) dX6_readGrid_111 (ctX6_needNumber C.inj hq0 (by decide)) h (fun x14 M13 h => ?_)
            refine s_if_ne C 119 (by decide) dX6_readGrid_114 h (fun _ h => ?_) (fun _ h => ?_)
            · refine s_iconst C (0 : Int32) dX6_readGrid_117 (by decide) ?_
              exact s_zret1 C E (by decide) dX6_readGrid_118 h
            · refine i_aload_n C dX6_readGrid_119 2 rfl ?_
              refine gf6_24 C hq0 dX6_readGrid_120 ?_
              refine i_aload_n C dX6_readGrid_123 2 rfl ?_
              refine gf6_41 C hq0 dX6_readGrid_124 ?_
              refine pf6_119 C (ky6_3 hq0) dX6_readGrid_127 ?_
              refine z_gM h (fun M15 h => ?_)
              refine i_aload_n C dX6_readGrid_130 2 rfl ?_
              refine s_vcI C [] vmX6_needSign lkX6_121 rfl rfl (by decide) hq0 (by decide) rfl rfl (Nat.le_of_ble_eq_true rfl) dX6_readGrid_131 (ctX6_needSign C.inj hq0) h (fun x17 M16 h => ?_)
              exact s_zret C E dX6_readGrid_134 h
      · refine i_aload_n C dX6_readGrid_46 2 rfl ?_
        refine s_iconst C (2 : Int32) dX6_readGrid_47 (by decide) ?_
        refine s_vcI C [_] vmX6_fail lkX6_72 rfl rfl (by decide) hq0 (by decide) rfl rfl (Nat.le_of_ble_eq_true rfl) dX6_readGrid_48 (ctX6_fail C.inj hq0) h (fun x19 M18 h => ?_)
        exact s_zret C E dX6_readGrid_51 h
theorem ctX6_readGrid {ad : Nat → Nat} {V : sg_V} {N : Nat} (hi : sg_inj Yc ad) {a0_ : Nat} {M : sg_M} (hq0 : sg_K Yc a0_ 6) : ∀ res, fX6_readGrid N a0_ M = some res → sg_cI Yc ad V yX6_readGrid cX6_readGrid 3 .boolean 6 [.ref (ad a0_)] M res := fun res h => sg_bodyI (by decide) hi (Nat.le_of_ble_eq_true rfl) (fun X hX C E => by subst hX; exact tX6_readGrid C E _  _ hq0 h)
def fX6_needPlace (N : Nat) (a0_ : Nat) (M : sg_M) : Option (Int32 × sg_M) :=
  sg_bv (fX6_step N a0_ M) (fun M1 : sg_M =>
  sg_b (fX6_isWord N a0_ 7 M1) (fun (x3 : Int32) (M2 : sg_M) =>
  if x3 = 0 then (
  sg_b (fX6_fail N a0_ (1 : Int32) M2) (fun (x5 : Int32) (M4 : sg_M) =>
  if sg_bz x5 = true then some (x5, M4) else none)) else (
  sg_b (fX6_needBounds N a0_ (0 : Int32) ((M2.1 (Yc.2.2.2 a0_ 3) 0) - (1 : Int32)) M2) (fun (x7 : Int32) (M6 : sg_M) =>
  if x7 = 0 then (
  some ((0 : Int32), M6)) else (
  sg_m (sg_uI M6 a0_ 9 (M6.1 a0_ 8)) (fun M8 : sg_M =>
  sg_b (fX6_needBounds N a0_ (0 : Int32) ((M8.1 (Yc.2.2.2 a0_ 3) 1) - (1 : Int32)) M8) (fun (x10 : Int32) (M9 : sg_M) =>
  if x10 = 0 then (
  some ((0 : Int32), M9)) else (
  sg_m (sg_uI M9 a0_ 10 (M9.1 a0_ 8)) (fun M11 : sg_M =>
  sg_m (sg_uI M11 a0_ 11 (((M11.1 a0_ 10) * (M11.1 (Yc.2.2.2 a0_ 3) 0)) + (M11.1 a0_ 9))) (fun M12 : sg_M =>
  some ((1 : Int32), M12)))))))))))
set_option maxHeartbeats 4000000 in
set_option maxRecDepth 100000 in
theorem tX6_needPlace {ad : Nat → Nat} {X : sg_X} {N : Nat} {r : Int32 × sg_M} (C : sg_C Yc ad X cX6_needPlace RX6 1 5) (E : sg_eI Yc ad X cX6_needPlace .boolean r) : ∀ (a0_ : Nat) (M : sg_M), sg_K Yc a0_ 6 → fX6_needPlace N a0_ M = some r → sg_T Yc ad X 1 0 [(0, .ref (ad a0_))] [] M := by
  intro a0_ M hq0 h
  unfold fX6_needPlace at h
  refine i_aload_n C dX6_needPlace_0 0 rfl ?_
  refine s_vcV C [] vmX6_step lkX6_59 rfl rfl (by decide) hq0 (by decide) rfl rfl (Nat.le_of_ble_eq_true rfl) dX6_needPlace_1 (ctX6_step C.inj hq0) h (fun M1 h => ?_)
  refine i_aload_n C dX6_needPlace_4 0 rfl ?_
  refine s_ldcS C (tx := "at") 7 (List.mem_of_getElem? (i := 7) rfl) dX6_needPlace_5 ?_
  refine s_vcI C [_] vmX6_isWord lkX6_64 rfl rfl (by decide) hq0 (by decide) rfl rfl (Nat.le_of_ble_eq_true rfl) dX6_needPlace_7 (ctX6_isWord C.inj hq0 (by decide)) h (fun x3 M2 h => ?_)
  refine s_if_ne C 19 (by decide) dX6_needPlace_10 h (fun _ h => ?_) (fun _ h => ?_)
  · refine i_aload_n C dX6_needPlace_13 0 rfl ?_
    refine s_iconst C (1 : Int32) dX6_needPlace_14 (by decide) ?_
    refine s_vcI C [_] vmX6_fail lkX6_72 rfl rfl (by decide) hq0 (by decide) rfl rfl (Nat.le_of_ble_eq_true rfl) dX6_needPlace_15 (ctX6_fail C.inj hq0) h (fun x5 M4 h => ?_)
    exact s_zret C E dX6_needPlace_18 h
  · refine i_aload_n C dX6_needPlace_19 0 rfl ?_
    refine s_iconst C (0 : Int32) dX6_needPlace_20 (by decide) ?_
    refine i_aload_n C dX6_needPlace_21 0 rfl ?_
    refine gf6_24 C hq0 dX6_needPlace_22 ?_
    refine gf6_131 C (ky6_3 hq0) dX6_needPlace_25 ?_
    refine s_iconst C (1 : Int32) dX6_needPlace_28 (by decide) ?_
    refine s_isub C dX6_needPlace_29 ?_
    refine s_vcI C [_, _] vmX6_needBounds lkX6_155 rfl rfl (by decide) hq0 (by decide) rfl rfl (Nat.le_of_ble_eq_true rfl) dX6_needPlace_30 (ctX6_needBounds C.inj hq0) h (fun x7 M6 h => ?_)
    refine s_if_ne C 38 (by decide) dX6_needPlace_33 h (fun _ h => ?_) (fun _ h => ?_)
    · refine s_iconst C (0 : Int32) dX6_needPlace_36 (by decide) ?_
      exact s_zret1 C E (by decide) dX6_needPlace_37 h
    · refine i_aload_n C dX6_needPlace_38 0 rfl ?_
      refine i_aload_n C dX6_needPlace_39 0 rfl ?_
      refine gf6_41 C hq0 dX6_needPlace_40 ?_
      refine pf6_44 C hq0 dX6_needPlace_43 ?_
      refine z_gM h (fun M8 h => ?_)
      refine i_aload_n C dX6_needPlace_46 0 rfl ?_
      refine s_iconst C (0 : Int32) dX6_needPlace_47 (by decide) ?_
      refine i_aload_n C dX6_needPlace_48 0 rfl ?_
      refine gf6_24 C hq0 dX6_needPlace_49 ?_
      refine gf6_133 C (ky6_3 hq0) dX6_needPlace_52 ?_
      refine s_iconst C (1 : Int32) dX6_needPlace_55 (by decide) ?_
      refine s_isub C dX6_needPlace_56 ?_
      refine s_vcI C [_, _] vmX6_needBounds lkX6_155 rfl rfl (by decide) hq0 (by decide) rfl rfl (Nat.le_of_ble_eq_true rfl) dX6_needPlace_57 (ctX6_needBounds C.inj hq0) h (fun x10 M9 h => ?_)
      refine s_if_ne C 65 (by decide) dX6_needPlace_60 h (fun _ h => ?_) (fun _ h => ?_)
      · refine s_iconst C (0 : Int32) dX6_needPlace_63 (by decide) ?_
        exact s_zret1 C E (by decide) dX6_needPlace_64 h
      · refine i_aload_n C dX6_needPlace_65 0 rfl ?_
        refine i_aload_n C dX6_needPlace_66 0 rfl ?_
        refine gf6_41 C hq0 dX6_needPlace_67 ?_
        refine pf6_47 C hq0 dX6_needPlace_70 ?_
        refine z_gM h (fun M11 h => ?_)
        refine i_aload_n C dX6_needPlace_73 0 rfl ?_
        refine i_aload_n C dX6_needPlace_74 0 rfl ?_
        refine gf6_47 C hq0 dX6_needPlace_75 ?_
        refine i_aload_n C dX6_needPlace_78 0 rfl ?_
        refine gf6_24 C hq0 dX6_needPlace_79 ?_
        refine gf6_131 C (ky6_3 hq0) dX6_needPlace_82 ?_
        refine s_imul C dX6_needPlace_85 ?_
        refine i_aload_n C dX6_needPlace_86 0 rfl ?_
        refine gf6_44 C hq0 dX6_needPlace_87 ?_
        refine s_iadd C dX6_needPlace_90 ?_
        refine pf6_50 C hq0 dX6_needPlace_91 ?_
        refine z_gM h (fun M12 h => ?_)
        refine s_iconst C (1 : Int32) dX6_needPlace_94 (by decide) ?_
        exact s_zret1 C E (by decide) dX6_needPlace_95 h
theorem ctX6_needPlace {ad : Nat → Nat} {V : sg_V} {N : Nat} (hi : sg_inj Yc ad) {a0_ : Nat} {M : sg_M} (hq0 : sg_K Yc a0_ 6) : ∀ res, fX6_needPlace N a0_ M = some res → sg_cI Yc ad V yX6_needPlace cX6_needPlace 1 .boolean 5 [.ref (ad a0_)] M res := fun res h => sg_bodyI (by decide) hi (Nat.le_of_ble_eq_true rfl) (fun X hX C E => by subst hX; exact tX6_needPlace C E _  _ hq0 h)
def gX6_readStrap_133 (N : Nat)  (a0_ : Nat) (y0_ : Int32) (M : sg_M) : Option (Int32 × sg_M) :=
  sg_m y0_ (fun x1 : Int32 =>
  if x1 = (-1 : Int32) then (
  sg_b (fX6_fail N a0_ (2 : Int32) M) (fun (x3 : Int32) (M2 : sg_M) =>
  if sg_bz x3 = true then some (x3, M2) else none)) else (
  sg_b (fX6_needNumber N a0_ 3 (0 : Int32) (4 : Int32) M) (fun (x5 : Int32) (M4 : sg_M) =>
  if x5 = 0 then (
  some ((0 : Int32), M4)) else (
  if sg_ib x1 (Yc.2.2.1 (Yc.2.2.2 (Yc.2.2.2 a0_ 3) 11)) = true then
  sg_m (sg_uI M4 (Yc.2.2.2 (Yc.2.2.2 a0_ 3) 11) (x1).toNatClampNeg (M4.1 a0_ 8)) (fun M6 : sg_M =>
  sg_b (fX6_needSign N a0_ M6) (fun (x8 : Int32) (M7 : sg_M) =>
  if sg_bz x8 = true then some (x8, M7) else none))
  else none))))
set_option maxHeartbeats 4000000 in
set_option maxRecDepth 100000 in
theorem tX6_readStrap_133 {ad : Nat → Nat} {X : sg_X} {N : Nat} {r : Int32 × sg_M} (C : sg_C Yc ad X cX6_readStrap RX6 4 6) (E : sg_eI Yc ad X cX6_readStrap .boolean r)  : ∀ (a0_ : Nat) (y0_ : Int32) (M : sg_M), gX6_readStrap_133 N a0_ y0_ M = some r → sg_K Yc a0_ 6 → sg_T Yc ad X 4 133 [(0, .ref (ad a0_))] [.int y0_] M := by
  intro a0_ y0_ M h hq0
  unfold gX6_readStrap_133 at h
  refine z_gi h (fun x1 h => ?_)
  refine i_istore_n (lv9 := [(3, _), (0, _)]) C 3 dX6_readStrap_133 rfl (by decide) rfl ?_
  refine i_iload_n C dX6_readStrap_134 0 rfl ?_
  refine s_iconst C (-1 : Int32) dX6_readStrap_135 (by decide) ?_
  refine s_icmp_ne C 145 (by decide) dX6_readStrap_136 h (fun _ h => ?_) (fun _ h => ?_)
  · refine i_aload_n C dX6_readStrap_139 1 rfl ?_
    refine s_iconst C (2 : Int32) dX6_readStrap_140 (by decide) ?_
    refine s_vcI C [_] vmX6_fail lkX6_72 rfl rfl (by decide) hq0 (by decide) rfl rfl (Nat.le_of_ble_eq_true rfl) dX6_readStrap_141 (ctX6_fail C.inj hq0) h (fun x3 M2 h => ?_)
    exact s_zret C E dX6_readStrap_144 h
  · refine i_aload_n C dX6_readStrap_145 1 rfl ?_
    refine s_ldcS C (tx := "width") 3 (List.mem_of_getElem? (i := 3) rfl) dX6_readStrap_146 ?_
    refine s_iconst C (0 : Int32) dX6_readStrap_148 (by decide) ?_
    refine s_iconst C (4 : Int32) dX6_readStrap_149 (by decide) ?_
    refine s_vcI C [_, _, _] vmX6_needNumber lkX6_101 rfl rfl (by decide) hq0 (by decide) rfl rfl (Nat.le_of_ble_eq_true rfl) dX6_readStrap_150 (ctX6_needNumber C.inj hq0 (by decide)) h (fun x5 M4 h => ?_)
    refine s_if_ne C 158 (by decide) dX6_readStrap_153 h (fun _ h => ?_) (fun _ h => ?_)
    · refine s_iconst C (0 : Int32) dX6_readStrap_156 (by decide) ?_
      exact s_zret1 C E (by decide) dX6_readStrap_157 h
    · refine i_aload_n C dX6_readStrap_158 1 rfl ?_
      refine gf6_24 C hq0 dX6_readStrap_159 ?_
      refine gf6_139 C (ky6_3 hq0) dX6_readStrap_162 ?_
      refine i_iload_n C dX6_readStrap_165 0 rfl ?_
      refine i_aload_n C dX6_readStrap_166 1 rfl ?_
      refine gf6_41 C hq0 dX6_readStrap_167 ?_
      refine s_iast C (ky4_11 (ky6_3 hq0)) dX6_readStrap_170 h (fun h => ?_)
      refine z_gM h (fun M6 h => ?_)
      refine i_aload_n C dX6_readStrap_171 1 rfl ?_
      refine s_vcI C [] vmX6_needSign lkX6_121 rfl rfl (by decide) hq0 (by decide) rfl rfl (Nat.le_of_ble_eq_true rfl) dX6_readStrap_172 (ctX6_needSign C.inj hq0) h (fun x8 M7 h => ?_)
      exact s_zret C E dX6_readStrap_175 h
def gX6_readStrap_126 (N : Nat)  (a0_ : Nat) (y0_ : Nat) (y1_ : Int32) (y2_ : Int32) (M : sg_M) : Option (Int32 × sg_M) :=
  sg_b (fX4_strapJoining N y0_ y1_ y2_ M) (fun (x10 : Int32) (M9 : sg_M) =>
  gX6_readStrap_133 N a0_ x10 M9)
set_option maxHeartbeats 4000000 in
set_option maxRecDepth 100000 in
theorem tX6_readStrap_126 {ad : Nat → Nat} {X : sg_X} {N : Nat} {r : Int32 × sg_M} (C : sg_C Yc ad X cX6_readStrap RX6 4 6) (E : sg_eI Yc ad X cX6_readStrap .boolean r)  : ∀ (a0_ : Nat) (y0_ : Nat) (y1_ : Int32) (y2_ : Int32) (M : sg_M), gX6_readStrap_126 N a0_ y0_ y1_ y2_ M = some r → sg_K Yc a0_ 6 → sg_K Yc y0_ 4 → sg_T Yc ad X 4 126 [(0, .ref (ad a0_))] [.int y2_, .int y1_, .ref (ad y0_)] M := by
  intro a0_ y0_ y1_ y2_ M h hq0 hy0
  unfold gX6_readStrap_126 at h
  refine s_vcI C [_, _] vmX4_strapJoining lkX6_135 rfl rfl (by decide) hy0 (by decide) rfl rfl (Nat.le_of_ble_eq_true rfl) dX6_readStrap_126 (ctX4_strapJoining C.inj hy0) h (fun x10 M9 h => ?_)
  refine s_goto C 133 (by decide) dX6_readStrap_129 ?_
  exact sg_T.to (tX6_readStrap_133 C E _ _ _ h hq0) [0] rfl
def gX6_readStrap_88 (N : Nat)  (a0_ : Nat) (x1_ : Int32) (y0_ : Int32) (M : sg_M) : Option (Int32 × sg_M) :=
  sg_m y0_ (fun x11 : Int32 =>
  if x11 = 0 then (
  gX6_readStrap_133 N a0_ (-1 : Int32) M) else (
  if x1_ = 0 then (
  gX6_readStrap_126 N a0_ (Yc.2.2.2 a0_ 3) (M.1 a0_ 11) ((M.1 a0_ 11) + (M.1 (Yc.2.2.2 a0_ 3) 0)) M) else (
  gX6_readStrap_126 N a0_ (Yc.2.2.2 a0_ 3) (M.1 a0_ 11) ((M.1 a0_ 11) + (1 : Int32)) M)))
set_option maxHeartbeats 4000000 in
set_option maxRecDepth 100000 in
theorem tX6_readStrap_88 {ad : Nat → Nat} {X : sg_X} {N : Nat} {r : Int32 × sg_M} (C : sg_C Yc ad X cX6_readStrap RX6 4 6) (E : sg_eI Yc ad X cX6_readStrap .boolean r)  : ∀ (a0_ : Nat) (x1_ : Int32) (y0_ : Int32) (M : sg_M), gX6_readStrap_88 N a0_ x1_ y0_ M = some r → sg_K Yc a0_ 6 → sg_T Yc ad X 4 88 [(0, .ref (ad a0_)), (1, .int x1_)] [.int y0_] M := by
  intro a0_ x1_ y0_ M h hq0
  unfold gX6_readStrap_88 at h
  refine z_gi h (fun x11 h => ?_)
  refine i_istore_n (lv9 := [(2, _), (0, _), (1, _)]) C 2 dX6_readStrap_88 rfl (by decide) rfl ?_
  refine i_iload_n C dX6_readStrap_89 0 rfl ?_
  refine s_if_eq C 132 (by decide) dX6_readStrap_90 h (fun _ h => ?_) (fun _ h => ?_)
  · refine s_iconst C (-1 : Int32) dX6_readStrap_132 (by decide) ?_
    exact sg_T.to (tX6_readStrap_133 C E _ _ _ h hq0) [1] rfl
  · refine i_aload_n C dX6_readStrap_93 1 rfl ?_
    refine gf6_24 C hq0 dX6_readStrap_94 ?_
    refine i_aload_n C dX6_readStrap_97 1 rfl ?_
    refine gf6_50 C hq0 dX6_readStrap_98 ?_
    refine i_iload_n C dX6_readStrap_101 2 rfl ?_
    refine s_if_eq C 114 (by decide) dX6_readStrap_102 h (fun _ h => ?_) (fun _ h => ?_)
    · refine i_aload_n C dX6_readStrap_114 1 rfl ?_
      refine gf6_50 C hq0 dX6_readStrap_115 ?_
      refine i_aload_n C dX6_readStrap_118 1 rfl ?_
      refine gf6_24 C hq0 dX6_readStrap_119 ?_
      refine gf6_131 C (ky6_3 hq0) dX6_readStrap_122 ?_
      refine s_iadd C dX6_readStrap_125 ?_
      exact sg_T.to (tX6_readStrap_126 C E _ _ _ _ _ h hq0 (ky6_3 hq0)) [1] rfl
    · refine i_aload_n C dX6_readStrap_105 1 rfl ?_
      refine gf6_50 C hq0 dX6_readStrap_106 ?_
      refine s_iconst C (1 : Int32) dX6_readStrap_109 (by decide) ?_
      refine s_iadd C dX6_readStrap_110 ?_
      refine s_goto C 126 (by decide) dX6_readStrap_111 ?_
      exact sg_T.to (tX6_readStrap_126 C E _ _ _ _ _ h hq0 (ky6_3 hq0)) [1] rfl
def gX6_readStrap_39 (N : Nat)  (a0_ : Nat) (x1_ : Int32) (M : sg_M) : Option (Int32 × sg_M) :=
  if x1_ = 0 then (
  if (M.1 (Yc.2.2.2 a0_ 3) 1) ≤ ((M.1 a0_ 10) + (1 : Int32)) then (
  gX6_readStrap_88 N a0_ x1_ (0 : Int32) M) else (
  gX6_readStrap_88 N a0_ x1_ (1 : Int32) M)) else (
  if (M.1 (Yc.2.2.2 a0_ 3) 0) ≤ ((M.1 a0_ 9) + (1 : Int32)) then (
  gX6_readStrap_88 N a0_ x1_ (0 : Int32) M) else (
  gX6_readStrap_88 N a0_ x1_ (1 : Int32) M))
set_option maxHeartbeats 4000000 in
set_option maxRecDepth 100000 in
theorem tX6_readStrap_39 {ad : Nat → Nat} {X : sg_X} {N : Nat} {r : Int32 × sg_M} (C : sg_C Yc ad X cX6_readStrap RX6 4 6) (E : sg_eI Yc ad X cX6_readStrap .boolean r)  : ∀ (a0_ : Nat) (x1_ : Int32) (M : sg_M), gX6_readStrap_39 N a0_ x1_ M = some r → sg_K Yc a0_ 6 → sg_T Yc ad X 4 39 [(0, .ref (ad a0_)), (1, .int x1_)] [] M := by
  intro a0_ x1_ M h hq0
  unfold gX6_readStrap_39 at h
  refine i_iload_n C dX6_readStrap_39 1 rfl ?_
  refine s_if_eq C 67 (by decide) dX6_readStrap_40 h (fun _ h => ?_) (fun _ h => ?_)
  · refine i_aload_n C dX6_readStrap_67 0 rfl ?_
    refine gf6_47 C hq0 dX6_readStrap_68 ?_
    refine s_iconst C (1 : Int32) dX6_readStrap_71 (by decide) ?_
    refine s_iadd C dX6_readStrap_72 ?_
    refine i_aload_n C dX6_readStrap_73 0 rfl ?_
    refine gf6_24 C hq0 dX6_readStrap_74 ?_
    refine gf6_133 C (ky6_3 hq0) dX6_readStrap_77 ?_
    refine s_icmp_ge C 87 (by decide) dX6_readStrap_80 h (fun _ h => ?_) (fun _ h => ?_)
    · refine s_iconst C (0 : Int32) dX6_readStrap_87 (by decide) ?_
      exact sg_T.to (tX6_readStrap_88 C E _ _ _ _ h hq0) [0, 1] rfl
    · refine s_iconst C (1 : Int32) dX6_readStrap_83 (by decide) ?_
      refine s_goto C 88 (by decide) dX6_readStrap_84 ?_
      exact sg_T.to (tX6_readStrap_88 C E _ _ _ _ h hq0) [0, 1] rfl
  · refine i_aload_n C dX6_readStrap_43 0 rfl ?_
    refine gf6_44 C hq0 dX6_readStrap_44 ?_
    refine s_iconst C (1 : Int32) dX6_readStrap_47 (by decide) ?_
    refine s_iadd C dX6_readStrap_48 ?_
    refine i_aload_n C dX6_readStrap_49 0 rfl ?_
    refine gf6_24 C hq0 dX6_readStrap_50 ?_
    refine gf6_131 C (ky6_3 hq0) dX6_readStrap_53 ?_
    refine s_icmp_ge C 63 (by decide) dX6_readStrap_56 h (fun _ h => ?_) (fun _ h => ?_)
    · refine s_iconst C (0 : Int32) dX6_readStrap_63 (by decide) ?_
      refine s_goto C 88 (by decide) dX6_readStrap_64 ?_
      exact sg_T.to (tX6_readStrap_88 C E _ _ _ _ h hq0) [0, 1] rfl
    · refine s_iconst C (1 : Int32) dX6_readStrap_59 (by decide) ?_
      refine s_goto C 88 (by decide) dX6_readStrap_60 ?_
      exact sg_T.to (tX6_readStrap_88 C E _ _ _ _ h hq0) [0, 1] rfl
def fX6_readStrap (N : Nat) (a0_ : Nat) (M : sg_M) : Option (Int32 × sg_M) :=
  sg_b (fX6_needPlace N a0_ M) (fun (x13 : Int32) (M12 : sg_M) =>
  if x13 = 0 then (
  some ((0 : Int32), M12)) else (
  sg_bv (fX6_step N a0_ M12) (fun M14 : sg_M =>
  sg_b (fX6_isWord N a0_ 8 M14) (fun (x16 : Int32) (M15 : sg_M) =>
  sg_m x16 (fun x17 : Int32 =>
  if x17 = 0 then (
  sg_b (fX6_isWord N a0_ 9 M15) (fun (x19 : Int32) (M18 : sg_M) =>
  if x19 = 0 then (
  sg_b (fX6_fail N a0_ (1 : Int32) M18) (fun (x21 : Int32) (M20 : sg_M) =>
  if sg_bz x21 = true then some (x21, M20) else none)) else (
  gX6_readStrap_39 N a0_ x17 M18))) else (
  gX6_readStrap_39 N a0_ x17 M15))))))
set_option maxHeartbeats 4000000 in
set_option maxRecDepth 100000 in
theorem tX6_readStrap {ad : Nat → Nat} {X : sg_X} {N : Nat} {r : Int32 × sg_M} (C : sg_C Yc ad X cX6_readStrap RX6 4 6) (E : sg_eI Yc ad X cX6_readStrap .boolean r) : ∀ (a0_ : Nat) (M : sg_M), sg_K Yc a0_ 6 → fX6_readStrap N a0_ M = some r → sg_T Yc ad X 4 0 [(0, .ref (ad a0_))] [] M := by
  intro a0_ M hq0 h
  unfold fX6_readStrap at h
  refine i_aload_n C dX6_readStrap_0 0 rfl ?_
  refine s_vcI C [] vmX6_needPlace lkX6_124 rfl rfl (by decide) hq0 (by decide) rfl rfl (Nat.le_of_ble_eq_true rfl) dX6_readStrap_1 (ctX6_needPlace C.inj hq0) h (fun x13 M12 h => ?_)
  refine s_if_ne C 9 (by decide) dX6_readStrap_4 h (fun _ h => ?_) (fun _ h => ?_)
  · refine s_iconst C (0 : Int32) dX6_readStrap_7 (by decide) ?_
    exact s_zret1 C E (by decide) dX6_readStrap_8 h
  · refine i_aload_n C dX6_readStrap_9 0 rfl ?_
    refine s_vcV C [] vmX6_step lkX6_59 rfl rfl (by decide) hq0 (by decide) rfl rfl (Nat.le_of_ble_eq_true rfl) dX6_readStrap_10 (ctX6_step C.inj hq0) h (fun M14 h => ?_)
    refine i_aload_n C dX6_readStrap_13 0 rfl ?_
    refine s_ldcS C (tx := "east") 8 (List.mem_of_getElem? (i := 8) rfl) dX6_readStrap_14 ?_
    refine s_vcI C [_] vmX6_isWord lkX6_64 rfl rfl (by decide) hq0 (by decide) rfl rfl (Nat.le_of_ble_eq_true rfl) dX6_readStrap_16 (ctX6_isWord C.inj hq0 (by decide)) h (fun x16 M15 h => ?_)
    refine z_gi h (fun x17 h => ?_)
    refine i_istore_n (lv9 := [(1, _), (0, _)]) C 1 dX6_readStrap_19 rfl (by decide) rfl ?_
    refine i_iload_n C dX6_readStrap_20 0 rfl ?_
    refine s_if_ne C 39 (by decide) dX6_readStrap_21 h (fun _ h => ?_) (fun _ h => ?_)
    · refine i_aload_n C dX6_readStrap_24 1 rfl ?_
      refine s_ldcS C (tx := "south") 9 (List.mem_of_getElem? (i := 9) rfl) dX6_readStrap_25 ?_
      refine s_vcI C [_] vmX6_isWord lkX6_64 rfl rfl (by decide) hq0 (by decide) rfl rfl (Nat.le_of_ble_eq_true rfl) dX6_readStrap_27 (ctX6_isWord C.inj hq0 (by decide)) h (fun x19 M18 h => ?_)
      refine s_if_ne C 39 (by decide) dX6_readStrap_30 h (fun _ h => ?_) (fun _ h => ?_)
      · refine i_aload_n C dX6_readStrap_33 1 rfl ?_
        refine s_iconst C (1 : Int32) dX6_readStrap_34 (by decide) ?_
        refine s_vcI C [_] vmX6_fail lkX6_72 rfl rfl (by decide) hq0 (by decide) rfl rfl (Nat.le_of_ble_eq_true rfl) dX6_readStrap_35 (ctX6_fail C.inj hq0) h (fun x21 M20 h => ?_)
        exact s_zret C E dX6_readStrap_38 h
      · exact sg_T.to (tX6_readStrap_39 C E _ _ _ h hq0) [1, 0] rfl
    · exact sg_T.to (tX6_readStrap_39 C E _ _ _ h hq0) [1, 0] rfl
theorem ctX6_readStrap {ad : Nat → Nat} {V : sg_V} {N : Nat} (hi : sg_inj Yc ad) {a0_ : Nat} {M : sg_M} (hq0 : sg_K Yc a0_ 6) : ∀ res, fX6_readStrap N a0_ M = some res → sg_cI Yc ad V yX6_readStrap cX6_readStrap 4 .boolean 6 [.ref (ad a0_)] M res := fun res h => sg_bodyI (by decide) hi (Nat.le_of_ble_eq_true rfl) (fun X hX C E => by subst hX; exact tX6_readStrap C E _  _ hq0 h)
def fX6_readPad (N : Nat) (a0_ : Nat) (M : sg_M) : Option (Int32 × sg_M) :=
  sg_b (fX6_needPlace N a0_ M) (fun (x2 : Int32) (M1 : sg_M) =>
  if x2 = 0 then (
  some ((0 : Int32), M1)) else (
  sg_b (fX4_isPad N (Yc.2.2.2 a0_ 3) (M1.1 a0_ 11) M1) (fun (x4 : Int32) (M3 : sg_M) =>
  if x4 = 0 then (
  sg_m (sg_uI M3 (Yc.2.2.2 a0_ 3) 7 ((M3.1 (Yc.2.2.2 a0_ 3) 7) ||| ((1 : Int32) <<< ((M3.1 a0_ 11) &&& 31)))) (fun M5 : sg_M =>
  sg_b (fX6_needSign N a0_ M5) (fun (x7 : Int32) (M6 : sg_M) =>
  if sg_bz x7 = true then some (x7, M6) else none))) else (
  sg_b (fX6_fail N a0_ (2 : Int32) M3) (fun (x9 : Int32) (M8 : sg_M) =>
  if sg_bz x9 = true then some (x9, M8) else none)))))
set_option maxHeartbeats 4000000 in
set_option maxRecDepth 100000 in
theorem tX6_readPad {ad : Nat → Nat} {X : sg_X} {N : Nat} {r : Int32 × sg_M} (C : sg_C Yc ad X cX6_readPad RX6 1 6) (E : sg_eI Yc ad X cX6_readPad .boolean r) : ∀ (a0_ : Nat) (M : sg_M), sg_K Yc a0_ 6 → fX6_readPad N a0_ M = some r → sg_T Yc ad X 1 0 [(0, .ref (ad a0_))] [] M := by
  intro a0_ M hq0 h
  unfold fX6_readPad at h
  refine i_aload_n C dX6_readPad_0 0 rfl ?_
  refine s_vcI C [] vmX6_needPlace lkX6_124 rfl rfl (by decide) hq0 (by decide) rfl rfl (Nat.le_of_ble_eq_true rfl) dX6_readPad_1 (ctX6_needPlace C.inj hq0) h (fun x2 M1 h => ?_)
  refine s_if_ne C 9 (by decide) dX6_readPad_4 h (fun _ h => ?_) (fun _ h => ?_)
  · refine s_iconst C (0 : Int32) dX6_readPad_7 (by decide) ?_
    exact s_zret1 C E (by decide) dX6_readPad_8 h
  · refine i_aload_n C dX6_readPad_9 0 rfl ?_
    refine gf6_24 C hq0 dX6_readPad_10 ?_
    refine i_aload_n C dX6_readPad_13 0 rfl ?_
    refine gf6_50 C hq0 dX6_readPad_14 ?_
    refine s_vcI C [_] vmX4_isPad lkX6_142 rfl rfl (by decide) (ky6_3 hq0) (by decide) rfl rfl (Nat.le_of_ble_eq_true rfl) dX6_readPad_17 (ctX4_isPad C.inj (ky6_3 hq0)) h (fun x4 M3 h => ?_)
    refine s_if_eq C 29 (by decide) dX6_readPad_20 h (fun _ h => ?_) (fun _ h => ?_)
    · refine i_aload_n C dX6_readPad_29 0 rfl ?_
      refine gf6_24 C hq0 dX6_readPad_30 ?_
      refine s_dup C dX6_readPad_33 rfl ?_
      refine gf6_145 C (ky6_3 hq0) dX6_readPad_34 ?_
      refine s_iconst C (1 : Int32) dX6_readPad_37 (by decide) ?_
      refine i_aload_n C dX6_readPad_38 0 rfl ?_
      refine gf6_50 C hq0 dX6_readPad_39 ?_
      refine s_ishl C dX6_readPad_42 ?_
      refine s_ior C dX6_readPad_43 ?_
      refine pf6_145 C (ky6_3 hq0) dX6_readPad_44 ?_
      refine z_gM h (fun M5 h => ?_)
      refine i_aload_n C dX6_readPad_47 0 rfl ?_
      refine s_vcI C [] vmX6_needSign lkX6_121 rfl rfl (by decide) hq0 (by decide) rfl rfl (Nat.le_of_ble_eq_true rfl) dX6_readPad_48 (ctX6_needSign C.inj hq0) h (fun x7 M6 h => ?_)
      exact s_zret C E dX6_readPad_51 h
    · refine i_aload_n C dX6_readPad_23 0 rfl ?_
      refine s_iconst C (2 : Int32) dX6_readPad_24 (by decide) ?_
      refine s_vcI C [_] vmX6_fail lkX6_72 rfl rfl (by decide) hq0 (by decide) rfl rfl (Nat.le_of_ble_eq_true rfl) dX6_readPad_25 (ctX6_fail C.inj hq0) h (fun x9 M8 h => ?_)
      exact s_zret C E dX6_readPad_28 h
theorem ctX6_readPad {ad : Nat → Nat} {V : sg_V} {N : Nat} (hi : sg_inj Yc ad) {a0_ : Nat} {M : sg_M} (hq0 : sg_K Yc a0_ 6) : ∀ res, fX6_readPad N a0_ M = some res → sg_cI Yc ad V yX6_readPad cX6_readPad 1 .boolean 6 [.ref (ad a0_)] M res := fun res h => sg_bodyI (by decide) hi (Nat.le_of_ble_eq_true rfl) (fun X hX C E => by subst hX; exact tX6_readPad C E _  _ hq0 h)
def gX6_readLoad_120 (N : Nat)   (M : sg_M) : Option (Int32 × sg_M) :=
  some ((1 : Int32), M)
set_option maxHeartbeats 4000000 in
set_option maxRecDepth 100000 in
theorem tX6_readLoad_120 {ad : Nat → Nat} {X : sg_X} {N : Nat} {r : Int32 × sg_M} (C : sg_C Yc ad X cX6_readLoad RX6 1 6) (E : sg_eI Yc ad X cX6_readLoad .boolean r)  : ∀  (M : sg_M), gX6_readLoad_120 N  M = some r → sg_T Yc ad X 1 120 [] [] M := by
  intro  M h 
  unfold gX6_readLoad_120 at h
  refine s_iconst C (1 : Int32) dX6_readLoad_120 (by decide) ?_
  refine s_goto C 125 (by decide) dX6_readLoad_121 ?_
  exact s_zret1 C E (by decide) dX6_readLoad_125 h
def gX6_readLoad_104 (N : Nat)  (a0_ : Nat) (M : sg_M) : Option (Int32 × sg_M) :=
  if (M.1 a0_ 5) = (3 : Int32) then (
  gX6_readLoad_120 N M) else (
  sg_b (fX6_fail N a0_ (1 : Int32) M) (fun (x2 : Int32) (M1 : sg_M) =>
  if x2 = 0 then (
  some ((0 : Int32), M1)) else (
  gX6_readLoad_120 N M1)))
set_option maxHeartbeats 4000000 in
set_option maxRecDepth 100000 in
theorem tX6_readLoad_104 {ad : Nat → Nat} {X : sg_X} {N : Nat} {r : Int32 × sg_M} (C : sg_C Yc ad X cX6_readLoad RX6 1 6) (E : sg_eI Yc ad X cX6_readLoad .boolean r)  : ∀ (a0_ : Nat) (M : sg_M), gX6_readLoad_104 N a0_ M = some r → sg_K Yc a0_ 6 → sg_T Yc ad X 1 104 [(0, .ref (ad a0_))] [] M := by
  intro a0_ M h hq0
  unfold gX6_readLoad_104 at h
  refine i_aload_n C dX6_readLoad_104 0 rfl ?_
  refine gf6_32 C hq0 dX6_readLoad_105 ?_
  refine s_iconst C (3 : Int32) dX6_readLoad_108 (by decide) ?_
  refine s_icmp_eq C 120 (by decide) dX6_readLoad_109 h (fun _ h => ?_) (fun _ h => ?_)
  · exact sg_T.to (tX6_readLoad_120 C E _ h ) [] rfl
  · refine i_aload_n C dX6_readLoad_112 0 rfl ?_
    refine s_iconst C (1 : Int32) dX6_readLoad_113 (by decide) ?_
    refine s_vcI C [_] vmX6_fail lkX6_72 rfl rfl (by decide) hq0 (by decide) rfl rfl (Nat.le_of_ble_eq_true rfl) dX6_readLoad_114 (ctX6_fail C.inj hq0) h (fun x2 M1 h => ?_)
    refine s_if_eq C 124 (by decide) dX6_readLoad_117 h (fun _ h => ?_) (fun _ h => ?_)
    · refine s_iconst C (0 : Int32) dX6_readLoad_124 (by decide) ?_
      exact s_zret1 C E (by decide) dX6_readLoad_125 h
    · exact sg_T.to (tX6_readLoad_120 C E _ h ) [] rfl
def fX6_readLoad (N : Nat) (a0_ : Nat) (M : sg_M) : Option (Int32 × sg_M) :=
  sg_b (fX6_needPlace N a0_ M) (fun (x4 : Int32) (M3 : sg_M) =>
  if x4 = 0 then (
  some ((0 : Int32), M3)) else (
  if sg_ib (M3.1 a0_ 11) (Yc.2.2.1 (Yc.2.2.2 (Yc.2.2.2 a0_ 3) 12)) = true then
  if (M3.1 (Yc.2.2.2 (Yc.2.2.2 a0_ 3) 12) ((M3.1 a0_ 11)).toNatClampNeg) ≤ 0 then (
  sg_b (fX6_needNumber N a0_ 12 (1 : Int32) (99 : Int32) M3) (fun (x6 : Int32) (M5 : sg_M) =>
  if x6 = 0 then (
  some ((0 : Int32), M5)) else (
  if sg_ib (M5.1 a0_ 11) (Yc.2.2.1 (Yc.2.2.2 (Yc.2.2.2 a0_ 3) 12)) = true then
  sg_m (sg_uI M5 (Yc.2.2.2 (Yc.2.2.2 a0_ 3) 12) ((M5.1 a0_ 11)).toNatClampNeg (M5.1 a0_ 8)) (fun M7 : sg_M =>
  sg_bv (fX6_step N a0_ M7) (fun M8 : sg_M =>
  sg_b (fX6_isWord N a0_ 13 M8) (fun (x10 : Int32) (M9 : sg_M) =>
  if x10 = 0 then (
  gX6_readLoad_104 N a0_ M9) else (
  sg_b (fX6_needBounds N a0_ (1 : Int32) (3 : Int32) M9) (fun (x12 : Int32) (M11 : sg_M) =>
  if x12 = 0 then (
  some ((0 : Int32), M11)) else (
  if sg_ib (M11.1 a0_ 11) (Yc.2.2.1 (Yc.2.2.2 (Yc.2.2.2 a0_ 3) 13)) = true then
  sg_m (sg_uI M11 (Yc.2.2.2 (Yc.2.2.2 a0_ 3) 13) ((M11.1 a0_ 11)).toNatClampNeg (M11.1 a0_ 8)) (fun M13 : sg_M =>
  sg_bv (fX6_step N a0_ M13) (fun M14 : sg_M =>
  gX6_readLoad_104 N a0_ M14))
  else none))))))
  else none))) else (
  sg_b (fX6_fail N a0_ (2 : Int32) M3) (fun (x16 : Int32) (M15 : sg_M) =>
  if sg_bz x16 = true then some (x16, M15) else none))
  else none))
set_option maxHeartbeats 4000000 in
set_option maxRecDepth 100000 in
theorem tX6_readLoad {ad : Nat → Nat} {X : sg_X} {N : Nat} {r : Int32 × sg_M} (C : sg_C Yc ad X cX6_readLoad RX6 1 6) (E : sg_eI Yc ad X cX6_readLoad .boolean r) : ∀ (a0_ : Nat) (M : sg_M), sg_K Yc a0_ 6 → fX6_readLoad N a0_ M = some r → sg_T Yc ad X 1 0 [(0, .ref (ad a0_))] [] M := by
  intro a0_ M hq0 h
  unfold fX6_readLoad at h
  refine i_aload_n C dX6_readLoad_0 0 rfl ?_
  refine s_vcI C [] vmX6_needPlace lkX6_124 rfl rfl (by decide) hq0 (by decide) rfl rfl (Nat.le_of_ble_eq_true rfl) dX6_readLoad_1 (ctX6_needPlace C.inj hq0) h (fun x4 M3 h => ?_)
  refine s_if_ne C 9 (by decide) dX6_readLoad_4 h (fun _ h => ?_) (fun _ h => ?_)
  · refine s_iconst C (0 : Int32) dX6_readLoad_7 (by decide) ?_
    exact s_zret1 C E (by decide) dX6_readLoad_8 h
  · refine i_aload_n C dX6_readLoad_9 0 rfl ?_
    refine gf6_24 C hq0 dX6_readLoad_10 ?_
    refine gf6_148 C (ky6_3 hq0) dX6_readLoad_13 ?_
    refine i_aload_n C dX6_readLoad_16 0 rfl ?_
    refine gf6_50 C hq0 dX6_readLoad_17 ?_
    refine s_iald C (ky4_12 (ky6_3 hq0)) dX6_readLoad_20 h (fun h => ?_)
    refine s_if_le C 30 (by decide) dX6_readLoad_21 h (fun _ h => ?_) (fun _ h => ?_)
    · refine i_aload_n C dX6_readLoad_30 0 rfl ?_
      refine s_ldcS C (tx := "draws") 12 (List.mem_of_getElem? (i := 12) rfl) dX6_readLoad_31 ?_
      refine s_iconst C (1 : Int32) dX6_readLoad_33 (by decide) ?_
      refine s_bipush C (99 : Int32) dX6_readLoad_34 (by decide) ?_
      refine s_vcI C [_, _, _] vmX6_needNumber lkX6_101 rfl rfl (by decide) hq0 (by decide) rfl rfl (Nat.le_of_ble_eq_true rfl) dX6_readLoad_36 (ctX6_needNumber C.inj hq0 (by decide)) h (fun x6 M5 h => ?_)
      refine s_if_ne C 44 (by decide) dX6_readLoad_39 h (fun _ h => ?_) (fun _ h => ?_)
      · refine s_iconst C (0 : Int32) dX6_readLoad_42 (by decide) ?_
        exact s_zret1 C E (by decide) dX6_readLoad_43 h
      · refine i_aload_n C dX6_readLoad_44 0 rfl ?_
        refine gf6_24 C hq0 dX6_readLoad_45 ?_
        refine gf6_148 C (ky6_3 hq0) dX6_readLoad_48 ?_
        refine i_aload_n C dX6_readLoad_51 0 rfl ?_
        refine gf6_50 C hq0 dX6_readLoad_52 ?_
        refine i_aload_n C dX6_readLoad_55 0 rfl ?_
        refine gf6_41 C hq0 dX6_readLoad_56 ?_
        refine s_iast C (ky4_12 (ky6_3 hq0)) dX6_readLoad_59 h (fun h => ?_)
        refine z_gM h (fun M7 h => ?_)
        refine i_aload_n C dX6_readLoad_60 0 rfl ?_
        refine s_vcV C [] vmX6_step lkX6_59 rfl rfl (by decide) hq0 (by decide) rfl rfl (Nat.le_of_ble_eq_true rfl) dX6_readLoad_61 (ctX6_step C.inj hq0) h (fun M8 h => ?_)
        refine i_aload_n C dX6_readLoad_64 0 rfl ?_
        refine s_ldcS C (tx := "group") 13 (List.mem_of_getElem? (i := 13) rfl) dX6_readLoad_65 ?_
        refine s_vcI C [_] vmX6_isWord lkX6_64 rfl rfl (by decide) hq0 (by decide) rfl rfl (Nat.le_of_ble_eq_true rfl) dX6_readLoad_67 (ctX6_isWord C.inj hq0 (by decide)) h (fun x10 M9 h => ?_)
        refine s_if_eq C 104 (by decide) dX6_readLoad_70 h (fun _ h => ?_) (fun _ h => ?_)
        · exact sg_T.to (tX6_readLoad_104 C E _ _ h hq0) [0] rfl
        · refine i_aload_n C dX6_readLoad_73 0 rfl ?_
          refine s_iconst C (1 : Int32) dX6_readLoad_74 (by decide) ?_
          refine s_iconst C (3 : Int32) dX6_readLoad_75 (by decide) ?_
          refine s_vcI C [_, _] vmX6_needBounds lkX6_155 rfl rfl (by decide) hq0 (by decide) rfl rfl (Nat.le_of_ble_eq_true rfl) dX6_readLoad_76 (ctX6_needBounds C.inj hq0) h (fun x12 M11 h => ?_)
          refine s_if_ne C 84 (by decide) dX6_readLoad_79 h (fun _ h => ?_) (fun _ h => ?_)
          · refine s_iconst C (0 : Int32) dX6_readLoad_82 (by decide) ?_
            exact s_zret1 C E (by decide) dX6_readLoad_83 h
          · refine i_aload_n C dX6_readLoad_84 0 rfl ?_
            refine gf6_24 C hq0 dX6_readLoad_85 ?_
            refine gf6_159 C (ky6_3 hq0) dX6_readLoad_88 ?_
            refine i_aload_n C dX6_readLoad_91 0 rfl ?_
            refine gf6_50 C hq0 dX6_readLoad_92 ?_
            refine i_aload_n C dX6_readLoad_95 0 rfl ?_
            refine gf6_41 C hq0 dX6_readLoad_96 ?_
            refine s_iast C (ky4_13 (ky6_3 hq0)) dX6_readLoad_99 h (fun h => ?_)
            refine z_gM h (fun M13 h => ?_)
            refine i_aload_n C dX6_readLoad_100 0 rfl ?_
            refine s_vcV C [] vmX6_step lkX6_59 rfl rfl (by decide) hq0 (by decide) rfl rfl (Nat.le_of_ble_eq_true rfl) dX6_readLoad_101 (ctX6_step C.inj hq0) h (fun M14 h => ?_)
            exact sg_T.to (tX6_readLoad_104 C E _ _ h hq0) [0] rfl
    · refine i_aload_n C dX6_readLoad_24 0 rfl ?_
      refine s_iconst C (2 : Int32) dX6_readLoad_25 (by decide) ?_
      refine s_vcI C [_] vmX6_fail lkX6_72 rfl rfl (by decide) hq0 (by decide) rfl rfl (Nat.le_of_ble_eq_true rfl) dX6_readLoad_26 (ctX6_fail C.inj hq0) h (fun x16 M15 h => ?_)
      exact s_zret C E dX6_readLoad_29 h
theorem ctX6_readLoad {ad : Nat → Nat} {V : sg_V} {N : Nat} (hi : sg_inj Yc ad) {a0_ : Nat} {M : sg_M} (hq0 : sg_K Yc a0_ 6) : ∀ res, fX6_readLoad N a0_ M = some res → sg_cI Yc ad V yX6_readLoad cX6_readLoad 1 .boolean 6 [.ref (ad a0_)] M res := fun res h => sg_bodyI (by decide) hi (Nat.le_of_ble_eq_true rfl) (fun X hX C E => by subst hX; exact tX6_readLoad C E _  _ hq0 h)
def fX6_readBudget (N : Nat) (a0_ : Nat) (M : sg_M) : Option (Int32 × sg_M) :=
  sg_b (fX6_needBounds N a0_ (0 : Int32) (3 : Int32) M) (fun (x2 : Int32) (M1 : sg_M) =>
  if x2 = 0 then (
  some ((0 : Int32), M1)) else (
  sg_m (M1.1 a0_ 8) (fun x3 : Int32 =>
  if (((M1.1 a0_ 12) >>> (x3 &&& 31)) &&& (1 : Int32)) = (1 : Int32) then (
  sg_b (fX6_fail N a0_ (2 : Int32) M1) (fun (x5 : Int32) (M4 : sg_M) =>
  if sg_bz x5 = true then some (x5, M4) else none)) else (
  sg_m (sg_uI M1 a0_ 12 ((M1.1 a0_ 12) ||| ((1 : Int32) <<< (x3 &&& 31)))) (fun M6 : sg_M =>
  sg_b (fX6_needNumber N a0_ 15 (0 : Int32) (999 : Int32) M6) (fun (x8 : Int32) (M7 : sg_M) =>
  if x8 = 0 then (
  some ((0 : Int32), M7)) else (
  if sg_ib x3 (Yc.2.2.1 (Yc.2.2.2 (Yc.2.2.2 a0_ 3) 14)) = true then
  sg_m (sg_uI M7 (Yc.2.2.2 (Yc.2.2.2 a0_ 3) 14) (x3).toNatClampNeg (M7.1 a0_ 8)) (fun M9 : sg_M =>
  sg_b (fX6_needSign N a0_ M9) (fun (x11 : Int32) (M10 : sg_M) =>
  if sg_bz x11 = true then some (x11, M10) else none))
  else none)))))))
set_option maxHeartbeats 4000000 in
set_option maxRecDepth 100000 in
theorem tX6_readBudget {ad : Nat → Nat} {X : sg_X} {N : Nat} {r : Int32 × sg_M} (C : sg_C Yc ad X cX6_readBudget RX6 2 6) (E : sg_eI Yc ad X cX6_readBudget .boolean r) : ∀ (a0_ : Nat) (M : sg_M), sg_K Yc a0_ 6 → fX6_readBudget N a0_ M = some r → sg_T Yc ad X 2 0 [(0, .ref (ad a0_))] [] M := by
  intro a0_ M hq0 h
  unfold fX6_readBudget at h
  refine i_aload_n C dX6_readBudget_0 0 rfl ?_
  refine s_iconst C (0 : Int32) dX6_readBudget_1 (by decide) ?_
  refine s_iconst C (3 : Int32) dX6_readBudget_2 (by decide) ?_
  refine s_vcI C [_, _] vmX6_needBounds lkX6_155 rfl rfl (by decide) hq0 (by decide) rfl rfl (Nat.le_of_ble_eq_true rfl) dX6_readBudget_3 (ctX6_needBounds C.inj hq0) h (fun x2 M1 h => ?_)
  refine s_if_ne C 11 (by decide) dX6_readBudget_6 h (fun _ h => ?_) (fun _ h => ?_)
  · refine s_iconst C (0 : Int32) dX6_readBudget_9 (by decide) ?_
    exact s_zret1 C E (by decide) dX6_readBudget_10 h
  · refine i_aload_n C dX6_readBudget_11 0 rfl ?_
    refine gf6_41 C hq0 dX6_readBudget_12 ?_
    refine z_gi h (fun x3 h => ?_)
    refine i_istore_n (lv9 := [(1, _), (0, _)]) C 1 dX6_readBudget_15 rfl (by decide) rfl ?_
    refine i_aload_n C dX6_readBudget_16 1 rfl ?_
    refine gf6_53 C hq0 dX6_readBudget_17 ?_
    refine i_iload_n C dX6_readBudget_20 0 rfl ?_
    refine s_ishr C dX6_readBudget_21 ?_
    refine s_iconst C (1 : Int32) dX6_readBudget_22 (by decide) ?_
    refine s_iand C dX6_readBudget_23 ?_
    refine s_iconst C (1 : Int32) dX6_readBudget_24 (by decide) ?_
    refine s_icmp_ne C 34 (by decide) dX6_readBudget_25 h (fun _ h => ?_) (fun _ h => ?_)
    · refine i_aload_n C dX6_readBudget_28 1 rfl ?_
      refine s_iconst C (2 : Int32) dX6_readBudget_29 (by decide) ?_
      refine s_vcI C [_] vmX6_fail lkX6_72 rfl rfl (by decide) hq0 (by decide) rfl rfl (Nat.le_of_ble_eq_true rfl) dX6_readBudget_30 (ctX6_fail C.inj hq0) h (fun x5 M4 h => ?_)
      exact s_zret C E dX6_readBudget_33 h
    · refine i_aload_n C dX6_readBudget_34 1 rfl ?_
      refine s_dup C dX6_readBudget_35 rfl ?_
      refine gf6_53 C hq0 dX6_readBudget_36 ?_
      refine s_iconst C (1 : Int32) dX6_readBudget_39 (by decide) ?_
      refine i_iload_n C dX6_readBudget_40 0 rfl ?_
      refine s_ishl C dX6_readBudget_41 ?_
      refine s_ior C dX6_readBudget_42 ?_
      refine pf6_53 C hq0 dX6_readBudget_43 ?_
      refine z_gM h (fun M6 h => ?_)
      refine i_aload_n C dX6_readBudget_46 1 rfl ?_
      refine s_ldcS C (tx := "is") 15 (List.mem_of_getElem? (i := 15) rfl) dX6_readBudget_47 ?_
      refine s_iconst C (0 : Int32) dX6_readBudget_49 (by decide) ?_
      refine s_sipush C (999 : Int32) dX6_readBudget_50 (by decide) ?_
      refine s_vcI C [_, _, _] vmX6_needNumber lkX6_101 rfl rfl (by decide) hq0 (by decide) rfl rfl (Nat.le_of_ble_eq_true rfl) dX6_readBudget_53 (ctX6_needNumber C.inj hq0 (by decide)) h (fun x8 M7 h => ?_)
      refine s_if_ne C 61 (by decide) dX6_readBudget_56 h (fun _ h => ?_) (fun _ h => ?_)
      · refine s_iconst C (0 : Int32) dX6_readBudget_59 (by decide) ?_
        exact s_zret1 C E (by decide) dX6_readBudget_60 h
      · refine i_aload_n C dX6_readBudget_61 1 rfl ?_
        refine gf6_24 C hq0 dX6_readBudget_62 ?_
        refine gf6_164 C (ky6_3 hq0) dX6_readBudget_65 ?_
        refine i_iload_n C dX6_readBudget_68 0 rfl ?_
        refine i_aload_n C dX6_readBudget_69 1 rfl ?_
        refine gf6_41 C hq0 dX6_readBudget_70 ?_
        refine s_iast C (ky4_14 (ky6_3 hq0)) dX6_readBudget_73 h (fun h => ?_)
        refine z_gM h (fun M9 h => ?_)
        refine i_aload_n C dX6_readBudget_74 1 rfl ?_
        refine s_vcI C [] vmX6_needSign lkX6_121 rfl rfl (by decide) hq0 (by decide) rfl rfl (Nat.le_of_ble_eq_true rfl) dX6_readBudget_75 (ctX6_needSign C.inj hq0) h (fun x11 M10 h => ?_)
        exact s_zret C E dX6_readBudget_78 h
theorem ctX6_readBudget {ad : Nat → Nat} {V : sg_V} {N : Nat} (hi : sg_inj Yc ad) {a0_ : Nat} {M : sg_M} (hq0 : sg_K Yc a0_ 6) : ∀ res, fX6_readBudget N a0_ M = some res → sg_cI Yc ad V yX6_readBudget cX6_readBudget 2 .boolean 6 [.ref (ad a0_)] M res := fun res h => sg_bodyI (by decide) hi (Nat.le_of_ble_eq_true rfl) (fun X hX C E => by subst hX; exact tX6_readBudget C E _  _ hq0 h)
def gX6_readText_157 (N : Nat) (k31 : (Nat × Int32 × Int32) → sg_M → Option (Int32 × sg_M)) (a0_ : Nat) (x1_ : Int32) (x2_ : Int32) (M : sg_M) : Option (Int32 × sg_M) :=
  sg_m (sg_uI M (Yc.2.2.2 a0_ 3) 4 ((M.1 (Yc.2.2.2 a0_ 3) 4) + (1 : Int32))) (fun M1 : sg_M =>
  sg_m (x2_ + (1 : Int32)) (fun x2 : Int32 =>
  k31 (a0_, x1_, x2) M1))
set_option maxHeartbeats 4000000 in
set_option maxRecDepth 100000 in
theorem tX6_readText_157 {ad : Nat → Nat} {X : sg_X} {N : Nat} {r : Int32 × sg_M} (C : sg_C Yc ad X cX6_readText RX6 3 7) (E : sg_eI Yc ad X cX6_readText .boolean r) {k31 : (Nat × Int32 × Int32) → sg_M → Option (Int32 × sg_M)} (hk31 : ∀ (s : Nat × Int32 × Int32) (M : sg_M), k31 s M = some r → sg_K Yc s.1 6 → sg_T Yc ad X 3 31 [(0, .ref (ad (s.1))), (1, .int (s.2.1)), (2, .int (s.2.2))] [] M) : ∀ (a0_ : Nat) (x1_ : Int32) (x2_ : Int32) (M : sg_M), gX6_readText_157 N k31 a0_ x1_ x2_ M = some r → sg_K Yc a0_ 6 → sg_T Yc ad X 3 157 [(0, .ref (ad a0_)), (1, .int x1_), (2, .int x2_)] [] M := by
  intro a0_ x1_ x2_ M h hq0
  unfold gX6_readText_157 at h
  refine i_aload_n C dX6_readText_157 0 rfl ?_
  refine gf6_24 C hq0 dX6_readText_158 ?_
  refine s_dup C dX6_readText_161 rfl ?_
  refine gf6_96 C (ky6_3 hq0) dX6_readText_162 ?_
  refine s_iconst C (1 : Int32) dX6_readText_165 (by decide) ?_
  refine s_iadd C dX6_readText_166 ?_
  refine pf6_96 C (ky6_3 hq0) dX6_readText_167 ?_
  refine z_gM h (fun M1 h => ?_)
  refine z_iinc (n := 1) (c9 := (1 : Int32)) (by decide) h (fun x2 hx h => ?_)
  refine i_iinc (lv9 := [(2, _), (0, _), (1, _)]) C dX6_readText_170 2 rfl hx (by decide) rfl ?_
  refine s_goto C 31 (by decide) dX6_readText_173 ?_
  exact sg_T.to (hk31 _ _ h hq0) [1, 2, 0] rfl
def gX6_readText_80 (N : Nat) (k31 : (Nat × Int32 × Int32) → sg_M → Option (Int32 × sg_M)) (a0_ : Nat) (x2_ : Int32) (y0_ : Int32) (M : sg_M) : Option (Int32 × sg_M) :=
  sg_m y0_ (fun x3 : Int32 =>
  gX6_readText_157 N k31 a0_ x3 x2_ M)
set_option maxHeartbeats 4000000 in
set_option maxRecDepth 100000 in
theorem tX6_readText_80 {ad : Nat → Nat} {X : sg_X} {N : Nat} {r : Int32 × sg_M} (C : sg_C Yc ad X cX6_readText RX6 3 7) (E : sg_eI Yc ad X cX6_readText .boolean r) {k31 : (Nat × Int32 × Int32) → sg_M → Option (Int32 × sg_M)} (hk31 : ∀ (s : Nat × Int32 × Int32) (M : sg_M), k31 s M = some r → sg_K Yc s.1 6 → sg_T Yc ad X 3 31 [(0, .ref (ad (s.1))), (1, .int (s.2.1)), (2, .int (s.2.2))] [] M) : ∀ (a0_ : Nat) (x2_ : Int32) (y0_ : Int32) (M : sg_M), gX6_readText_80 N k31 a0_ x2_ y0_ M = some r → sg_K Yc a0_ 6 → sg_T Yc ad X 3 80 [(0, .ref (ad a0_)), (2, .int x2_)] [.int y0_] M := by
  intro a0_ x2_ y0_ M h hq0
  unfold gX6_readText_80 at h
  refine z_gi h (fun x3 h => ?_)
  refine i_istore_n (lv9 := [(1, _), (0, _), (2, _)]) C 1 dX6_readText_80 rfl (by decide) rfl ?_
  refine s_goto C 157 (by decide) dX6_readText_81 ?_
  exact sg_T.to (tX6_readText_157 C E hk31 _ _ _ _ h hq0) [1, 0, 2] rfl
def bX6_readText_31 (N : Nat)  (k31 : (Nat × Int32 × Int32) → sg_M → Option (Int32 × sg_M)) (s : Nat × Int32 × Int32) (M : sg_M) : Option (Int32 × sg_M) :=
  if (700 : Int32) < s.2.2 then (
  if sg_bz s.2.1 = true then some (s.2.1, M) else none) else (
  if s.2.1 = 0 then (
  if sg_bz s.2.1 = true then some (s.2.1, M) else none) else (
  sg_bv (fX6_step N s.1 M) (fun M4 : sg_M =>
  if (M4.1 s.1 5) = 0 then (
  some ((1 : Int32), M4)) else (
  if s.2.2 = 0 then (
  sg_b (fX6_isWord N s.1 0 M4) (fun (x6 : Int32) (M5 : sg_M) =>
  if x6 = 0 then (
  sg_b (fX6_fail N s.1 (1 : Int32) M5) (fun (x8 : Int32) (M7 : sg_M) =>
  gX6_readText_80 N k31 s.1 s.2.2 x8 M7)) else (
  sg_b (fX6_readGrid N s.1 M5) (fun (x10 : Int32) (M9 : sg_M) =>
  gX6_readText_80 N k31 s.1 s.2.2 x10 M9)))) else (
  sg_b (fX6_isWord N s.1 6 M4) (fun (x12 : Int32) (M11 : sg_M) =>
  if x12 = 0 then (
  sg_b (fX6_isWord N s.1 10 M11) (fun (x14 : Int32) (M13 : sg_M) =>
  if x14 = 0 then (
  sg_b (fX6_isWord N s.1 11 M13) (fun (x16 : Int32) (M15 : sg_M) =>
  if x16 = 0 then (
  sg_b (fX6_isWord N s.1 14 M15) (fun (x18 : Int32) (M17 : sg_M) =>
  if x18 = 0 then (
  sg_b (fX6_fail N s.1 (1 : Int32) M17) (fun (x20 : Int32) (M19 : sg_M) =>
  sg_m x20 (fun x21 : Int32 =>
  gX6_readText_157 N k31 s.1 x21 s.2.2 M19))) else (
  sg_b (fX6_readBudget N s.1 M17) (fun (x23 : Int32) (M22 : sg_M) =>
  sg_m x23 (fun x24 : Int32 =>
  gX6_readText_157 N k31 s.1 x24 s.2.2 M22))))) else (
  sg_b (fX6_readLoad N s.1 M15) (fun (x26 : Int32) (M25 : sg_M) =>
  sg_m x26 (fun x27 : Int32 =>
  gX6_readText_157 N k31 s.1 x27 s.2.2 M25))))) else (
  sg_b (fX6_readPad N s.1 M13) (fun (x29 : Int32) (M28 : sg_M) =>
  sg_m x29 (fun x30 : Int32 =>
  gX6_readText_157 N k31 s.1 x30 s.2.2 M28))))) else (
  sg_b (fX6_readStrap N s.1 M11) (fun (x32 : Int32) (M31 : sg_M) =>
  sg_m x32 (fun x33 : Int32 =>
  gX6_readText_157 N k31 s.1 x33 s.2.2 M31)))))))))
def gX6_readText_31 (N : Nat)  : (Nat × Int32 × Int32) → sg_M → Option (Int32 × sg_M) := sg_lp (bX6_readText_31 N ) N
set_option maxHeartbeats 4000000 in
set_option maxRecDepth 100000 in
theorem tX6_readText_31 {ad : Nat → Nat} {X : sg_X} {N : Nat} {r : Int32 × sg_M} (C : sg_C Yc ad X cX6_readText RX6 3 7) (E : sg_eI Yc ad X cX6_readText .boolean r)  : ∀ (s : Nat × Int32 × Int32) (M : sg_M), gX6_readText_31 N s M = some r → sg_K Yc s.1 6 → sg_T Yc ad X 3 31 [(0, .ref (ad (s.1))), (1, .int (s.2.1)), (2, .int (s.2.2))] [] M := by
  have key : ∀ n : Nat, ∀ (s : Nat × Int32 × Int32) (M : sg_M), sg_lp (bX6_readText_31 N) n s M = some r → sg_K Yc s.1 6 → sg_T Yc ad X 3 31 [(0, .ref (ad (s.1))), (1, .int (s.2.1)), (2, .int (s.2.2))] [] M := by
    intro n
    induction n with
    | zero => intro s M h; cases h
    | succ n ih =>
      intro s M h hq0
      have h : bX6_readText_31 N (sg_lp (bX6_readText_31 N) n) s M = some r := h
      generalize sg_lp (bX6_readText_31 N) n = k31 at h ih
      have hk31 := ih
      unfold bX6_readText_31 at h
      refine i_iload_n C dX6_readText_31 2 rfl ?_
      refine s_sipush C (700 : Int32) dX6_readText_32 (by decide) ?_
      refine s_icmp_gt C 176 (by decide) dX6_readText_35 h (fun _ h => ?_) (fun _ h => ?_)
      · refine i_iload_n C dX6_readText_176 1 rfl ?_
        exact s_zret C E dX6_readText_177 h
      · refine i_iload_n C dX6_readText_38 1 rfl ?_
        refine s_if_eq C 176 (by decide) dX6_readText_39 h (fun _ h => ?_) (fun _ h => ?_)
        · refine i_iload_n C dX6_readText_176 1 rfl ?_
          exact s_zret C E dX6_readText_177 h
        · refine i_aload_n C dX6_readText_42 0 rfl ?_
          refine s_vcV C [] vmX6_step lkX6_59 rfl rfl (by decide) hq0 (by decide) rfl rfl (Nat.le_of_ble_eq_true rfl) dX6_readText_43 (ctX6_step C.inj hq0) h (fun M4 h => ?_)
          refine i_aload_n C dX6_readText_46 0 rfl ?_
          refine gf6_32 C hq0 dX6_readText_47 ?_
          refine s_if_ne C 55 (by decide) dX6_readText_50 h (fun _ h => ?_) (fun _ h => ?_)
          · refine s_iconst C (1 : Int32) dX6_readText_53 (by decide) ?_
            exact s_zret1 C E (by decide) dX6_readText_54 h
          · refine i_iload_n C dX6_readText_55 2 rfl ?_
            refine s_if_ne C 84 (by decide) dX6_readText_56 h (fun _ h => ?_) (fun _ h => ?_)
            · refine i_aload_n C dX6_readText_59 0 rfl ?_
              refine s_ldcS C (tx := "grid") 0 (List.mem_of_getElem? (i := 0) rfl) dX6_readText_60 ?_
              refine s_vcI C [_] vmX6_isWord lkX6_64 rfl rfl (by decide) hq0 (by decide) rfl rfl (Nat.le_of_ble_eq_true rfl) dX6_readText_62 (ctX6_isWord C.inj hq0 (by decide)) h (fun x6 M5 h => ?_)
              refine s_if_eq C 75 (by decide) dX6_readText_65 h (fun _ h => ?_) (fun _ h => ?_)
              · refine i_aload_n C dX6_readText_75 0 rfl ?_
                refine s_iconst C (1 : Int32) dX6_readText_76 (by decide) ?_
                refine s_vcI C [_] vmX6_fail lkX6_72 rfl rfl (by decide) hq0 (by decide) rfl rfl (Nat.le_of_ble_eq_true rfl) dX6_readText_77 (ctX6_fail C.inj hq0) h (fun x8 M7 h => ?_)
                exact sg_T.to (tX6_readText_80 C E hk31 _ _ _ _ h hq0) [0, 2] rfl
              · refine i_aload_n C dX6_readText_68 0 rfl ?_
                refine s_vcI C [] vmX6_readGrid lkX6_68 rfl rfl (by decide) hq0 (by decide) rfl rfl (Nat.le_of_ble_eq_true rfl) dX6_readText_69 (ctX6_readGrid C.inj hq0) h (fun x10 M9 h => ?_)
                refine s_goto C 80 (by decide) dX6_readText_72 ?_
                exact sg_T.to (tX6_readText_80 C E hk31 _ _ _ _ h hq0) [0, 2] rfl
            · refine i_aload_n C dX6_readText_84 0 rfl ?_
              refine s_ldcS C (tx := "strap") 6 (List.mem_of_getElem? (i := 6) rfl) dX6_readText_85 ?_
              refine s_vcI C [_] vmX6_isWord lkX6_64 rfl rfl (by decide) hq0 (by decide) rfl rfl (Nat.le_of_ble_eq_true rfl) dX6_readText_87 (ctX6_isWord C.inj hq0 (by decide)) h (fun x12 M11 h => ?_)
              refine s_if_eq C 101 (by decide) dX6_readText_90 h (fun _ h => ?_) (fun _ h => ?_)
              · refine i_aload_n C dX6_readText_101 0 rfl ?_
                refine s_ldcS C (tx := "pad") 10 (List.mem_of_getElem? (i := 10) rfl) dX6_readText_102 ?_
                refine s_vcI C [_] vmX6_isWord lkX6_64 rfl rfl (by decide) hq0 (by decide) rfl rfl (Nat.le_of_ble_eq_true rfl) dX6_readText_104 (ctX6_isWord C.inj hq0 (by decide)) h (fun x14 M13 h => ?_)
                refine s_if_eq C 118 (by decide) dX6_readText_107 h (fun _ h => ?_) (fun _ h => ?_)
                · refine i_aload_n C dX6_readText_118 0 rfl ?_
                  refine s_ldcS C (tx := "load") 11 (List.mem_of_getElem? (i := 11) rfl) dX6_readText_119 ?_
                  refine s_vcI C [_] vmX6_isWord lkX6_64 rfl rfl (by decide) hq0 (by decide) rfl rfl (Nat.le_of_ble_eq_true rfl) dX6_readText_121 (ctX6_isWord C.inj hq0 (by decide)) h (fun x16 M15 h => ?_)
                  refine s_if_eq C 135 (by decide) dX6_readText_124 h (fun _ h => ?_) (fun _ h => ?_)
                  · refine i_aload_n C dX6_readText_135 0 rfl ?_
                    refine s_ldcS C (tx := "budget") 14 (List.mem_of_getElem? (i := 14) rfl) dX6_readText_136 ?_
                    refine s_vcI C [_] vmX6_isWord lkX6_64 rfl rfl (by decide) hq0 (by decide) rfl rfl (Nat.le_of_ble_eq_true rfl) dX6_readText_138 (ctX6_isWord C.inj hq0 (by decide)) h (fun x18 M17 h => ?_)
                    refine s_if_eq C 151 (by decide) dX6_readText_141 h (fun _ h => ?_) (fun _ h => ?_)
                    · refine i_aload_n C dX6_readText_151 0 rfl ?_
                      refine s_iconst C (1 : Int32) dX6_readText_152 (by decide) ?_
                      refine s_vcI C [_] vmX6_fail lkX6_72 rfl rfl (by decide) hq0 (by decide) rfl rfl (Nat.le_of_ble_eq_true rfl) dX6_readText_153 (ctX6_fail C.inj hq0) h (fun x20 M19 h => ?_)
                      refine z_gi h (fun x21 h => ?_)
                      refine i_istore_n (lv9 := [(1, _), (0, _), (2, _)]) C 1 dX6_readText_156 rfl (by decide) rfl ?_
                      exact sg_T.to (tX6_readText_157 C E hk31 _ _ _ _ h hq0) [1, 0, 2] rfl
                    · refine i_aload_n C dX6_readText_144 0 rfl ?_
                      refine s_vcI C [] vmX6_readBudget lkX6_93 rfl rfl (by decide) hq0 (by decide) rfl rfl (Nat.le_of_ble_eq_true rfl) dX6_readText_145 (ctX6_readBudget C.inj hq0) h (fun x23 M22 h => ?_)
                      refine s_goto C 156 (by decide) dX6_readText_148 ?_
                      refine z_gi h (fun x24 h => ?_)
                      refine i_istore_n (lv9 := [(1, _), (0, _), (2, _)]) C 1 dX6_readText_156 rfl (by decide) rfl ?_
                      exact sg_T.to (tX6_readText_157 C E hk31 _ _ _ _ h hq0) [1, 0, 2] rfl
                  · refine i_aload_n C dX6_readText_127 0 rfl ?_
                    refine s_vcI C [] vmX6_readLoad lkX6_88 rfl rfl (by decide) hq0 (by decide) rfl rfl (Nat.le_of_ble_eq_true rfl) dX6_readText_128 (ctX6_readLoad C.inj hq0) h (fun x26 M25 h => ?_)
                    refine z_gi h (fun x27 h => ?_)
                    refine i_istore_n (lv9 := [(1, _), (0, _), (2, _)]) C 1 dX6_readText_131 rfl (by decide) rfl ?_
                    refine s_goto C 157 (by decide) dX6_readText_132 ?_
                    exact sg_T.to (tX6_readText_157 C E hk31 _ _ _ _ h hq0) [1, 0, 2] rfl
                · refine i_aload_n C dX6_readText_110 0 rfl ?_
                  refine s_vcI C [] vmX6_readPad lkX6_83 rfl rfl (by decide) hq0 (by decide) rfl rfl (Nat.le_of_ble_eq_true rfl) dX6_readText_111 (ctX6_readPad C.inj hq0) h (fun x29 M28 h => ?_)
                  refine z_gi h (fun x30 h => ?_)
                  refine i_istore_n (lv9 := [(1, _), (0, _), (2, _)]) C 1 dX6_readText_114 rfl (by decide) rfl ?_
                  refine s_goto C 157 (by decide) dX6_readText_115 ?_
                  exact sg_T.to (tX6_readText_157 C E hk31 _ _ _ _ h hq0) [1, 0, 2] rfl
              · refine i_aload_n C dX6_readText_93 0 rfl ?_
                refine s_vcI C [] vmX6_readStrap lkX6_78 rfl rfl (by decide) hq0 (by decide) rfl rfl (Nat.le_of_ble_eq_true rfl) dX6_readText_94 (ctX6_readStrap C.inj hq0) h (fun x32 M31 h => ?_)
                refine z_gi h (fun x33 h => ?_)
                refine i_istore_n (lv9 := [(1, _), (0, _), (2, _)]) C 1 dX6_readText_97 rfl (by decide) rfl ?_
                refine s_goto C 157 (by decide) dX6_readText_98 ?_
                exact sg_T.to (tX6_readText_157 C E hk31 _ _ _ _ h hq0) [1, 0, 2] rfl
  exact key N
def fX6_readText (N : Nat) (a0_ : Nat) (M : sg_M) : Option (Int32 × sg_M) :=
  sg_bv (fX4_clear N (Yc.2.2.2 a0_ 3) M) (fun M34 : sg_M =>
  sg_m (sg_uI M34 a0_ 1 (0 : Int32)) (fun M35 : sg_M =>
  sg_m (sg_uI M35 a0_ 2 (-1 : Int32)) (fun M36 : sg_M =>
  sg_m (sg_uI M36 a0_ 7 (0 : Int32)) (fun M37 : sg_M =>
  sg_m (sg_uI M37 a0_ 12 (0 : Int32)) (fun M38 : sg_M =>
  sg_m (1 : Int32) (fun x39 : Int32 =>
  sg_m (0 : Int32) (fun x40 : Int32 =>
  gX6_readText_31 N (a0_, x39, x40) M38)))))))
set_option maxHeartbeats 4000000 in
set_option maxRecDepth 100000 in
theorem tX6_readText {ad : Nat → Nat} {X : sg_X} {N : Nat} {r : Int32 × sg_M} (C : sg_C Yc ad X cX6_readText RX6 3 7) (E : sg_eI Yc ad X cX6_readText .boolean r) : ∀ (a0_ : Nat) (M : sg_M), sg_K Yc a0_ 6 → fX6_readText N a0_ M = some r → sg_T Yc ad X 3 0 [(0, .ref (ad a0_))] [] M := by
  intro a0_ M hq0 h
  unfold fX6_readText at h
  refine i_aload_n C dX6_readText_0 0 rfl ?_
  refine gf6_24 C hq0 dX6_readText_1 ?_
  refine s_vcV C [] vmX4_clear lkX6_56 rfl rfl (by decide) (ky6_3 hq0) (by decide) rfl rfl (Nat.le_of_ble_eq_true rfl) dX6_readText_4 (ctX4_clear C.inj (ky6_3 hq0)) h (fun M34 h => ?_)
  refine i_aload_n C dX6_readText_7 0 rfl ?_
  refine s_iconst C (0 : Int32) dX6_readText_8 (by decide) ?_
  refine pf6_15 C hq0 dX6_readText_9 ?_
  refine z_gM h (fun M35 h => ?_)
  refine i_aload_n C dX6_readText_12 0 rfl ?_
  refine s_iconst C (-1 : Int32) dX6_readText_13 (by decide) ?_
  refine pf6_18 C hq0 dX6_readText_14 ?_
  refine z_gM h (fun M36 h => ?_)
  refine i_aload_n C dX6_readText_17 0 rfl ?_
  refine s_iconst C (0 : Int32) dX6_readText_18 (by decide) ?_
  refine pf6_38 C hq0 dX6_readText_19 ?_
  refine z_gM h (fun M37 h => ?_)
  refine i_aload_n C dX6_readText_22 0 rfl ?_
  refine s_iconst C (0 : Int32) dX6_readText_23 (by decide) ?_
  refine pf6_53 C hq0 dX6_readText_24 ?_
  refine z_gM h (fun M38 h => ?_)
  refine s_iconst C (1 : Int32) dX6_readText_27 (by decide) ?_
  refine z_gi h (fun x39 h => ?_)
  refine i_istore_n (lv9 := [(1, _), (0, _)]) C 1 dX6_readText_28 rfl (by decide) rfl ?_
  refine s_iconst C (0 : Int32) dX6_readText_29 (by decide) ?_
  refine z_gi h (fun x40 h => ?_)
  refine i_istore_n (lv9 := [(2, _), (1, _), (0, _)]) C 2 dX6_readText_30 rfl (by decide) rfl ?_
  exact sg_T.to (tX6_readText_31 C E _ _ h hq0) [2, 1, 0] rfl
theorem ctX6_readText {ad : Nat → Nat} {V : sg_V} {N : Nat} (hi : sg_inj Yc ad) {a0_ : Nat} {M : sg_M} (hq0 : sg_K Yc a0_ 6) : ∀ res, fX6_readText N a0_ M = some res → sg_cI Yc ad V yX6_readText cX6_readText 3 .boolean 7 [.ref (ad a0_)] M res := fun res h => sg_bodyI (by decide) hi (Nat.le_of_ble_eq_true rfl) (fun X hX C E => by subst hX; exact tX6_readText C E _  _ hq0 h)
