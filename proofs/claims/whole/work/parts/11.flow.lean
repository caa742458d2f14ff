def bX1_numberRows_7 (N : Nat)  (k7 : (Nat × Nat × Int32 × Int32) → sg_M → Option (sg_M)) (s : Nat × Nat × Int32 × Int32) (M : sg_M) : Option (sg_M) :=
  if (M.1 s.2.1 5) ≤ s.2.2.2 then (
  some M) else (
  if sg_ib s.2.2.2 (Yc.2.2.1 (Yc.2.2.2 s.1 6)) = true then
  sg_m (sg_uI M (Yc.2.2.2 s.1 6) (s.2.2.2).toNatClampNeg (-1 : Int32)) (fun M1 : sg_M =>
  if ((((M1.1 s.1 0) ||| s.2.2.1) >>> (s.2.2.2 &&& 31)) &&& (1 : Int32)) = 0 then (
  if sg_ib (M1.1 s.1 4) (Yc.2.2.1 (Yc.2.2.2 s.1 5)) = true then
  sg_m (sg_uI M1 (Yc.2.2.2 s.1 5) ((M1.1 s.1 4)).toNatClampNeg s.2.2.2) (fun M2 : sg_M =>
  if sg_ib s.2.2.2 (Yc.2.2.1 (Yc.2.2.2 s.1 6)) = true then
  sg_m (sg_uI M2 (Yc.2.2.2 s.1 6) (s.2.2.2).toNatClampNeg (M2.1 s.1 4)) (fun M3 : sg_M =>
  sg_m (sg_uI M3 s.1 4 ((M3.1 s.1 4) + (1 : Int32))) (fun M4 : sg_M =>
  sg_m (s.2.2.2 + (1 : Int32)) (fun x5 : Int32 =>
  k7 (s.1, s.2.1, s.2.2.1, x5) M4)))
  else none)
  else none) else (
  sg_m (s.2.2.2 + (1 : Int32)) (fun x6 : Int32 =>
  k7 (s.1, s.2.1, s.2.2.1, x6) M1)))
  else none)
def gX1_numberRows_7 (N : Nat)  : (Nat × Nat × Int32 × Int32) → sg_M → Option (sg_M) := sg_lp (bX1_numberRows_7 N ) N
set_option maxHeartbeats 4000000 in
set_option maxRecDepth 100000 in
theorem tX1_numberRows_7 {ad : Nat → Nat} {X : sg_X} {N : Nat} {r : sg_M} (C : sg_C Yc ad X cX1_numberRows RX1 4 0) (E : sg_eV Yc ad X cX1_numberRows r)  : ∀ (s : Nat × Nat × Int32 × Int32) (M : sg_M), gX1_numberRows_7 N s M = some r → sg_K Yc s.1 1 → sg_K Yc s.2.1 4 → sg_T Yc ad X 4 7 [(0, .ref (ad (s.1))), (1, .ref (ad (s.2.1))), (2, .int (s.2.2.1)), (3, .int (s.2.2.2))] [] M := by
  have key : ∀ n : Nat, ∀ (s : Nat × Nat × Int32 × Int32) (M : sg_M), sg_lp (bX1_numberRows_7 N) n s M = some r → sg_K Yc s.1 1 → sg_K Yc s.2.1 4 → sg_T Yc ad X 4 7 [(0, .ref (ad (s.1))), (1, .ref (ad (s.2.1))), (2, .int (s.2.2.1)), (3, .int (s.2.2.2))] [] M := by
    intro n
    induction n with
    | zero => intro s M h; cases h
    | succ n ih =>
      intro s M h hq0 hq1
      have h : bX1_numberRows_7 N (sg_lp (bX1_numberRows_7 N) n) s M = some r := h
      generalize sg_lp (bX1_numberRows_7 N) n = k7 at h ih
      have hk7 := ih
      unfold bX1_numberRows_7 at h
      refine i_iload_n C dX1_numberRows_7 3 rfl ?_
      refine i_aload_n C dX1_numberRows_8 1 rfl ?_
      refine gf1_48 C hq1 dX1_numberRows_9 ?_
      refine s_icmp_ge C 71 (by decide) dX1_numberRows_12 h (fun _ h => ?_) (fun _ h => ?_)
      · exact s_vret C E dX1_numberRows_71 h
      · refine i_aload_n C dX1_numberRows_15 0 rfl ?_
        refine gf1_37 C hq0 dX1_numberRows_16 ?_
        refine i_iload_n C dX1_numberRows_19 3 rfl ?_
        refine s_iconst C (-1 : Int32) dX1_numberRows_20 (by decide) ?_
        refine s_iast C (ky1_6 hq0) dX1_numberRows_21 h (fun h => ?_)
        refine z_gM h (fun M1 h => ?_)
        refine i_aload_n C dX1_numberRows_22 0 rfl ?_
        refine gf1_9 C hq0 dX1_numberRows_23 ?_
        refine i_iload_n C dX1_numberRows_26 2 rfl ?_
        refine s_ior C dX1_numberRows_27 ?_
        refine i_iload_n C dX1_numberRows_28 3 rfl ?_
        refine s_ishr C dX1_numberRows_29 ?_
        refine s_iconst C (1 : Int32) dX1_numberRows_30 (by decide) ?_
        refine s_iand C dX1_numberRows_31 ?_
        refine s_if_ne C 65 (by decide) dX1_numberRows_32 h (fun _ h => ?_) (fun _ h => ?_)
        · refine i_aload_n C dX1_numberRows_35 0 rfl ?_
          refine gf1_33 C hq0 dX1_numberRows_36 ?_
          refine i_aload_n C dX1_numberRows_39 0 rfl ?_
          refine gf1_30 C hq0 dX1_numberRows_40 ?_
          refine i_iload_n C dX1_numberRows_43 3 rfl ?_
          refine s_iast C (ky1_5 hq0) dX1_numberRows_44 h (fun h => ?_)
          refine z_gM h (fun M2 h => ?_)
          refine i_aload_n C dX1_numberRows_45 0 rfl ?_
          refine gf1_37 C hq0 dX1_numberRows_46 ?_
          refine i_iload_n C dX1_numberRows_49 3 rfl ?_
          refine i_aload_n C dX1_numberRows_50 0 rfl ?_
          refine gf1_30 C hq0 dX1_numberRows_51 ?_
          refine s_iast C (ky1_6 hq0) dX1_numberRows_54 h (fun h => ?_)
          refine z_gM h (fun M3 h => ?_)
          refine i_aload_n C dX1_numberRows_55 0 rfl ?_
          refine s_dup C dX1_numberRows_56 rfl ?_
          refine gf1_30 C hq0 dX1_numberRows_57 ?_
          refine s_iconst C (1 : Int32) dX1_numberRows_60 (by decide) ?_
          refine s_iadd C dX1_numberRows_61 ?_
          refine pf1_30 C hq0 dX1_numberRows_62 ?_
          refine z_gM h (fun M4 h => ?_)
          refine z_iinc (n := 1) (c9 := (1 : Int32)) (by decide) h (fun x5 hx h => ?_)
          refine i_iinc (lv9 := [(3, _), (0, _), (1, _), (2, _)]) C dX1_numberRows_65 3 rfl hx (by decide) rfl ?_
          refine s_goto C 7 (by decide) dX1_numberRows_68 ?_
          exact sg_T.to (hk7 _ _ h hq0 hq1) [1, 2, 3, 0] rfl
        · refine z_iinc (n := 1) (c9 := (1 : Int32)) (by decide) h (fun x6 hx h => ?_)
          refine i_iinc (lv9 := [(3, _), (0, _), (1, _), (2, _)]) C dX1_numberRows_65 3 rfl hx (by decide) rfl ?_
          refine s_goto C 7 (by decide) dX1_numberRows_68 ?_
          exact sg_T.to (hk7 _ _ h hq0 hq1) [1, 2, 3, 0] rfl
  exact key N
def fX1_numberRows (N : Nat) (a0_ : Nat) (a1_ : Nat) (x2_ : Int32) (M : sg_M) : Option (sg_M) :=
  sg_m (sg_uI M a0_ 4 (0 : Int32)) (fun M7 : sg_M =>
  sg_m (0 : Int32) (fun x8 : Int32 =>
  gX1_numberRows_7 N (a0_, a1_, x2_, x8) M7))
set_option maxHeartbeats 4000000 in
set_option maxRecDepth 100000 in
theorem tX1_numberRows {ad : Nat → Nat} {X : sg_X} {N : Nat} {r : sg_M} (C : sg_C Yc ad X cX1_numberRows RX1 4 0) (E : sg_eV Yc ad X cX1_numberRows r) : ∀ (a0_ : Nat) (a1_ : Nat) (x2_ : Int32) (M : sg_M), sg_K Yc a0_ 1 → sg_K Yc a1_ 4 → fX1_numberRows N a0_ a1_ x2_ M = some r → sg_T Yc ad X 4 0 [(0, .ref (ad a0_)), (1, .ref (ad a1_)), (2, .int x2_)] [] M := by
  intro a0_ a1_ x2_ M hq0 hq1 h
  unfold fX1_numberRows at h
  refine i_aload_n C dX1_numberRows_0 0 rfl ?_
  refine s_iconst C (0 : Int32) dX1_numberRows_1 (by decide) ?_
  refine pf1_30 C hq0 dX1_numberRows_2 ?_
  refine z_gM h (fun M7 h => ?_)
  refine s_iconst C (0 : Int32) dX1_numberRows_5 (by decide) ?_
  refine z_gi h (fun x8 h => ?_)
  refine i_istore_n (lv9 := [(3, _), (0, _), (1, _), (2, _)]) C 3 dX1_numberRows_6 rfl (by decide) rfl ?_
  exact sg_T.to (tX1_numberRows_7 C E _ _ h hq0 hq1) [1, 2, 3, 0] rfl
theorem ctX1_numberRows {ad : Nat → Nat} {V : sg_V} {N : Nat} (hi : sg_inj Yc ad) {a0_ : Nat} {a1_ : Nat} {x2_ : Int32} {M : sg_M} (hq0 : sg_K Yc a0_ 1) (hq1 : sg_K Yc a1_ 4) : ∀ res, fX1_numberRows N a0_ a1_ x2_ M = some res → sg_cV Yc ad V yX1_numberRows cX1_numberRows 4 0 [.ref (ad a0_), .ref (ad a1_), .int x2_] M res := fun res h => sg_bodyV (by decide) hi (Nat.le_of_ble_eq_true rfl) (fun X hX C E => by subst hX; exact tX1_numberRows C E _ _ _  _ hq0 hq1 h)
def gX1_fillRows_139 (N : Nat) (k54 : (Nat × Nat × Nat × Int32) → sg_M → Option (sg_M)) (a0_ : Nat) (a1_ : Nat) (a2_ : Nat) (x4_ : Int32) (x5_ : Int32) (x6_ : Int32) (M : sg_M) : Option (sg_M) :=
  if x5_ = (-1 : Int32) then (
  sg_m (x4_ + (1 : Int32)) (fun x1 : Int32 =>
  k54 (a0_, a1_, a2_, x1) M)) else (
  if x6_ = (-1 : Int32) then (
  sg_m (x4_ + (1 : Int32)) (fun x2 : Int32 =>
  k54 (a0_, a1_, a2_, x2) M)) else (
  if sg_ib x5_ (Yc.2.2.1 (Yc.2.2.2 a0_ 7)) = true then
  if sg_ib x6_ (Yc.2.2.1 (Yc.2.2.2 (Yc.2.2.2 a0_ 7) (x5_).toNatClampNeg)) = true then
  if sg_ib x4_ (Yc.2.2.1 a2_) = true then
  if sg_ib x6_ (Yc.2.2.1 (Yc.2.2.2 (Yc.2.2.2 a0_ 7) (x5_).toNatClampNeg)) = true then
  sg_m (sg_uJ M (Yc.2.2.2 (Yc.2.2.2 a0_ 7) (x5_).toNatClampNeg) (x6_).toNatClampNeg ((M.2 (Yc.2.2.2 (Yc.2.2.2 a0_ 7) (x5_).toNatClampNeg) (x6_).toNatClampNeg) - ((M.1 a2_ (x4_).toNatClampNeg)).toInt64)) (fun M4 : sg_M =>
  if sg_ib x6_ (Yc.2.2.1 (Yc.2.2.2 a0_ 7)) = true then
  if sg_ib x5_ (Yc.2.2.1 (Yc.2.2.2 (Yc.2.2.2 a0_ 7) (x6_).toNatClampNeg)) = true then
  if sg_ib x4_ (Yc.2.2.1 a2_) = true then
  if sg_ib x5_ (Yc.2.2.1 (Yc.2.2.2 (Yc.2.2.2 a0_ 7) (x6_).toNatClampNeg)) = true then
  sg_m (sg_uJ M4 (Yc.2.2.2 (Yc.2.2.2 a0_ 7) (x6_).toNatClampNeg) (x5_).toNatClampNeg ((M4.2 (Yc.2.2.2 (Yc.2.2.2 a0_ 7) (x6_).toNatClampNeg) (x5_).toNatClampNeg) - ((M4.1 a2_ (x4_).toNatClampNeg)).toInt64)) (fun M6 : sg_M =>
  sg_m (x4_ + (1 : Int32)) (fun x7 : Int32 =>
  k54 (a0_, a1_, a2_, x7) M6))
  else none
  else none
  else none
  else none)
  else none
  else none
  else none
  else none))
set_option maxHeartbeats 4000000 in
set_option maxRecDepth 100000 in
theorem tX1_fillRows_139 {ad : Nat → Nat} {X : sg_X} {N : Nat} {r : sg_M} (C : sg_C Yc ad X cX1_fillRows RX1 7 1) (E : sg_eV Yc ad X cX1_fillRows r) {k54 : (Nat × Nat × Nat × Int32) → sg_M → Option (sg_M)} (hk54 : ∀ (s : Nat × Nat × Nat × Int32) (M : sg_M), k54 s M = some r → sg_K Yc s.1 1 → sg_K Yc s.2.1 4 → sg_K Yc s.2.2.1 13 → sg_T Yc ad X 7 54 [(0, .ref (ad (s.1))), (1, .ref (ad (s.2.1))), (2, .ref (ad (s.2.2.1))), (4, .int (s.2.2.2))] [] M) : ∀ (a0_ : Nat) (a1_ : Nat) (a2_ : Nat) (x4_ : Int32) (x5_ : Int32) (x6_ : Int32) (M : sg_M), gX1_fillRows_139 N k54 a0_ a1_ a2_ x4_ x5_ x6_ M = some r → sg_K Yc a0_ 1 → sg_K Yc a1_ 4 → sg_K Yc a2_ 13 → sg_T Yc ad X 7 139 [(0, .ref (ad a0_)), (1, .ref (ad a1_)), (2, .ref (ad a2_)), (4, .int x4_), (5, .int x5_), (6, .int x6_)] [] M := by
  intro a0_ a1_ a2_ x4_ x5_ x6_ M h hq0 hq1 hq2
  unfold gX1_fillRows_139 at h
  refine i_iload C dX1_fillRows_139 4 rfl ?_
  refine s_iconst C (-1 : Int32) dX1_fillRows_141 (by decide) ?_
  refine s_icmp_eq C 187 (by decide) dX1_fillRows_142 h (fun _ h => ?_) (fun _ h => ?_)
  · refine z_iinc (n := 1) (c9 := (1 : Int32)) (by decide) h (fun x1 hx h => ?_)
    refine i_iinc (lv9 := [(4, _), (0, _), (1, _), (2, _), (5, _), (6, _)]) C dX1_fillRows_187 3 rfl hx (by decide) rfl ?_
    refine s_goto C 54 (by decide) dX1_fillRows_190 ?_
    exact sg_T.to (hk54 _ _ h hq0 hq1 hq2) [1, 2, 3, 0] rfl
  · refine i_iload C dX1_fillRows_145 5 rfl ?_
    refine s_iconst C (-1 : Int32) dX1_fillRows_147 (by decide) ?_
    refine s_icmp_eq C 187 (by decide) dX1_fillRows_148 h (fun _ h => ?_) (fun _ h => ?_)
    · refine z_iinc (n := 1) (c9 := (1 : Int32)) (by decide) h (fun x2 hx h => ?_)
      refine i_iinc (lv9 := [(4, _), (0, _), (1, _), (2, _), (5, _), (6, _)]) C dX1_fillRows_187 3 rfl hx (by decide) rfl ?_
      refine s_goto C 54 (by decide) dX1_fillRows_190 ?_
      exact sg_T.to (hk54 _ _ h hq0 hq1 hq2) [1, 2, 3, 0] rfl
    · refine i_aload_n C dX1_fillRows_151 0 rfl ?_
      refine gf1_42 C hq0 dX1_fillRows_152 ?_
      refine i_iload C dX1_fillRows_155 4 rfl ?_
      have hb3 := (sg_if h).1
      refine s_aaldJ C (ky1_7 hq0) dX1_fillRows_157 h (fun h => ?_)
      refine i_iload C dX1_fillRows_158 5 rfl ?_
      refine s_dup2 C dX1_fillRows_160 rfl rfl ?_
      refine s_lald C (ke19 (ky1_7 hq0) hb3) dX1_fillRows_161 h (fun h => ?_)
      refine i_aload_n C dX1_fillRows_162 2 rfl ?_
      refine i_iload C dX1_fillRows_163 3 rfl ?_
      refine s_iald C hq2 dX1_fillRows_165 h (fun h => ?_)
      refine s_i2l C dX1_fillRows_166 ?_
      refine s_lsub C dX1_fillRows_167 ?_
      refine s_last C (ke19 (ky1_7 hq0) hb3) dX1_fillRows_168 h (fun h => ?_)
      refine z_gM h (fun M4 h => ?_)
      refine i_aload_n C dX1_fillRows_169 0 rfl ?_
      refine gf1_42 C hq0 dX1_fillRows_170 ?_
      refine i_iload C dX1_fillRows_173 5 rfl ?_
      have hb5 := (sg_if h).1
      refine s_aaldJ C (ky1_7 hq0) dX1_fillRows_175 h (fun h => ?_)
      refine i_iload C dX1_fillRows_176 4 rfl ?_
      refine s_dup2 C dX1_fillRows_178 rfl rfl ?_
      refine s_lald C (ke19 (ky1_7 hq0) hb5) dX1_fillRows_179 h (fun h => ?_)
      refine i_aload_n C dX1_fillRows_180 2 rfl ?_
      refine i_iload C dX1_fillRows_181 3 rfl ?_
      refine s_iald C hq2 dX1_fillRows_183 h (fun h => ?_)
      refine s_i2l C dX1_fillRows_184 ?_
      refine s_lsub C dX1_fillRows_185 ?_
      refine s_last C (ke19 (ky1_7 hq0) hb5) dX1_fillRows_186 h (fun h => ?_)
      refine z_gM h (fun M6 h => ?_)
      refine z_iinc (n := 1) (c9 := (1 : Int32)) (by decide) h (fun x7 hx h => ?_)
      refine i_iinc (lv9 := [(4, _), (0, _), (1, _), (2, _), (5, _), (6, _)]) C dX1_fillRows_187 3 rfl hx (by decide) rfl ?_
      refine s_goto C 54 (by decide) dX1_fillRows_190 ?_
      exact sg_T.to (hk54 _ _ h hq0 hq1 hq2) [1, 2, 3, 0] rfl
def gX1_fillRows_115 (N : Nat) (k54 : (Nat × Nat × Nat × Int32) → sg_M → Option (sg_M)) (a0_ : Nat) (a1_ : Nat) (a2_ : Nat) (x4_ : Int32) (x5_ : Int32) (x6_ : Int32) (M : sg_M) : Option (sg_M) :=
  if x6_ = (-1 : Int32) then (
  gX1_fillRows_139 N k54 a0_ a1_ a2_ x4_ x5_ x6_ M) else (
  if sg_ib x6_ (Yc.2.2.1 (Yc.2.2.2 a0_ 7)) = true then
  if sg_ib x6_ (Yc.2.2.1 (Yc.2.2.2 (Yc.2.2.2 a0_ 7) (x6_).toNatClampNeg)) = true then
  if sg_ib x4_ (Yc.2.2.1 a2_) = true then
  if sg_ib x6_ (Yc.2.2.1 (Yc.2.2.2 (Yc.2.2.2 a0_ 7) (x6_).toNatClampNeg)) = true then
  sg_m (sg_uJ M (Yc.2.2.2 (Yc.2.2.2 a0_ 7) (x6_).toNatClampNeg) (x6_).toNatClampNeg ((M.2 (Yc.2.2.2 (Yc.2.2.2 a0_ 7) (x6_).toNatClampNeg) (x6_).toNatClampNeg) + ((M.1 a2_ (x4_).toNatClampNeg)).toInt64)) (fun M9 : sg_M =>
  gX1_fillRows_139 N k54 a0_ a1_ a2_ x4_ x5_ x6_ M9)
  else none
  else none
  else none
  else none)
set_option maxHeartbeats 4000000 in
set_option maxRecDepth 100000 in
theorem tX1_fillRows_115 {ad : Nat → Nat} {X : sg_X} {N : Nat} {r : sg_M} (C : sg_C Yc ad X cX1_fillRows RX1 7 1) (E : sg_eV Yc ad X cX1_fillRows r) {k54 : (Nat × Nat × Nat × Int32) → sg_M → Option (sg_M)} (hk54 : ∀ (s : Nat × Nat × Nat × Int32) (M : sg_M), k54 s M = some r → sg_K Yc s.1 1 → sg_K Yc s.2.1 4 → sg_K Yc s.2.2.1 13 → sg_T Yc ad X 7 54 [(0, .ref (ad (s.1))), (1, .ref (ad (s.2.1))), (2, .ref (ad (s.2.2.1))), (4, .int (s.2.2.2))] [] M) : ∀ (a0_ : Nat) (a1_ : Nat) (a2_ : Nat) (x4_ : Int32) (x5_ : Int32) (x6_ : Int32) (M : sg_M), gX1_fillRows_115 N k54 a0_ a1_ a2_ x4_ x5_ x6_ M = some r → sg_K Yc a0_ 1 → sg_K Yc a1_ 4 → sg_K Yc a2_ 13 → sg_T Yc ad X 7 115 [(0, .ref (ad a0_)), (1, .ref (ad a1_)), (2, .ref (ad a2_)), (4, .int x4_), (5, .int x5_), (6, .int x6_)] [] M := by
  intro a0_ a1_ a2_ x4_ x5_ x6_ M h hq0 hq1 hq2
  unfold gX1_fillRows_115 at h
  refine i_iload C dX1_fillRows_115 5 rfl ?_
  refine s_iconst C (-1 : Int32) dX1_fillRows_117 (by decide) ?_
  refine s_icmp_eq C 139 (by decide) dX1_fillRows_118 h (fun _ h => ?_) (fun _ h => ?_)
  · exact sg_T.to (tX1_fillRows_139 C E hk54 _ _ _ _ _ _ _ h hq0 hq1 hq2) [0, 1, 2, 3, 4, 5] rfl
  · refine i_aload_n C dX1_fillRows_121 0 rfl ?_
    refine gf1_42 C hq0 dX1_fillRows_122 ?_
    refine i_iload C dX1_fillRows_125 5 rfl ?_
    have hb8 := (sg_if h).1
    refine s_aaldJ C (ky1_7 hq0) dX1_fillRows_127 h (fun h => ?_)
    refine i_iload C dX1_fillRows_128 5 rfl ?_
    refine s_dup2 C dX1_fillRows_130 rfl rfl ?_
    refine s_lald C (ke19 (ky1_7 hq0) hb8) dX1_fillRows_131 h (fun h => ?_)
    refine i_aload_n C dX1_fillRows_132 2 rfl ?_
    refine i_iload C dX1_fillRows_133 3 rfl ?_
    refine s_iald C hq2 dX1_fillRows_135 h (fun h => ?_)
    refine s_i2l C dX1_fillRows_136 ?_
    refine s_ladd C dX1_fillRows_137 ?_
    refine s_last C (ke19 (ky1_7 hq0) hb8) dX1_fillRows_138 h (fun h => ?_)
    refine z_gM h (fun M9 h => ?_)
    exact sg_T.to (tX1_fillRows_139 C E hk54 _ _ _ _ _ _ _ h hq0 hq1 hq2) [0, 1, 2, 3, 4, 5] rfl
def bX1_fillRows_54 (N : Nat)  (k54 : (Nat × Nat × Nat × Int32) → sg_M → Option (sg_M)) (s : Nat × Nat × Nat × Int32) (M : sg_M) : Option (sg_M) :=
  if (M.1 s.2.1 6) ≤ s.2.2.2 then (
  some M) else (
  if sg_ib s.2.2.2 (Yc.2.2.1 (Yc.2.2.2 s.2.1 9)) = true then
  if sg_ib (M.1 (Yc.2.2.2 s.2.1 9) (s.2.2.2).toNatClampNeg) (Yc.2.2.1 (Yc.2.2.2 s.1 6)) = true then
  sg_m (M.1 (Yc.2.2.2 s.1 6) ((M.1 (Yc.2.2.2 s.2.1 9) (s.2.2.2).toNatClampNeg)).toNatClampNeg) (fun x10 : Int32 =>
  if sg_ib s.2.2.2 (Yc.2.2.1 (Yc.2.2.2 s.2.1 10)) = true then
  if sg_ib (M.1 (Yc.2.2.2 s.2.1 10) (s.2.2.2).toNatClampNeg) (Yc.2.2.1 (Yc.2.2.2 s.1 6)) = true then
  sg_m (M.1 (Yc.2.2.2 s.1 6) ((M.1 (Yc.2.2.2 s.2.1 10) (s.2.2.2).toNatClampNeg)).toNatClampNeg) (fun x11 : Int32 =>
  if x10 = (-1 : Int32) then (
  gX1_fillRows_115 N k54 s.1 s.2.1 s.2.2.1 s.2.2.2 x10 x11 M) else (
  if sg_ib x10 (Yc.2.2.1 (Yc.2.2.2 s.1 7)) = true then
  if sg_ib x10 (Yc.2.2.1 (Yc.2.2.2 (Yc.2.2.2 s.1 7) (x10).toNatClampNeg)) = true then
  if sg_ib s.2.2.2 (Yc.2.2.1 s.2.2.1) = true then
  if sg_ib x10 (Yc.2.2.1 (Yc.2.2.2 (Yc.2.2.2 s.1 7) (x10).toNatClampNeg)) = true then
  sg_m (sg_uJ M (Yc.2.2.2 (Yc.2.2.2 s.1 7) (x10).toNatClampNeg) (x10).toNatClampNeg ((M.2 (Yc.2.2.2 (Yc.2.2.2 s.1 7) (x10).toNatClampNeg) (x10).toNatClampNeg) + ((M.1 s.2.2.1 (s.2.2.2).toNatClampNeg)).toInt64)) (fun M13 : sg_M =>
  gX1_fillRows_115 N k54 s.1 s.2.1 s.2.2.1 s.2.2.2 x10 x11 M13)
  else none
  else none
  else none
  else none))
  else none
  else none)
  else none
  else none)
def gX1_fillRows_54 (N : Nat)  : (Nat × Nat × Nat × Int32) → sg_M → Option (sg_M) := sg_lp (bX1_fillRows_54 N ) N
set_option maxHeartbeats 4000000 in
set_option maxRecDepth 100000 in
theorem tX1_fillRows_54 {ad : Nat → Nat} {X : sg_X} {N : Nat} {r : sg_M} (C : sg_C Yc ad X cX1_fillRows RX1 7 1) (E : sg_eV Yc ad X cX1_fillRows r)  : ∀ (s : Nat × Nat × Nat × Int32) (M : sg_M), gX1_fillRows_54 N s M = some r → sg_K Yc s.1 1 → sg_K Yc s.2.1 4 → sg_K Yc s.2.2.1 13 → sg_T Yc ad X 7 54 [(0, .ref (ad (s.1))), (1, .ref (ad (s.2.1))), (2, .ref (ad (s.2.2.1))), (4, .int (s.2.2.2))] [] M := by
  have key : ∀ n : Nat, ∀ (s : Nat × Nat × Nat × Int32) (M : sg_M), sg_lp (bX1_fillRows_54 N) n s M = some r → sg_K Yc s.1 1 → sg_K Yc s.2.1 4 → sg_K Yc s.2.2.1 13 → sg_T Yc ad X 7 54 [(0, .ref (ad (s.1))), (1, .ref (ad (s.2.1))), (2, .ref (ad (s.2.2.1))), (4, .int (s.2.2.2))] [] M := by
    intro n
    induction n with
    | zero => intro s M h; cases h
    | succ n ih =>
      intro s M h hq0 hq1 hq2
      have h : bX1_fillRows_54 N (sg_lp (bX1_fillRows_54 N) n) s M = some r := h
      generalize sg_lp (bX1_fillRows_54 N) n = k54 at h ih
      have hk54 := ih
      unfold bX1_fillRows_54 at h
      refine i_iload C dX1_fillRows_54 3 rfl ?_
      refine i_aload_n C dX1_fillRows_56 1 rfl ?_
      refine gf1_88 C hq1 dX1_fillRows_57 ?_
      refine s_icmp_ge C 193 (by decide) dX1_fillRows_60 h (fun _ h => ?_) (fun _ h => ?_)
      · exact s_vret C E dX1_fillRows_193 h
      · refine i_aload_n C dX1_fillRows_63 0 rfl ?_
        refine gf1_37 C hq0 dX1_fillRows_64 ?_
        refine i_aload_n C dX1_fillRows_67 1 rfl ?_
        refine gf1_91 C hq1 dX1_fillRows_68 ?_
        refine i_iload C dX1_fillRows_71 3 rfl ?_
        refine s_iald C (ky4_9 hq1) dX1_fillRows_73 h (fun h => ?_)
        refine s_iald C (ky1_6 hq0) dX1_fillRows_74 h (fun h => ?_)
        refine z_gi h (fun x10 h => ?_)
        refine i_istore (lv9 := [(5, _), (0, _), (1, _), (2, _), (4, _)]) C dX1_fillRows_75 (by decide) rfl ?_
        refine i_aload_n C dX1_fillRows_77 1 rfl ?_
        refine gf1_37 C hq0 dX1_fillRows_78 ?_
        refine i_aload_n C dX1_fillRows_81 2 rfl ?_
        refine gf1_94 C hq1 dX1_fillRows_82 ?_
        refine i_iload C dX1_fillRows_85 4 rfl ?_
        refine s_iald C (ky4_10 hq1) dX1_fillRows_87 h (fun h => ?_)
        refine s_iald C (ky1_6 hq0) dX1_fillRows_88 h (fun h => ?_)
        refine z_gi h (fun x11 h => ?_)
        refine i_istore (lv9 := [(6, _), (5, _), (0, _), (1, _), (2, _), (4, _)]) C dX1_fillRows_89 (by decide) rfl ?_
        refine i_iload C dX1_fillRows_91 1 rfl ?_
        refine s_iconst C (-1 : Int32) dX1_fillRows_93 (by decide) ?_
        refine s_icmp_eq C 115 (by decide) dX1_fillRows_94 h (fun _ h => ?_) (fun _ h => ?_)
        · exact sg_T.to (tX1_fillRows_115 C E hk54 _ _ _ _ _ _ _ h hq0 hq1 hq2) [2, 3, 4, 5, 1, 0] rfl
        · refine i_aload_n C dX1_fillRows_97 2 rfl ?_
          refine gf1_42 C hq0 dX1_fillRows_98 ?_
          refine i_iload C dX1_fillRows_101 1 rfl ?_
          have hb12 := (sg_if h).1
          refine s_aaldJ C (ky1_7 hq0) dX1_fillRows_103 h (fun h => ?_)
          refine i_iload C dX1_fillRows_104 1 rfl ?_
          refine s_dup2 C dX1_fillRows_106 rfl rfl ?_
          refine s_lald C (ke19 (ky1_7 hq0) hb12) dX1_fillRows_107 h (fun h => ?_)
          refine i_aload_n C dX1_fillRows_108 4 rfl ?_
          refine i_iload C dX1_fillRows_109 5 rfl ?_
          refine s_iald C hq2 dX1_fillRows_111 h (fun h => ?_)
          refine s_i2l C dX1_fillRows_112 ?_
          refine s_ladd C dX1_fillRows_113 ?_
          refine s_last C (ke19 (ky1_7 hq0) hb12) dX1_fillRows_114 h (fun h => ?_)
          refine z_gM h (fun M13 h => ?_)
          exact sg_T.to (tX1_fillRows_115 C E hk54 _ _ _ _ _ _ _ h hq0 hq1 hq2) [2, 3, 4, 5, 1, 0] rfl
  exact key N
def bX1_fillRows_3 (N : Nat)  (k3 : (Nat × Nat × Nat × Nat × Int32) → sg_M → Option (sg_M)) (s : Nat × Nat × Nat × Nat × Int32) (M : sg_M) : Option (sg_M) :=
  if (M.1 s.1 4) ≤ s.2.2.2.2 then (
  sg_m (0 : Int32) (fun x14 : Int32 =>
  gX1_fillRows_54 N (s.1, s.2.1, s.2.2.1, x14) M)) else (
  if sg_ib s.2.2.2.2 (Yc.2.2.1 (Yc.2.2.2 s.1 7)) = true then
  sg_bv (fJ7_fill_d0a16 N (Yc.2.2.2 (Yc.2.2.2 s.1 7) (s.2.2.2.2).toNatClampNeg) (0 : Int64) M) (fun M16 : sg_M =>
  if sg_ib s.2.2.2.2 (Yc.2.2.1 (Yc.2.2.2 s.1 7)) = true then
  if sg_ib s.2.2.2.2 (Yc.2.2.1 (Yc.2.2.2 s.1 5)) = true then
  if sg_ib (M16.1 (Yc.2.2.2 s.1 5) (s.2.2.2.2).toNatClampNeg) (Yc.2.2.1 s.2.2.2.1) = true then
  if sg_ib (M16.1 s.1 4) (Yc.2.2.1 (Yc.2.2.2 (Yc.2.2.2 s.1 7) (s.2.2.2.2).toNatClampNeg)) = true then
  sg_m (sg_uJ M16 (Yc.2.2.2 (Yc.2.2.2 s.1 7) (s.2.2.2.2).toNatClampNeg) ((M16.1 s.1 4)).toNatClampNeg ((M16.1 s.2.2.2.1 ((M16.1 (Yc.2.2.2 s.1 5) (s.2.2.2.2).toNatClampNeg)).toNatClampNeg)).toInt64) (fun M18 : sg_M =>
  sg_m (s.2.2.2.2 + (1 : Int32)) (fun x19 : Int32 =>
  k3 (s.1, s.2.1, s.2.2.1, s.2.2.2.1, x19) M18))
  else none
  else none
  else none
  else none)
  else none)
def gX1_fillRows_3 (N : Nat)  : (Nat × Nat × Nat × Nat × Int32) → sg_M → Option (sg_M) := sg_lp (bX1_fillRows_3 N ) N
set_option maxHeartbeats 4000000 in
set_option maxRecDepth 100000 in
theorem tX1_fillRows_3 {ad : Nat → Nat} {X : sg_X} {N : Nat} {r : sg_M} (C : sg_C Yc ad X cX1_fillRows RX1 7 1) (E : sg_eV Yc ad X cX1_fillRows r)  : ∀ (s : Nat × Nat × Nat × Nat × Int32) (M : sg_M), gX1_fillRows_3 N s M = some r → sg_K Yc s.1 1 → sg_K Yc s.2.1 4 → sg_K Yc s.2.2.1 13 → sg_K Yc s.2.2.2.1 13 → sg_T Yc ad X 7 3 [(0, .ref (ad (s.1))), (1, .ref (ad (s.2.1))), (2, .ref (ad (s.2.2.1))), (3, .ref (ad (s.2.2.2.1))), (4, .int (s.2.2.2.2))] [] M := by
  have key : ∀ n : Nat, ∀ (s : Nat × Nat × Nat × Nat × Int32) (M : sg_M), sg_lp (bX1_fillRows_3 N) n s M = some r → sg_K Yc s.1 1 → sg_K Yc s.2.1 4 → sg_K Yc s.2.2.1 13 → sg_K Yc s.2.2.2.1 13 → sg_T Yc ad X 7 3 [(0, .ref (ad (s.1))), (1, .ref (ad (s.2.1))), (2, .ref (ad (s.2.2.1))), (3, .ref (ad (s.2.2.2.1))), (4, .int (s.2.2.2.2))] [] M := by
    intro n
    induction n with
    | zero => intro s M h; cases h
    | succ n ih =>
      intro s M h hq0 hq1 hq2 hq3
      have h : bX1_fillRows_3 N (sg_lp (bX1_fillRows_3 N) n) s M = some r := h
      generalize sg_lp (bX1_fillRows_3 N) n = k3 at h ih
      have hk3 := ih
      unfold bX1_fillRows_3 at h
      refine i_iload C dX1_fillRows_3 4 rfl ?_
      refine i_aload_n C dX1_fillRows_5 0 rfl ?_
      refine gf1_30 C hq0 dX1_fillRows_6 ?_
      refine s_icmp_ge C 51 (by decide) dX1_fillRows_9 h (fun _ h => ?_) (fun _ h => ?_)
      · refine s_iconst C (0 : Int32) dX1_fillRows_51 (by decide) ?_
        refine z_gi h (fun x14 h => ?_)
        refine i_istore (lv9 := [(4, _), (0, _), (1, _), (2, _), (3, _)]) C dX1_fillRows_52 (by decide) rfl ?_
        exact sg_T.to (tX1_fillRows_54 C E _ _ h hq0 hq1 hq2) [1, 2, 3, 0] rfl
      · refine i_aload_n C dX1_fillRows_12 0 rfl ?_
        refine gf1_42 C hq0 dX1_fillRows_13 ?_
        refine i_iload C dX1_fillRows_16 4 rfl ?_
        have hb15 := (sg_if h).1
        refine s_aaldJ C (ky1_7 hq0) dX1_fillRows_18 h (fun h => ?_)
        refine s_lconst C (0 : Int64) dX1_fillRows_19 (by decide) ?_
        refine s_scV C [_, _] smJ7_fill_d0a16 lkX1_68 (by decide) rfl rfl (Nat.le_of_ble_eq_true rfl) dX1_fillRows_20 (ctJ7_fill_d0a16 C.inj (ke19 (ky1_7 hq0) hb15)) h (fun M16 h => ?_)
        refine i_aload_n C dX1_fillRows_23 0 rfl ?_
        refine gf1_42 C hq0 dX1_fillRows_24 ?_
        refine i_iload C dX1_fillRows_27 4 rfl ?_
        have hb17 := (sg_if h).1
        refine s_aaldJ C (ky1_7 hq0) dX1_fillRows_29 h (fun h => ?_)
        refine i_aload_n C dX1_fillRows_30 0 rfl ?_
        refine gf1_30 C hq0 dX1_fillRows_31 ?_
        refine i_aload_n C dX1_fillRows_34 3 rfl ?_
        refine i_aload_n C dX1_fillRows_35 0 rfl ?_
        refine gf1_33 C hq0 dX1_fillRows_36 ?_
        refine i_iload C dX1_fillRows_39 4 rfl ?_
        refine s_iald C (ky1_5 hq0) dX1_fillRows_41 h (fun h => ?_)
        refine s_iald C hq3 dX1_fillRows_42 h (fun h => ?_)
        refine s_i2l C dX1_fillRows_43 ?_
        refine s_last C (ke19 (ky1_7 hq0) hb17) dX1_fillRows_44 h (fun h => ?_)
        refine z_gM h (fun M18 h => ?_)
        refine z_iinc (n := 1) (c9 := (1 : Int32)) (by decide) h (fun x19 hx h => ?_)
        refine i_iinc (lv9 := [(4, _), (0, _), (1, _), (2, _), (3, _)]) C dX1_fillRows_45 4 rfl hx (by decide) rfl ?_
        refine s_goto C 3 (by decide) dX1_fillRows_48 ?_
        exact sg_T.to (hk3 _ _ h hq0 hq1 hq2 hq3) [1, 2, 3, 4, 0] rfl
  exact key N
def fX1_fillRows (N : Nat) (a0_ : Nat) (a1_ : Nat) (a2_ : Nat) (a3_ : Nat) (M : sg_M) : Option (sg_M) :=
  sg_m (0 : Int32) (fun x20 : Int32 =>
  gX1_fillRows_3 N (a0_, a1_, a2_, a3_, x20) M)
set_option maxHeartbeats 4000000 in
set_option maxRecDepth 100000 in
theorem tX1_fillRows {ad : Nat → Nat} {X : sg_X} {N : Nat} {r : sg_M} (C : sg_C Yc ad X cX1_fillRows RX1 7 1) (E : sg_eV Yc ad X cX1_fillRows r) : ∀ (a0_ : Nat) (a1_ : Nat) (a2_ : Nat) (a3_ : Nat) (M : sg_M), sg_K Yc a0_ 1 → sg_K Yc a1_ 4 → sg_K Yc a2_ 13 → sg_K Yc a3_ 13 → fX1_fillRows N a0_ a1_ a2_ a3_ M = some r → sg_T Yc ad X 7 0 [(0, .ref (ad a0_)), (1, .ref (ad a1_)), (2, .ref (ad a2_)), (3, .ref (ad a3_))] [] M := by
  intro a0_ a1_ a2_ a3_ M hq0 hq1 hq2 hq3 h
  unfold fX1_fillRows at h
  refine s_iconst C (0 : Int32) dX1_fillRows_0 (by decide) ?_
  refine z_gi h (fun x20 h => ?_)
  refine i_istore (lv9 := [(4, _), (0, _), (1, _), (2, _), (3, _)]) C dX1_fillRows_1 (by decide) rfl ?_
  exact sg_T.to (tX1_fillRows_3 C E _ _ h hq0 hq1 hq2 hq3) [1, 2, 3, 4, 0] rfl
theorem ctX1_fillRows {ad : Nat → Nat} {V : sg_V} {N : Nat} (hi : sg_inj Yc ad) {a0_ : Nat} {a1_ : Nat} {a2_ : Nat} {a3_ : Nat} {M : sg_M} (hq0 : sg_K Yc a0_ 1) (hq1 : sg_K Yc a1_ 4) (hq2 : sg_K Yc a2_ 13) (hq3 : sg_K Yc a3_ 13) : ∀ res, fX1_fillRows N a0_ a1_ a2_ a3_ M = some res → sg_cV Yc ad V yX1_fillRows cX1_fillRows 7 1 [.ref (ad a0_), .ref (ad a1_), .ref (ad a2_), .ref (ad a3_)] M res := fun res h => sg_bodyV (by decide) hi (Nat.le_of_ble_eq_true rfl) (fun X hX C E => by subst hX; exact tX1_fillRows C E _ _ _ _  _ hq0 hq1 hq2 hq3 h)
def bX1_clearRow_32 (N : Nat)  (k32 : (Nat × Int32 × Int32 × Int64 × Int64 × Int64 × Int32) → sg_M → Option (sg_M)) (s : Nat × Int32 × Int32 × Int64 × Int64 × Int64 × Int32) (M : sg_M) : Option (sg_M) :=
  if (M.1 s.1 4) < s.2.2.2.2.2.2 then (
  some M) else (
  if sg_ib s.2.1 (Yc.2.2.1 (Yc.2.2.2 s.1 7)) = true then
  if sg_ib s.2.1 (Yc.2.2.1 (Yc.2.2.2 s.1 7)) = true then
  if sg_ib s.2.2.2.2.2.2 (Yc.2.2.1 (Yc.2.2.2 (Yc.2.2.2 s.1 7) (s.2.1).toNatClampNeg)) = true then
  if sg_ib s.2.2.1 (Yc.2.2.1 (Yc.2.2.2 s.1 7)) = true then
  if sg_ib s.2.2.2.2.2.2 (Yc.2.2.1 (Yc.2.2.2 (Yc.2.2.2 s.1 7) (s.2.2.1).toNatClampNeg)) = true then
  if s.2.2.2.1 = 0 then none else
  if sg_ib s.2.2.2.2.2.2 (Yc.2.2.1 (Yc.2.2.2 (Yc.2.2.2 s.1 7) (s.2.1).toNatClampNeg)) = true then
  sg_m (sg_uJ M (Yc.2.2.2 (Yc.2.2.2 s.1 7) (s.2.1).toNatClampNeg) (s.2.2.2.2.2.2).toNatClampNeg (((s.2.2.2.2.1 * (M.2 (Yc.2.2.2 (Yc.2.2.2 s.1 7) (s.2.1).toNatClampNeg) (s.2.2.2.2.2.2).toNatClampNeg)) - (s.2.2.2.2.2.1 * (M.2 (Yc.2.2.2 (Yc.2.2.2 s.1 7) (s.2.2.1).toNatClampNeg) (s.2.2.2.2.2.2).toNatClampNeg))) / s.2.2.2.1)) (fun M4 : sg_M =>
  sg_m (s.2.2.2.2.2.2 + (1 : Int32)) (fun x5 : Int32 =>
  k32 (s.1, s.2.1, s.2.2.1, s.2.2.2.1, s.2.2.2.2.1, s.2.2.2.2.2.1, x5) M4))
  else none
  else none
  else none
  else none
  else none
  else none)
def gX1_clearRow_32 (N : Nat)  : (Nat × Int32 × Int32 × Int64 × Int64 × Int64 × Int32) → sg_M → Option (sg_M) := sg_lp (bX1_clearRow_32 N ) N
set_option maxHeartbeats 4000000 in
set_option maxRecDepth 100000 in
theorem tX1_clearRow_32 {ad : Nat → Nat} {X : sg_X} {N : Nat} {r : sg_M} (C : sg_C Yc ad X cX1_clearRow RX1 10 0) (E : sg_eV Yc ad X cX1_clearRow r)  : ∀ (s : Nat × Int32 × Int32 × Int64 × Int64 × Int64 × Int32) (M : sg_M), gX1_clearRow_32 N s M = some r → sg_K Yc s.1 1 → sg_T Yc ad X 10 32 [(0, .ref (ad (s.1))), (1, .int (s.2.1)), (2, .int (s.2.2.1)), (3, .long (s.2.2.2.1)), (5, .long (s.2.2.2.2.1)), (7, .long (s.2.2.2.2.2.1)), (9, .int (s.2.2.2.2.2.2))] [] M := by
  have key : ∀ n : Nat, ∀ (s : Nat × Int32 × Int32 × Int64 × Int64 × Int64 × Int32) (M : sg_M), sg_lp (bX1_clearRow_32 N) n s M = some r → sg_K Yc s.1 1 → sg_T Yc ad X 10 32 [(0, .ref (ad (s.1))), (1, .int (s.2.1)), (2, .int (s.2.2.1)), (3, .long (s.2.2.2.1)), (5, .long (s.2.2.2.2.1)), (7, .long (s.2.2.2.2.2.1)), (9, .int (s.2.2.2.2.2.2))] [] M := by
    intro n
    induction n with
    | zero => intro s M h; cases h
    | succ n ih =>
      intro s M h hq0
      have h : bX1_clearRow_32 N (sg_lp (bX1_clearRow_32 N) n) s M = some r := h
      generalize sg_lp (bX1_clearRow_32 N) n = k32 at h ih
      have hk32 := ih
      unfold bX1_clearRow_32 at h
      refine i_iload C dX1_clearRow_32 6 rfl ?_
      refine i_aload_n C dX1_clearRow_34 0 rfl ?_
      refine gf1_30 C hq0 dX1_clearRow_35 ?_
      refine s_icmp_gt C 83 (by decide) dX1_clearRow_38 h (fun _ h => ?_) (fun _ h => ?_)
      · exact s_vret C E dX1_clearRow_83 h
      · refine i_aload_n C dX1_clearRow_41 0 rfl ?_
        refine gf1_42 C hq0 dX1_clearRow_42 ?_
        refine i_iload_n C dX1_clearRow_45 1 rfl ?_
        have hb1 := (sg_if h).1
        refine s_aaldJ C (ky1_7 hq0) dX1_clearRow_46 h (fun h => ?_)
        refine i_iload C dX1_clearRow_47 6 rfl ?_
        refine i_lload C dX1_clearRow_49 4 rfl ?_
        refine i_aload_n C dX1_clearRow_51 0 rfl ?_
        refine gf1_42 C hq0 dX1_clearRow_52 ?_
        refine i_iload_n C dX1_clearRow_55 1 rfl ?_
        have hb2 := (sg_if h).1
        refine s_aaldJ C (ky1_7 hq0) dX1_clearRow_56 h (fun h => ?_)
        refine i_iload C dX1_clearRow_57 6 rfl ?_
        refine s_lald C (ke19 (ky1_7 hq0) hb2) dX1_clearRow_59 h (fun h => ?_)
        refine s_lmul C dX1_clearRow_60 ?_
        refine i_lload C dX1_clearRow_61 5 rfl ?_
        refine i_aload_n C dX1_clearRow_63 0 rfl ?_
        refine gf1_42 C hq0 dX1_clearRow_64 ?_
        refine i_iload_n C dX1_clearRow_67 2 rfl ?_
        have hb3 := (sg_if h).1
        refine s_aaldJ C (ky1_7 hq0) dX1_clearRow_68 h (fun h => ?_)
        refine i_iload C dX1_clearRow_69 6 rfl ?_
        refine s_lald C (ke19 (ky1_7 hq0) hb3) dX1_clearRow_71 h (fun h => ?_)
        refine s_lmul C dX1_clearRow_72 ?_
        refine s_lsub C dX1_clearRow_73 ?_
        refine i_lload_n C dX1_clearRow_74 3 rfl ?_
        refine s_ldiv C dX1_clearRow_75 h (fun h => ?_)
        refine s_last C (ke19 (ky1_7 hq0) hb1) dX1_clearRow_76 h (fun h => ?_)
        refine z_gM h (fun M4 h => ?_)
        refine z_iinc (n := 1) (c9 := (1 : Int32)) (by decide) h (fun x5 hx h => ?_)
        refine i_iinc (lv9 := [(9, _), (0, _), (1, _), (2, _), (3, _), (5, _), (7, _)]) C dX1_clearRow_77 6 rfl hx (by decide) rfl ?_
        refine s_goto C 32 (by decide) dX1_clearRow_80 ?_
        exact sg_T.to (hk32 _ _ h hq0) [1, 2, 3, 4, 5, 6, 0] rfl
  exact key N
def fX1_clearRow (N : Nat) (a0_ : Nat) (x1_ : Int32) (x2_ : Int32) (x3_ : Int64) (M : sg_M) : Option (sg_M) :=
  if (lg_cmp x3_ (0 : Int64)) = 0 then (
  some M) else (
  if sg_ib x2_ (Yc.2.2.1 (Yc.2.2.2 a0_ 7)) = true then
  if sg_ib x2_ (Yc.2.2.1 (Yc.2.2.2 (Yc.2.2.2 a0_ 7) (x2_).toNatClampNeg)) = true then
  sg_m (M.2 (Yc.2.2.2 (Yc.2.2.2 a0_ 7) (x2_).toNatClampNeg) (x2_).toNatClampNeg) (fun x7 : Int64 =>
  if sg_ib x1_ (Yc.2.2.1 (Yc.2.2.2 a0_ 7)) = true then
  if sg_ib x2_ (Yc.2.2.1 (Yc.2.2.2 (Yc.2.2.2 a0_ 7) (x1_).toNatClampNeg)) = true then
  sg_m (M.2 (Yc.2.2.2 (Yc.2.2.2 a0_ 7) (x1_).toNatClampNeg) (x2_).toNatClampNeg) (fun x9 : Int64 =>
  sg_m (x2_ + (1 : Int32)) (fun x10 : Int32 =>
  gX1_clearRow_32 N (a0_, x1_, x2_, x3_, x7, x9, x10) M))
  else none
  else none)
  else none
  else none)
set_option maxHeartbeats 4000000 in
set_option maxRecDepth 100000 in
theorem tX1_clearRow {ad : Nat → Nat} {X : sg_X} {N : Nat} {r : sg_M} (C : sg_C Yc ad X cX1_clearRow RX1 10 0) (E : sg_eV Yc ad X cX1_clearRow r) : ∀ (a0_ : Nat) (x1_ : Int32) (x2_ : Int32) (x3_ : Int64) (M : sg_M), sg_K Yc a0_ 1 → fX1_clearRow N a0_ x1_ x2_ x3_ M = some r → sg_T Yc ad X 10 0 [(0, .ref (ad a0_)), (1, .int x1_), (2, .int x2_), (3, .long x3_)] [] M := by
  intro a0_ x1_ x2_ x3_ M hq0 h
  unfold fX1_clearRow at h
  refine i_lload_n C dX1_clearRow_0 3 rfl ?_
  refine s_lconst C (0 : Int64) dX1_clearRow_1 (by decide) ?_
  refine s_lcmp C dX1_clearRow_2 ?_
  refine s_if_ne C 7 (by decide) dX1_clearRow_3 h (fun _ h => ?_) (fun _ h => ?_)
  · exact s_vret C E dX1_clearRow_6 h
  · refine i_aload_n C dX1_clearRow_7 0 rfl ?_
    refine gf1_42 C hq0 dX1_clearRow_8 ?_
    refine i_iload_n C dX1_clearRow_11 2 rfl ?_
    have hb6 := (sg_if h).1
    refine s_aaldJ C (ky1_7 hq0) dX1_clearRow_12 h (fun h => ?_)
    refine i_iload_n C dX1_clearRow_13 2 rfl ?_
    refine s_lald C (ke19 (ky1_7 hq0) hb6) dX1_clearRow_14 h (fun h => ?_)
    refine z_gl h (fun x7 h => ?_)
    refine i_lstore (lv9 := [(5, _), (0, _), (1, _), (2, _), (3, _)]) C dX1_clearRow_15 (by decide) rfl ?_
    refine i_aload_n C dX1_clearRow_17 1 rfl ?_
    refine gf1_42 C hq0 dX1_clearRow_18 ?_
    refine i_iload_n C dX1_clearRow_21 2 rfl ?_
    have hb8 := (sg_if h).1
    refine s_aaldJ C (ky1_7 hq0) dX1_clearRow_22 h (fun h => ?_)
    refine i_iload_n C dX1_clearRow_23 3 rfl ?_
    refine s_lald C (ke19 (ky1_7 hq0) hb8) dX1_clearRow_24 h (fun h => ?_)
    refine z_gl h (fun x9 h => ?_)
    refine i_lstore (lv9 := [(7, _), (5, _), (0, _), (1, _), (2, _), (3, _)]) C dX1_clearRow_25 (by decide) rfl ?_
    refine i_iload_n C dX1_clearRow_27 4 rfl ?_
    refine s_iconst C (1 : Int32) dX1_clearRow_28 (by decide) ?_
    refine s_iadd C dX1_clearRow_29 ?_
    refine z_gi h (fun x10 h => ?_)
    refine i_istore (lv9 := [(9, _), (7, _), (5, _), (0, _), (1, _), (2, _), (3, _)]) C dX1_clearRow_30 (by decide) rfl ?_
    exact sg_T.to (tX1_clearRow_32 C E _ _ h hq0) [3, 4, 5, 6, 2, 1, 0] rfl
theorem ctX1_clearRow {ad : Nat → Nat} {V : sg_V} {N : Nat} (hi : sg_inj Yc ad) {a0_ : Nat} {x1_ : Int32} {x2_ : Int32} {x3_ : Int64} {M : sg_M} (hq0 : sg_K Yc a0_ 1) : ∀ res, fX1_clearRow N a0_ x1_ x2_ x3_ M = some res → sg_cV Yc ad V yX1_clearRow cX1_clearRow 10 0 [.ref (ad a0_), .int x1_, .int x2_, .long x3_] M res := fun res h => sg_bodyV (by decide) hi (Nat.le_of_ble_eq_true rfl) (fun X hX C E => by subst hX; exact tX1_clearRow C E _ _ _ _  _ hq0 h)
def bX1_clearRows_15 (N : Nat) (k4 : (Nat × Int64 × Int32) → sg_M → Option (sg_M)) (k15 : (Nat × Int64 × Int32 × Int32) → sg_M → Option (sg_M)) (s : Nat × Int64 × Int32 × Int32) (M : sg_M) : Option (sg_M) :=
  if (M.1 s.1 4) ≤ s.2.2.2 then (
  if sg_ib s.2.2.1 (Yc.2.2.1 (Yc.2.2.2 s.1 7)) = true then
  if sg_ib s.2.2.1 (Yc.2.2.1 (Yc.2.2.2 (Yc.2.2.2 s.1 7) (s.2.2.1).toNatClampNeg)) = true then
  sg_m (M.2 (Yc.2.2.2 (Yc.2.2.2 s.1 7) (s.2.2.1).toNatClampNeg) (s.2.2.1).toNatClampNeg) (fun x2 : Int64 =>
  sg_m (s.2.2.1 + (1 : Int32)) (fun x3 : Int32 =>
  k4 (s.1, x2, x3) M))
  else none
  else none) else (
  if s.2.2.2 = s.2.2.1 then (
  sg_m (s.2.2.2 + (1 : Int32)) (fun x4 : Int32 =>
  k15 (s.1, s.2.1, s.2.2.1, x4) M)) else (
  sg_bv (fX1_clearRow N s.1 s.2.2.2 s.2.2.1 s.2.1 M) (fun M5 : sg_M =>
  sg_m (s.2.2.2 + (1 : Int32)) (fun x6 : Int32 =>
  k15 (s.1, s.2.1, s.2.2.1, x6) M5))))
def gX1_clearRows_15 (N : Nat) (k4 : (Nat × Int64 × Int32) → sg_M → Option (sg_M)) : (Nat × Int64 × Int32 × Int32) → sg_M → Option (sg_M) := sg_lp (bX1_clearRows_15 N k4) N
set_option maxHeartbeats 4000000 in
set_option maxRecDepth 100000 in
theorem tX1_clearRows_15 {ad : Nat → Nat} {X : sg_X} {N : Nat} {r : sg_M} (C : sg_C Yc ad X cX1_clearRows RX1 5 1) (E : sg_eV Yc ad X cX1_clearRows r) {k4 : (Nat × Int64 × Int32) → sg_M → Option (sg_M)} (hk4 : ∀ (s : Nat × Int64 × Int32) (M : sg_M), k4 s M = some r → sg_K Yc s.1 1 → sg_T Yc ad X 5 4 [(0, .ref (ad (s.1))), (1, .long (s.2.1)), (3, .int (s.2.2))] [] M) : ∀ (s : Nat × Int64 × Int32 × Int32) (M : sg_M), gX1_clearRows_15 N k4 s M = some r → sg_K Yc s.1 1 → sg_T Yc ad X 5 15 [(0, .ref (ad (s.1))), (1, .long (s.2.1)), (3, .int (s.2.2.1)), (4, .int (s.2.2.2))] [] M := by
  have key : ∀ n : Nat, ∀ (s : Nat × Int64 × Int32 × Int32) (M : sg_M), sg_lp (bX1_clearRows_15 N k4) n s M = some r → sg_K Yc s.1 1 → sg_T Yc ad X 5 15 [(0, .ref (ad (s.1))), (1, .long (s.2.1)), (3, .int (s.2.2.1)), (4, .int (s.2.2.2))] [] M := by
    intro n
    induction n with
    | zero => intro s M h; cases h
    | succ n ih =>
      intro s M h hq0
      have h : bX1_clearRows_15 N k4 (sg_lp (bX1_clearRows_15 N k4) n) s M = some r := h
      generalize sg_lp (bX1_clearRows_15 N k4) n = k15 at h ih
      have hk15 := ih
      unfold bX1_clearRows_15 at h
      refine i_iload C dX1_clearRows_15 3 rfl ?_
      refine i_aload_n C dX1_clearRows_17 0 rfl ?_
      refine gf1_30 C hq0 dX1_clearRows_18 ?_
      refine s_icmp_ge C 44 (by decide) dX1_clearRows_21 h (fun _ h => ?_) (fun _ h => ?_)
      · refine i_aload_n C dX1_clearRows_44 0 rfl ?_
        refine gf1_42 C hq0 dX1_clearRows_45 ?_
        refine i_iload_n C dX1_clearRows_48 2 rfl ?_
        have hb1 := (sg_if h).1
        refine s_aaldJ C (ky1_7 hq0) dX1_clearRows_49 h (fun h => ?_)
        refine i_iload_n C dX1_clearRows_50 2 rfl ?_
        refine s_lald C (ke19 (ky1_7 hq0) hb1) dX1_clearRows_51 h (fun h => ?_)
        refine z_gl h (fun x2 h => ?_)
        refine i_lstore_n (lv9 := [(1, _), (0, _), (3, _), (4, _)]) C 1 dX1_clearRows_52 rfl (by decide) rfl ?_
        refine z_iinc (n := 1) (c9 := (1 : Int32)) (by decide) h (fun x3 hx h => ?_)
        refine i_iinc (lv9 := [(3, _), (1, _), (0, _), (4, _)]) C dX1_clearRows_53 2 rfl hx (by decide) rfl ?_
        refine s_goto C 4 (by decide) dX1_clearRows_56 ?_
        exact sg_T.to (hk4 _ _ h hq0) [2, 1, 0] rfl
      · refine i_iload C dX1_clearRows_24 3 rfl ?_
        refine i_iload_n C dX1_clearRows_26 2 rfl ?_
        refine s_icmp_eq C 38 (by decide) dX1_clearRows_27 h (fun _ h => ?_) (fun _ h => ?_)
        · refine z_iinc (n := 1) (c9 := (1 : Int32)) (by decide) h (fun x4 hx h => ?_)
          refine i_iinc (lv9 := [(4, _), (0, _), (1, _), (3, _)]) C dX1_clearRows_38 3 rfl hx (by decide) rfl ?_
          refine s_goto C 15 (by decide) dX1_clearRows_41 ?_
          exact sg_T.to (hk15 _ _ h hq0) [1, 2, 3, 0] rfl
        · refine i_aload_n C dX1_clearRows_30 0 rfl ?_
          refine i_iload C dX1_clearRows_31 3 rfl ?_
          refine i_iload_n C dX1_clearRows_33 2 rfl ?_
          refine i_lload_n C dX1_clearRows_34 1 rfl ?_
          refine s_vcV C [_, _, _] vmX1_clearRow lkX1_97 rfl rfl (by decide) hq0 (by decide) rfl rfl (Nat.le_of_ble_eq_true rfl) dX1_clearRows_35 (ctX1_clearRow C.inj hq0) h (fun M5 h => ?_)
          refine z_iinc (n := 1) (c9 := (1 : Int32)) (by decide) h (fun x6 hx h => ?_)
          refine i_iinc (lv9 := [(4, _), (0, _), (1, _), (3, _)]) C dX1_clearRows_38 3 rfl hx (by decide) rfl ?_
          refine s_goto C 15 (by decide) dX1_clearRows_41 ?_
          exact sg_T.to (hk15 _ _ h hq0) [1, 2, 3, 0] rfl
  exact key N
def bX1_clearRows_4 (N : Nat)  (k4 : (Nat × Int64 × Int32) → sg_M → Option (sg_M)) (s : Nat × Int64 × Int32) (M : sg_M) : Option (sg_M) :=
  if (M.1 s.1 4) ≤ s.2.2 then (
  sg_m (sg_uJ M s.1 1 s.2.1) (fun M7 : sg_M =>
  some M7)) else (
  sg_m (0 : Int32) (fun x8 : Int32 =>
  gX1_clearRows_15 N k4 (s.1, s.2.1, s.2.2, x8) M))
def gX1_clearRows_4 (N : Nat)  : (Nat × Int64 × Int32) → sg_M → Option (sg_M) := sg_lp (bX1_clearRows_4 N ) N
set_option maxHeartbeats 4000000 in
set_option maxRecDepth 100000 in
theorem tX1_clearRows_4 {ad : Nat → Nat} {X : sg_X} {N : Nat} {r : sg_M} (C : sg_C Yc ad X cX1_clearRows RX1 5 1) (E : sg_eV Yc ad X cX1_clearRows r)  : ∀ (s : Nat × Int64 × Int32) (M : sg_M), gX1_clearRows_4 N s M = some r → sg_K Yc s.1 1 → sg_T Yc ad X 5 4 [(0, .ref (ad (s.1))), (1, .long (s.2.1)), (3, .int (s.2.2))] [] M := by
  have key : ∀ n : Nat, ∀ (s : Nat × Int64 × Int32) (M : sg_M), sg_lp (bX1_clearRows_4 N) n s M = some r → sg_K Yc s.1 1 → sg_T Yc ad X 5 4 [(0, .ref (ad (s.1))), (1, .long (s.2.1)), (3, .int (s.2.2))] [] M := by
    intro n
    induction n with
    | zero => intro s M h; cases h
    | succ n ih =>
      intro s M h hq0
      have h : bX1_clearRows_4 N (sg_lp (bX1_clearRows_4 N) n) s M = some r := h
      generalize sg_lp (bX1_clearRows_4 N) n = k4 at h ih
      have hk4 := ih
      unfold bX1_clearRows_4 at h
      refine i_iload_n C dX1_clearRows_4 2 rfl ?_
      refine i_aload_n C dX1_clearRows_5 0 rfl ?_
      refine gf1_30 C hq0 dX1_clearRows_6 ?_
      refine s_icmp_ge C 59 (by decide) dX1_clearRows_9 h (fun _ h => ?_) (fun _ h => ?_)
      · refine i_aload_n C dX1_clearRows_59 0 rfl ?_
        refine i_lload_n C dX1_clearRows_60 1 rfl ?_
        refine pf1_15 C hq0 dX1_clearRows_61 ?_
        refine z_gM h (fun M7 h => ?_)
        exact s_vret C E dX1_clearRows_64 h
      · refine s_iconst C (0 : Int32) dX1_clearRows_12 (by decide) ?_
        refine z_gi h (fun x8 h => ?_)
        refine i_istore (lv9 := [(4, _), (0, _), (1, _), (3, _)]) C dX1_clearRows_13 (by decide) rfl ?_
        exact sg_T.to (tX1_clearRows_15 C E hk4 _ _ h hq0) [1, 2, 3, 0] rfl
  exact key N
def fX1_clearRows (N : Nat) (a0_ : Nat) (M : sg_M) : Option (sg_M) :=
  sg_m (1 : Int64) (fun x9 : Int64 =>
  sg_m (0 : Int32) (fun x10 : Int32 =>
  gX1_clearRows_4 N (a0_, x9, x10) M))
set_option maxHeartbeats 4000000 in
set_option maxRecDepth 100000 in
theorem tX1_clearRows {ad : Nat → Nat} {X : sg_X} {N : Nat} {r : sg_M} (C : sg_C Yc ad X cX1_clearRows RX1 5 1) (E : sg_eV Yc ad X cX1_clearRows r) : ∀ (a0_ : Nat) (M : sg_M), sg_K Yc a0_ 1 → fX1_clearRows N a0_ M = some r → sg_T Yc ad X 5 0 [(0, .ref (ad a0_))] [] M := by
  intro a0_ M hq0 h
  unfold fX1_clearRows at h
  refine s_lconst C (1 : Int64) dX1_clearRows_0 (by decide) ?_
  refine z_gl h (fun x9 h => ?_)
  refine i_lstore_n (lv9 := [(1, _), (0, _)]) C 1 dX1_clearRows_1 rfl (by decide) rfl ?_
  refine s_iconst C (0 : Int32) dX1_clearRows_2 (by decide) ?_
  refine z_gi h (fun x10 h => ?_)
  refine i_istore_n (lv9 := [(3, _), (1, _), (0, _)]) C 3 dX1_clearRows_3 rfl (by decide) rfl ?_
  exact sg_T.to (tX1_clearRows_4 C E _ _ h hq0) [2, 1, 0] rfl
theorem ctX1_clearRows {ad : Nat → Nat} {V : sg_V} {N : Nat} (hi : sg_inj Yc ad) {a0_ : Nat} {M : sg_M} (hq0 : sg_K Yc a0_ 1) : ∀ res, fX1_clearRows N a0_ M = some res → sg_cV Yc ad V yX1_clearRows cX1_clearRows 5 1 [.ref (ad a0_)] M res := fun res h => sg_bodyV (by decide) hi (Nat.le_of_ble_eq_true rfl) (fun X hX C E => by subst hX; exact tX1_clearRows C E _  _ hq0 h)
def fX1_isDead (N : Nat) (a0_ : Nat) (x1_ : Int32) (M : sg_M) : Option (Int32 × sg_M) :=
  if (((M.1 a0_ 0) >>> (x1_ &&& 31)) &&& (1 : Int32)) = (1 : Int32) then (
  some ((1 : Int32), M)) else (
  some ((0 : Int32), M))
set_option maxHeartbeats 4000000 in
set_option maxRecDepth 100000 in
theorem tX1_isDead {ad : Nat → Nat} {X : sg_X} {N : Nat} {r : Int32 × sg_M} (C : sg_C Yc ad X cX1_isDead RX1 2 0) (E : sg_eI Yc ad X cX1_isDead .boolean r) : ∀ (a0_ : Nat) (x1_ : Int32) (M : sg_M), sg_K Yc a0_ 1 → fX1_isDead N a0_ x1_ M = some r → sg_T Yc ad X 2 0 [(0, .ref (ad a0_)), (1, .int x1_)] [] M := by
  intro a0_ x1_ M hq0 h
  unfold fX1_isDead at h
  refine i_aload_n C dX1_isDead_0 0 rfl ?_
  refine gf1_9 C hq0 dX1_isDead_1 ?_
  refine i_iload_n C dX1_isDead_4 1 rfl ?_
  refine s_ishr C dX1_isDead_5 ?_
  refine s_iconst C (1 : Int32) dX1_isDead_6 (by decide) ?_
  refine s_iand C dX1_isDead_7 ?_
  refine s_iconst C (1 : Int32) dX1_isDead_8 (by decide) ?_
  refine s_icmp_ne C 16 (by decide) dX1_isDead_9 h (fun _ h => ?_) (fun _ h => ?_)
  · refine s_iconst C (1 : Int32) dX1_isDead_12 (by decide) ?_
    refine s_goto C 17 (by decide) dX1_isDead_13 ?_
    exact s_zret1 C E (by decide) dX1_isDead_17 h
  · refine s_iconst C (0 : Int32) dX1_isDead_16 (by decide) ?_
    exact s_zret1 C E (by decide) dX1_isDead_17 h
theorem ctX1_isDead {ad : Nat → Nat} {V : sg_V} {N : Nat} (hi : sg_inj Yc ad) {a0_ : Nat} {x1_ : Int32} {M : sg_M} (hq0 : sg_K Yc a0_ 1) : ∀ res, fX1_isDead N a0_ x1_ M = some res → sg_cI Yc ad V yX1_isDead cX1_isDead 2 .boolean 0 [.ref (ad a0_), .int x1_] M res := fun res h => sg_bodyI (by decide) hi (Nat.le_of_ble_eq_true rfl) (fun X hX C E => by subst hX; exact tX1_isDead C E _ _  _ hq0 h)
def gX1_keepScore_64 (N : Nat) (k29 : (Nat × Nat × Nat × Int32) → sg_M → Option (sg_M)) (a0_ : Nat) (a1_ : Nat) (a2_ : Nat) (x3_ : Int32) (M : sg_M) : Option (sg_M) :=
  if sg_ib x3_ (Yc.2.2.1 (Yc.2.2.2 a0_ 2)) = true then
  sg_m (sg_uJ M (Yc.2.2.2 a0_ 3) 1 (if (M.2 (Yc.2.2.2 a0_ 2) (x3_).toNatClampNeg) < (M.2 (Yc.2.2.2 a0_ 3) 1) then (M.2 (Yc.2.2.2 a0_ 3) 1) else (M.2 (Yc.2.2.2 a0_ 2) (x3_).toNatClampNeg))) (fun M1 : sg_M =>
  sg_m (x3_ + (1 : Int32)) (fun x2 : Int32 =>
  k29 (a0_, a1_, a2_, x2) M1))
  else none
set_option maxHeartbeats 4000000 in
set_option maxRecDepth 100000 in
theorem tX1_keepScore_64 {ad : Nat → Nat} {X : sg_X} {N : Nat} {r : sg_M} (C : sg_C Yc ad X cX1_keepScore RX1 4 1) (E : sg_eV Yc ad X cX1_keepScore r) {k29 : (Nat × Nat × Nat × Int32) → sg_M → Option (sg_M)} (hk29 : ∀ (s : Nat × Nat × Nat × Int32) (M : sg_M), k29 s M = some r → sg_K Yc s.1 1 → sg_K Yc s.2.1 4 → sg_K Yc s.2.2.1 13 → sg_T Yc ad X 4 29 [(0, .ref (ad (s.1))), (1, .ref (ad (s.2.1))), (2, .ref (ad (s.2.2.1))), (3, .int (s.2.2.2))] [] M) : ∀ (a0_ : Nat) (a1_ : Nat) (a2_ : Nat) (x3_ : Int32) (M : sg_M), gX1_keepScore_64 N k29 a0_ a1_ a2_ x3_ M = some r → sg_K Yc a0_ 1 → sg_K Yc a1_ 4 → sg_K Yc a2_ 13 → sg_T Yc ad X 4 64 [(0, .ref (ad a0_)), (1, .ref (ad a1_)), (2, .ref (ad a2_)), (3, .int x3_)] [] M := by
  intro a0_ a1_ a2_ x3_ M h hq0 hq1 hq2
  unfold gX1_keepScore_64 at h
  refine i_aload_n C dX1_keepScore_64 0 rfl ?_
  refine gf1_26 C hq0 dX1_keepScore_65 ?_
  refine i_aload_n C dX1_keepScore_68 0 rfl ?_
  refine gf1_26 C hq0 dX1_keepScore_69 ?_
  refine gf1_104 C (ky1_3 hq0) dX1_keepScore_72 ?_
  refine i_aload_n C dX1_keepScore_75 0 rfl ?_
  refine gf1_19 C hq0 dX1_keepScore_76 ?_
  refine i_iload_n C dX1_keepScore_79 3 rfl ?_
  refine s_lald C (ky1_2 hq0) dX1_keepScore_80 h (fun h => ?_)
  refine s_mmaxl C (by decide) mmaxl_X1_111 mmaxl_1 math_2 mmaxl_3 (Nat.le_of_ble_eq_true rfl) dX1_keepScore_81 ?_
  refine pf1_104 C (ky1_3 hq0) dX1_keepScore_84 ?_
  refine z_gM h (fun M1 h => ?_)
  refine z_iinc (n := 1) (c9 := (1 : Int32)) (by decide) h (fun x2 hx h => ?_)
  refine i_iinc (lv9 := [(3, _), (0, _), (1, _), (2, _)]) C dX1_keepScore_87 3 rfl hx (by decide) rfl ?_
  refine s_goto C 29 (by decide) dX1_keepScore_90 ?_
  exact sg_T.to (hk29 _ _ h hq0 hq1 hq2) [1, 2, 3, 0] rfl
def bX1_keepScore_29 (N : Nat)  (k29 : (Nat × Nat × Nat × Int32) → sg_M → Option (sg_M)) (s : Nat × Nat × Nat × Int32) (M : sg_M) : Option (sg_M) :=
  if (M.1 s.2.1 5) ≤ s.2.2.2 then (
  some M) else (
  sg_b (fX1_isDead N s.1 s.2.2.2 M) (fun (x4 : Int32) (M3 : sg_M) =>
  if x4 = 0 then (
  gX1_keepScore_64 N k29 s.1 s.2.1 s.2.2.1 s.2.2.2 M3) else (
  if sg_ib s.2.2.2 (Yc.2.2.1 s.2.2.1) = true then
  if (M3.1 s.2.2.1 (s.2.2.2).toNatClampNeg) ≤ 0 then (
  gX1_keepScore_64 N k29 s.1 s.2.1 s.2.2.1 s.2.2.2 M3) else (
  sg_m (sg_uI M3 (Yc.2.2.2 s.1 3) 0 ((M3.1 (Yc.2.2.2 s.1 3) 0) + (1 : Int32))) (fun M5 : sg_M =>
  gX1_keepScore_64 N k29 s.1 s.2.1 s.2.2.1 s.2.2.2 M5))
  else none)))
def gX1_keepScore_29 (N : Nat)  : (Nat × Nat × Nat × Int32) → sg_M → Option (sg_M) := sg_lp (bX1_keepScore_29 N ) N
set_option maxHeartbeats 4000000 in
set_option maxRecDepth 100000 in
theorem tX1_keepScore_29 {ad : Nat → Nat} {X : sg_X} {N : Nat} {r : sg_M} (C : sg_C Yc ad X cX1_keepScore RX1 4 1) (E : sg_eV Yc ad X cX1_keepScore r)  : ∀ (s : Nat × Nat × Nat × Int32) (M : sg_M), gX1_keepScore_29 N s M = some r → sg_K Yc s.1 1 → sg_K Yc s.2.1 4 → sg_K Yc s.2.2.1 13 → sg_T Yc ad X 4 29 [(0, .ref (ad (s.1))), (1, .ref (ad (s.2.1))), (2, .ref (ad (s.2.2.1))), (3, .int (s.2.2.2))] [] M := by
  have key : ∀ n : Nat, ∀ (s : Nat × Nat × Nat × Int32) (M : sg_M), sg_lp (bX1_keepScore_29 N) n s M = some r → sg_K Yc s.1 1 → sg_K Yc s.2.1 4 → sg_K Yc s.2.2.1 13 → sg_T Yc ad X 4 29 [(0, .ref (ad (s.1))), (1, .ref (ad (s.2.1))), (2, .ref (ad (s.2.2.1))), (3, .int (s.2.2.2))] [] M := by
    intro n
    induction n with
    | zero => intro s M h; cases h
    | succ n ih =>
      intro s M h hq0 hq1 hq2
      have h : bX1_keepScore_29 N (sg_lp (bX1_keepScore_29 N) n) s M = some r := h
      generalize sg_lp (bX1_keepScore_29 N) n = k29 at h ih
      have hk29 := ih
      unfold bX1_keepScore_29 at h
      refine i_iload_n C dX1_keepScore_29 3 rfl ?_
      refine i_aload_n C dX1_keepScore_30 1 rfl ?_
      refine gf1_48 C hq1 dX1_keepScore_31 ?_
      refine s_icmp_ge C 93 (by decide) dX1_keepScore_34 h (fun _ h => ?_) (fun _ h => ?_)
      · exact s_vret C E dX1_keepScore_93 h
      · refine i_aload_n C dX1_keepScore_37 0 rfl ?_
        refine i_iload_n C dX1_keepScore_38 3 rfl ?_
        refine s_vcI C [_] vmX1_isDead lkX1_107 rfl rfl (by decide) hq0 (by decide) rfl rfl (Nat.le_of_ble_eq_true rfl) dX1_keepScore_39 (ctX1_isDead C.inj hq0) h (fun x4 M3 h => ?_)
        refine s_if_eq C 64 (by decide) dX1_keepScore_42 h (fun _ h => ?_) (fun _ h => ?_)
        · exact sg_T.to (tX1_keepScore_64 C E hk29 _ _ _ _ _ h hq0 hq1 hq2) [0, 1, 2, 3] rfl
        · refine i_aload_n C dX1_keepScore_45 2 rfl ?_
          refine i_iload_n C dX1_keepScore_46 3 rfl ?_
          refine s_iald C hq2 dX1_keepScore_47 h (fun h => ?_)
          refine s_if_le C 64 (by decide) dX1_keepScore_48 h (fun _ h => ?_) (fun _ h => ?_)
          · exact sg_T.to (tX1_keepScore_64 C E hk29 _ _ _ _ _ h hq0 hq1 hq2) [0, 1, 2, 3] rfl
          · refine i_aload_n C dX1_keepScore_51 0 rfl ?_
            refine gf1_26 C hq0 dX1_keepScore_52 ?_
            refine s_dup C dX1_keepScore_55 rfl ?_
            refine gf1_101 C (ky1_3 hq0) dX1_keepScore_56 ?_
            refine s_iconst C (1 : Int32) dX1_keepScore_59 (by decide) ?_
            refine s_iadd C dX1_keepScore_60 ?_
            refine pf1_101 C (ky1_3 hq0) dX1_keepScore_61 ?_
            refine z_gM h (fun M5 h => ?_)
            exact sg_T.to (tX1_keepScore_64 C E hk29 _ _ _ _ _ h hq0 hq1 hq2) [0, 1, 2, 3] rfl
  exact key N
def fX1_keepScore (N : Nat) (a0_ : Nat) (a1_ : Nat) (a2_ : Nat) (M : sg_M) : Option (sg_M) :=
  sg_m (sg_uI M (Yc.2.2.2 a0_ 3) 0 (0 : Int32)) (fun M6 : sg_M =>
  sg_m (sg_uJ M6 (Yc.2.2.2 a0_ 3) 1 (0 : Int64)) (fun M7 : sg_M =>
  sg_m (sg_uJ M7 (Yc.2.2.2 a0_ 3) 2 (M7.2 a0_ 1)) (fun M8 : sg_M =>
  sg_m (0 : Int32) (fun x9 : Int32 =>
  gX1_keepScore_29 N (a0_, a1_, a2_, x9) M8))))
set_option maxHeartbeats 4000000 in
set_option maxRecDepth 100000 in
theorem tX1_keepScore {ad : Nat → Nat} {X : sg_X} {N : Nat} {r : sg_M} (C : sg_C Yc ad X cX1_keepScore RX1 4 1) (E : sg_eV Yc ad X cX1_keepScore r) : ∀ (a0_ : Nat) (a1_ : Nat) (a2_ : Nat) (M : sg_M), sg_K Yc a0_ 1 → sg_K Yc a1_ 4 → sg_K Yc a2_ 13 → fX1_keepScore N a0_ a1_ a2_ M = some r → sg_T Yc ad X 4 0 [(0, .ref (ad a0_)), (1, .ref (ad a1_)), (2, .ref (ad a2_))] [] M := by
  intro a0_ a1_ a2_ M hq0 hq1 hq2 h
  unfold fX1_keepScore at h
  refine i_aload_n C dX1_keepScore_0 0 rfl ?_
  refine gf1_26 C hq0 dX1_keepScore_1 ?_
  refine s_iconst C (0 : Int32) dX1_keepScore_4 (by decide) ?_
  refine pf1_101 C (ky1_3 hq0) dX1_keepScore_5 ?_
  refine z_gM h (fun M6 h => ?_)
  refine i_aload_n C dX1_keepScore_8 0 rfl ?_
  refine gf1_26 C hq0 dX1_keepScore_9 ?_
  refine s_lconst C (0 : Int64) dX1_keepScore_12 (by decide) ?_
  refine pf1_104 C (ky1_3 hq0) dX1_keepScore_13 ?_
  refine z_gM h (fun M7 h => ?_)
  refine i_aload_n C dX1_keepScore_16 0 rfl ?_
  refine gf1_26 C hq0 dX1_keepScore_17 ?_
  refine i_aload_n C dX1_keepScore_20 0 rfl ?_
  refine gf1_15 C hq0 dX1_keepScore_21 ?_
  refine pf1_106 C (ky1_3 hq0) dX1_keepScore_24 ?_
  refine z_gM h (fun M8 h => ?_)
  refine s_iconst C (0 : Int32) dX1_keepScore_27 (by decide) ?_
  refine z_gi h (fun x9 h => ?_)
  refine i_istore_n (lv9 := [(3, _), (0, _), (1, _), (2, _)]) C 3 dX1_keepScore_28 rfl (by decide) rfl ?_
  exact sg_T.to (tX1_keepScore_29 C E _ _ h hq0 hq1 hq2) [1, 2, 3, 0] rfl
theorem ctX1_keepScore {ad : Nat → Nat} {V : sg_V} {N : Nat} (hi : sg_inj Yc ad) {a0_ : Nat} {a1_ : Nat} {a2_ : Nat} {M : sg_M} (hq0 : sg_K Yc a0_ 1) (hq1 : sg_K Yc a1_ 4) (hq2 : sg_K Yc a2_ 13) : ∀ res, fX1_keepScore N a0_ a1_ a2_ M = some res → sg_cV Yc ad V yX1_keepScore cX1_keepScore 4 1 [.ref (ad a0_), .ref (ad a1_), .ref (ad a2_)] M res := fun res h => sg_bodyV (by decide) hi (Nat.le_of_ble_eq_true rfl) (fun X hX C E => by subst hX; exact tX1_keepScore C E _ _ _  _ hq0 hq1 hq2 h)
def bX1_settle_50 (N : Nat)  (k50 : (Nat × Nat × Nat × Int32) → sg_M → Option (sg_M)) (s : Nat × Nat × Nat × Int32) (M : sg_M) : Option (sg_M) :=
  if (M.1 s.1 4) ≤ s.2.2.2 then (
  sg_bv (fX1_keepScore N s.1 s.2.1 s.2.2.1 M) (fun M1 : sg_M =>
  some M1)) else (
  if sg_ib s.2.2.2 (Yc.2.2.1 (Yc.2.2.2 s.1 5)) = true then
  if sg_ib s.2.2.2 (Yc.2.2.1 (Yc.2.2.2 s.1 7)) = true then
  if sg_ib (M.1 s.1 4) (Yc.2.2.1 (Yc.2.2.2 (Yc.2.2.2 s.1 7) (s.2.2.2).toNatClampNeg)) = true then
  if sg_ib (M.1 (Yc.2.2.2 s.1 5) (s.2.2.2).toNatClampNeg) (Yc.2.2.1 (Yc.2.2.2 s.1 2)) = true then
  sg_m (sg_uJ M (Yc.2.2.2 s.1 2) ((M.1 (Yc.2.2.2 s.1 5) (s.2.2.2).toNatClampNeg)).toNatClampNeg (M.2 (Yc.2.2.2 (Yc.2.2.2 s.1 7) (s.2.2.2).toNatClampNeg) ((M.1 s.1 4)).toNatClampNeg)) (fun M3 : sg_M =>
  sg_m (s.2.2.2 + (1 : Int32)) (fun x4 : Int32 =>
  k50 (s.1, s.2.1, s.2.2.1, x4) M3))
  else none
  else none
  else none
  else none)
def gX1_settle_50 (N : Nat)  : (Nat × Nat × Nat × Int32) → sg_M → Option (sg_M) := sg_lp (bX1_settle_50 N ) N
set_option maxHeartbeats 4000000 in
set_option maxRecDepth 100000 in
theorem tX1_settle_50 {ad : Nat → Nat} {X : sg_X} {N : Nat} {r : sg_M} (C : sg_C Yc ad X cX1_settle RX1 6 2) (E : sg_eV Yc ad X cX1_settle r)  : ∀ (s : Nat × Nat × Nat × Int32) (M : sg_M), gX1_settle_50 N s M = some r → sg_K Yc s.1 1 → sg_K Yc s.2.1 4 → sg_K Yc s.2.2.1 13 → sg_T Yc ad X 6 50 [(0, .ref (ad (s.1))), (1, .ref (ad (s.2.1))), (4, .ref (ad (s.2.2.1))), (5, .int (s.2.2.2))] [] M := by
  have key : ∀ n : Nat, ∀ (s : Nat × Nat × Nat × Int32) (M : sg_M), sg_lp (bX1_settle_50 N) n s M = some r → sg_K Yc s.1 1 → sg_K Yc s.2.1 4 → sg_K Yc s.2.2.1 13 → sg_T Yc ad X 6 50 [(0, .ref (ad (s.1))), (1, .ref (ad (s.2.1))), (4, .ref (ad (s.2.2.1))), (5, .int (s.2.2.2))] [] M := by
    intro n
    induction n with
    | zero => intro s M h; cases h
    | succ n ih =>
      intro s M h hq0 hq1 hq4
      have h : bX1_settle_50 N (sg_lp (bX1_settle_50 N) n) s M = some r := h
      generalize sg_lp (bX1_settle_50 N) n = k50 at h ih
      have hk50 := ih
      unfold bX1_settle_50 at h
      refine i_iload C dX1_settle_50 3 rfl ?_
      refine i_aload_n C dX1_settle_52 0 rfl ?_
      refine gf1_30 C hq0 dX1_settle_53 ?_
      refine s_icmp_ge C 89 (by decide) dX1_settle_56 h (fun _ h => ?_) (fun _ h => ?_)
      · refine i_aload_n C dX1_settle_89 0 rfl ?_
        refine i_aload_n C dX1_settle_90 1 rfl ?_
        refine i_aload C dX1_settle_91 2 rfl ?_
        refine s_vcV C [_, _] vmX1_keepScore lkX1_74 rfl rfl (by decide) hq0 (by decide) rfl rfl (Nat.le_of_ble_eq_true rfl) dX1_settle_93 (ctX1_keepScore C.inj hq0 hq1 hq4) h (fun M1 h => ?_)
        exact s_vret C E dX1_settle_96 h
      · refine i_aload_n C dX1_settle_59 0 rfl ?_
        refine gf1_19 C hq0 dX1_settle_60 ?_
        refine i_aload_n C dX1_settle_63 0 rfl ?_
        refine gf1_33 C hq0 dX1_settle_64 ?_
        refine i_iload C dX1_settle_67 3 rfl ?_
        refine s_iald C (ky1_5 hq0) dX1_settle_69 h (fun h => ?_)
        refine i_aload_n C dX1_settle_70 0 rfl ?_
        refine gf1_42 C hq0 dX1_settle_71 ?_
        refine i_iload C dX1_settle_74 3 rfl ?_
        have hb2 := (sg_if h).1
        refine s_aaldJ C (ky1_7 hq0) dX1_settle_76 h (fun h => ?_)
        refine i_aload_n C dX1_settle_77 0 rfl ?_
        refine gf1_30 C hq0 dX1_settle_78 ?_
        refine s_lald C (ke19 (ky1_7 hq0) hb2) dX1_settle_81 h (fun h => ?_)
        refine s_last C (ky1_2 hq0) dX1_settle_82 h (fun h => ?_)
        refine z_gM h (fun M3 h => ?_)
        refine z_iinc (n := 1) (c9 := (1 : Int32)) (by decide) h (fun x4 hx h => ?_)
        refine i_iinc (lv9 := [(5, _), (0, _), (1, _), (4, _)]) C dX1_settle_83 3 rfl hx (by decide) rfl ?_
        refine s_goto C 50 (by decide) dX1_settle_86 ?_
        exact sg_T.to (hk50 _ _ h hq0 hq1 hq4) [1, 2, 3, 0] rfl
  exact key N
def fX1_settle (N : Nat) (a0_ : Nat) (a1_ : Nat) (a2_ : Nat) (x3_ : Int32) (a4_ : Nat) (M : sg_M) : Option (sg_M) :=
  sg_b (fX4_spread N a1_ a2_ x3_ M) (fun (x6 : Int32) (M5 : sg_M) =>
  sg_m (sg_uI M5 a0_ 0 ((((1 : Int32) <<< ((M.1 a1_ 5) &&& 31)) - (1 : Int32)) &&& (x6 ^^^ (-1 : Int32)))) (fun M7 : sg_M =>
  sg_bv (fX1_numberRows N a0_ a1_ x3_ M7) (fun M8 : sg_M =>
  sg_bv (fX1_fillRows N a0_ a1_ a2_ a4_ M8) (fun M9 : sg_M =>
  sg_bv (fX1_clearRows N a0_ M9) (fun M10 : sg_M =>
  sg_bv (fJ7_fill_d0a16 N (Yc.2.2.2 a0_ 2) (0 : Int64) M10) (fun M11 : sg_M =>
  sg_m (0 : Int32) (fun x12 : Int32 =>
  gX1_settle_50 N (a0_, a1_, a4_, x12) M11)))))))
set_option maxHeartbeats 4000000 in
set_option maxRecDepth 100000 in
theorem tX1_settle {ad : Nat → Nat} {X : sg_X} {N : Nat} {r : sg_M} (C : sg_C Yc ad X cX1_settle RX1 6 2) (E : sg_eV Yc ad X cX1_settle r) : ∀ (a0_ : Nat) (a1_ : Nat) (a2_ : Nat) (x3_ : Int32) (a4_ : Nat) (M : sg_M), sg_K Yc a0_ 1 → sg_K Yc a1_ 4 → sg_K Yc a2_ 13 → sg_K Yc a4_ 13 → fX1_settle N a0_ a1_ a2_ x3_ a4_ M = some r → sg_T Yc ad X 6 0 [(0, .ref (ad a0_)), (1, .ref (ad a1_)), (2, .ref (ad a2_)), (3, .int x3_), (4, .ref (ad a4_))] [] M := by
  intro a0_ a1_ a2_ x3_ a4_ M hq0 hq1 hq2 hq4 h
  unfold fX1_settle at h
  refine i_aload_n C dX1_settle_0 0 rfl ?_
  refine s_iconst C (1 : Int32) dX1_settle_1 (by decide) ?_
  refine i_aload_n C dX1_settle_2 1 rfl ?_
  refine gf1_48 C hq1 dX1_settle_3 ?_
  refine s_ishl C dX1_settle_6 ?_
  refine s_iconst C (1 : Int32) dX1_settle_7 (by decide) ?_
  refine s_isub C dX1_settle_8 ?_
  refine i_aload_n C dX1_settle_9 1 rfl ?_
  refine i_aload_n C dX1_settle_10 2 rfl ?_
  refine i_iload_n C dX1_settle_11 3 rfl ?_
  refine s_vcI C [_, _] vmX4_spread lkX1_53 rfl rfl (by decide) hq1 (by decide) rfl rfl (Nat.le_of_ble_eq_true rfl) dX1_settle_12 (ctX4_spread C.inj hq1 hq2) h (fun x6 M5 h => ?_)
  refine s_iconst C (-1 : Int32) dX1_settle_15 (by decide) ?_
  refine s_ixor C dX1_settle_16 ?_
  refine s_iand C dX1_settle_17 ?_
  refine pf1_9 C hq0 dX1_settle_18 ?_
  refine z_gM h (fun M7 h => ?_)
  refine i_aload_n C dX1_settle_21 0 rfl ?_
  refine i_aload_n C dX1_settle_22 1 rfl ?_
  refine i_iload_n C dX1_settle_23 3 rfl ?_
  refine s_vcV C [_, _] vmX1_numberRows lkX1_57 rfl rfl (by decide) hq0 (by decide) rfl rfl (Nat.le_of_ble_eq_true rfl) dX1_settle_24 (ctX1_numberRows C.inj hq0 hq1) h (fun M8 h => ?_)
  refine i_aload_n C dX1_settle_27 0 rfl ?_
  refine i_aload_n C dX1_settle_28 1 rfl ?_
  refine i_aload_n C dX1_settle_29 2 rfl ?_
  refine i_aload C dX1_settle_30 4 rfl ?_
  refine s_vcV C [_, _, _] vmX1_fillRows lkX1_61 rfl rfl (by decide) hq0 (by decide) rfl rfl (Nat.le_of_ble_eq_true rfl) dX1_settle_32 (ctX1_fillRows C.inj hq0 hq1 hq2 hq4) h (fun M9 h => ?_)
  refine i_aload_n C dX1_settle_35 0 rfl ?_
  refine s_vcV C [] vmX1_clearRows lkX1_65 rfl rfl (by decide) hq0 (by decide) rfl rfl (Nat.le_of_ble_eq_true rfl) dX1_settle_36 (ctX1_clearRows C.inj hq0) h (fun M10 h => ?_)
  refine i_aload_n C dX1_settle_39 0 rfl ?_
  refine gf1_19 C hq0 dX1_settle_40 ?_
  refine s_lconst C (0 : Int64) dX1_settle_43 (by decide) ?_
  refine s_scV C [_, _] smJ7_fill_d0a16 lkX1_68 (by decide) rfl rfl (Nat.le_of_ble_eq_true rfl) dX1_settle_44 (ctJ7_fill_d0a16 C.inj (ky1_2 hq0)) h (fun M11 h => ?_)
  refine s_iconst C (0 : Int32) dX1_settle_47 (by decide) ?_
  refine z_gi h (fun x12 h => ?_)
  refine i_istore (lv9 := [(5, _), (0, _), (1, _), (2, _), (3, _), (4, _)]) C dX1_settle_48 (by decide) rfl ?_
  exact sg_T.to (tX1_settle_50 C E _ _ h hq0 hq1 hq4) [1, 2, 5, 0] rfl
theorem ctX1_settle {ad : Nat → Nat} {V : sg_V} {N : Nat} (hi : sg_inj Yc ad) {a0_ : Nat} {a1_ : Nat} {a2_ : Nat} {x3_ : Int32} {a4_ : Nat} {M : sg_M} (hq0 : sg_K Yc a0_ 1) (hq1 : sg_K Yc a1_ 4) (hq2 : sg_K Yc a2_ 13) (hq4 : sg_K Yc a4_ 13) : ∀ res, fX1_settle N a0_ a1_ a2_ x3_ a4_ M = some res → sg_cV Yc ad V yX1_settle cX1_settle 6 2 [.ref (ad a0_), .ref (ad a1_), .ref (ad a2_), .int x3_, .ref (ad a4_)] M res := fun res h => sg_bodyV (by decide) hi (Nat.le_of_ble_eq_true rfl) (fun X hX C E => by subst hX; exact tX1_settle C E _ _ _ _ _  _ hq0 hq1 hq2 hq4 h)
def fX1_settleUnit (N : Nat) (a0_ : Nat) (a1_ : Nat) (x2_ : Int32) (x3_ : Int32) (M : sg_M) : Option (sg_M) :=
  sg_bv (fJ7_fill_53178 N (Yc.2.2.2 a0_ 8) (0 : Int32) M) (fun M1 : sg_M =>
  if sg_ib x3_ (Yc.2.2.1 (Yc.2.2.2 a0_ 8)) = true then
  sg_m (sg_uI M1 (Yc.2.2.2 a0_ 8) (x3_).toNatClampNeg (1 : Int32)) (fun M2 : sg_M =>
  sg_bv (fX1_settle N a0_ a1_ (Yc.2.2.2 a1_ 11) x2_ (Yc.2.2.2 a0_ 8) M2) (fun M3 : sg_M =>
  some M3))
  else none)
set_option maxHeartbeats 4000000 in
set_option maxRecDepth 100000 in
theorem tX1_settleUnit {ad : Nat → Nat} {X : sg_X} {N : Nat} {r : sg_M} (C : sg_C Yc ad X cX1_settleUnit RX1 4 3) (E : sg_eV Yc ad X cX1_settleUnit r) : ∀ (a0_ : Nat) (a1_ : Nat) (x2_ : Int32) (x3_ : Int32) (M : sg_M), sg_K Yc a0_ 1 → sg_K Yc a1_ 4 → fX1_settleUnit N a0_ a1_ x2_ x3_ M = some r → sg_T Yc ad X 4 0 [(0, .ref (ad a0_)), (1, .ref (ad a1_)), (2, .int x2_), (3, .int x3_)] [] M := by
  intro a0_ a1_ x2_ x3_ M hq0 hq1 h
  unfold fX1_settleUnit at h
  refine i_aload_n C dX1_settleUnit_0 0 rfl ?_
  refine gf1_45 C hq0 dX1_settleUnit_1 ?_
  refine s_iconst C (0 : Int32) dX1_settleUnit_4 (by decide) ?_
  refine s_scV C [_, _] smJ7_fill_53178 lkX1_78 (by decide) rfl rfl (Nat.le_of_ble_eq_true rfl) dX1_settleUnit_5 (ctJ7_fill_53178 C.inj (ky1_8 hq0)) h (fun M1 h => ?_)
  refine i_aload_n C dX1_settleUnit_8 0 rfl ?_
  refine gf1_45 C hq0 dX1_settleUnit_9 ?_
  refine i_iload_n C dX1_settleUnit_12 3 rfl ?_
  refine s_iconst C (1 : Int32) dX1_settleUnit_13 (by decide) ?_
  refine s_iast C (ky1_8 hq0) dX1_settleUnit_14 h (fun h => ?_)
  refine z_gM h (fun M2 h => ?_)
  refine i_aload_n C dX1_settleUnit_15 0 rfl ?_
  refine i_aload_n C dX1_settleUnit_16 1 rfl ?_
  refine i_aload_n C dX1_settleUnit_17 1 rfl ?_
  refine gf1_81 C hq1 dX1_settleUnit_18 ?_
  refine i_iload_n C dX1_settleUnit_21 2 rfl ?_
  refine i_aload_n C dX1_settleUnit_22 0 rfl ?_
  refine gf1_45 C hq0 dX1_settleUnit_23 ?_
  refine s_vcV C [_, _, _, _] vmX1_settle lkX1_84 rfl rfl (by decide) hq0 (by decide) rfl rfl (Nat.le_of_ble_eq_true rfl) dX1_settleUnit_26 (ctX1_settle C.inj hq0 hq1 (ky4_11 hq1) (ky1_8 hq0)) h (fun M3 h => ?_)
  exact s_vret C E dX1_settleUnit_29 h
theorem ctX1_settleUnit {ad : Nat → Nat} {V : sg_V} {N : Nat} (hi : sg_inj Yc ad) {a0_ : Nat} {a1_ : Nat} {x2_ : Int32} {x3_ : Int32} {M : sg_M} (hq0 : sg_K Yc a0_ 1) (hq1 : sg_K Yc a1_ 4) : ∀ res, fX1_settleUnit N a0_ a1_ x2_ x3_ M = some res → sg_cV Yc ad V yX1_settleUnit cX1_settleUnit 4 3 [.ref (ad a0_), .ref (ad a1_), .int x2_, .int x3_] M res := fun res h => sg_bodyV (by decide) hi (Nat.le_of_ble_eq_true rfl) (fun X hX C E => by subst hX; exact tX1_settleUnit C E _ _ _ _  _ hq0 hq1 h)
def bX0_strongest_10 (N : Nat)  (k10 : (Nat × Nat × Int32 × Int32 × Int64 × Int32) → sg_M → Option (Int32 × sg_M)) (s : Nat × Nat × Int32 × Int32 × Int64 × Int32) (M : sg_M) : Option (Int32 × sg_M) :=
  if (M.1 s.2.1 5) ≤ s.2.2.2.2.2 then (
  some (s.2.2.2.1, M)) else (
  if ((s.2.2.1 >>> (s.2.2.2.2.2 &&& 31)) &&& (1 : Int32)) = (1 : Int32) then (
  if sg_ib s.2.2.2.2.2 (Yc.2.2.1 (Yc.2.2.2 (Yc.2.2.2 s.1 4) 2)) = true then
  if (lg_cmp (M.2 (Yc.2.2.2 (Yc.2.2.2 s.1 4) 2) (s.2.2.2.2.2).toNatClampNeg) s.2.2.2.2.1) ≤ 0 then (
  sg_m (s.2.2.2.2.2 + (1 : Int32)) (fun x1 : Int32 =>
  k10 (s.1, s.2.1, s.2.2.1, s.2.2.2.1, s.2.2.2.2.1, x1) M)) else (
  sg_m s.2.2.2.2.2 (fun x2 : Int32 =>
  if sg_ib s.2.2.2.2.2 (Yc.2.2.1 (Yc.2.2.2 (Yc.2.2.2 s.1 4) 2)) = true then
  sg_m (M.2 (Yc.2.2.2 (Yc.2.2.2 s.1 4) 2) (s.2.2.2.2.2).toNatClampNeg) (fun x3 : Int64 =>
  sg_m (s.2.2.2.2.2 + (1 : Int32)) (fun x4 : Int32 =>
  k10 (s.1, s.2.1, s.2.2.1, x2, x3, x4) M))
  else none))
  else none) else (
  sg_m (s.2.2.2.2.2 + (1 : Int32)) (fun x5 : Int32 =>
  k10 (s.1, s.2.1, s.2.2.1, s.2.2.2.1, s.2.2.2.2.1, x5) M)))
def gX0_strongest_10 (N : Nat)  : (Nat × Nat × Int32 × Int32 × Int64 × Int32) → sg_M → Option (Int32 × sg_M) := sg_lp (bX0_strongest_10 N ) N
set_option maxHeartbeats 4000000 in
set_option maxRecDepth 100000 in
theorem tX0_strongest_10 {ad : Nat → Nat} {X : sg_X} {N : Nat} {r : Int32 × sg_M} (C : sg_C Yc ad X cX0_strongest RX0 7 0) (E : sg_eI Yc ad X cX0_strongest .int r)  : ∀ (s : Nat × Nat × Int32 × Int32 × Int64 × Int32) (M : sg_M), gX0_strongest_10 N s M = some r → sg_K Yc s.1 0 → sg_K Yc s.2.1 4 → sg_T Yc ad X 7 10 [(0, .ref (ad (s.1))), (1, .ref (ad (s.2.1))), (2, .int (s.2.2.1)), (3, .int (s.2.2.2.1)), (4, .long (s.2.2.2.2.1)), (6, .int (s.2.2.2.2.2))] [] M := by
  have key : ∀ n : Nat, ∀ (s : Nat × Nat × Int32 × Int32 × Int64 × Int32) (M : sg_M), sg_lp (bX0_strongest_10 N) n s M = some r → sg_K Yc s.1 0 → sg_K Yc s.2.1 4 → sg_T Yc ad X 7 10 [(0, .ref (ad (s.1))), (1, .ref (ad (s.2.1))), (2, .int (s.2.2.1)), (3, .int (s.2.2.2.1)), (4, .long (s.2.2.2.2.1)), (6, .int (s.2.2.2.2.2))] [] M := by
    intro n
    induction n with
    | zero => intro s M h; cases h
    | succ n ih =>
      intro s M h hq0 hq1
      have h : bX0_strongest_10 N (sg_lp (bX0_strongest_10 N) n) s M = some r := h
      generalize sg_lp (bX0_strongest_10 N) n = k10 at h ih
      have hk10 := ih
      unfold bX0_strongest_10 at h
      refine i_iload C dX0_strongest_10 5 rfl ?_
      refine i_aload_n C dX0_strongest_12 1 rfl ?_
      refine gf0_58 C hq1 dX0_strongest_13 ?_
      refine s_icmp_ge C 66 (by decide) dX0_strongest_16 h (fun _ h => ?_) (fun _ h => ?_)
      · refine i_iload_n C dX0_strongest_66 3 rfl ?_
        exact s_iret C E dX0_strongest_67 h
      · refine i_iload_n C dX0_strongest_19 2 rfl ?_
        refine i_iload C dX0_strongest_20 5 rfl ?_
        refine s_ishr C dX0_strongest_22 ?_
        refine s_iconst C (1 : Int32) dX0_strongest_23 (by decide) ?_
        refine s_iand C dX0_strongest_24 ?_
        refine s_iconst C (1 : Int32) dX0_strongest_25 (by decide) ?_
        refine s_icmp_ne C 60 (by decide) dX0_strongest_26 h (fun _ h => ?_) (fun _ h => ?_)
        · refine i_aload_n C dX0_strongest_29 0 rfl ?_
          refine gf0_28 C hq0 dX0_strongest_30 ?_
          refine gf0_74 C (ky0_4 hq0) dX0_strongest_33 ?_
          refine i_iload C dX0_strongest_36 5 rfl ?_
          refine s_lald C (ky1_2 (ky0_4 hq0)) dX0_strongest_38 h (fun h => ?_)
          refine i_lload C dX0_strongest_39 4 rfl ?_
          refine s_lcmp C dX0_strongest_41 ?_
          refine s_if_le C 60 (by decide) dX0_strongest_42 h (fun _ h => ?_) (fun _ h => ?_)
          · refine z_iinc (n := 1) (c9 := (1 : Int32)) (by decide) h (fun x1 hx h => ?_)
            refine i_iinc (lv9 := [(6, _), (0, _), (1, _), (2, _), (3, _), (4, _)]) C dX0_strongest_60 5 rfl hx (by decide) rfl ?_
            refine s_goto C 10 (by decide) dX0_strongest_63 ?_
            exact sg_T.to (hk10 _ _ h hq0 hq1) [1, 2, 3, 4, 5, 0] rfl
          · refine i_iload C dX0_strongest_45 5 rfl ?_
            refine z_gi h (fun x2 h => ?_)
            refine i_istore_n (lv9 := [(3, _), (0, _), (1, _), (2, _), (4, _), (6, _)]) C 3 dX0_strongest_47 rfl (by decide) rfl ?_
            refine i_aload_n C dX0_strongest_48 1 rfl ?_
            refine gf0_28 C hq0 dX0_strongest_49 ?_
            refine gf0_74 C (ky0_4 hq0) dX0_strongest_52 ?_
            refine i_iload C dX0_strongest_55 5 rfl ?_
            refine s_lald C (ky1_2 (ky0_4 hq0)) dX0_strongest_57 h (fun h => ?_)
            refine z_gl h (fun x3 h => ?_)
            refine i_lstore (lv9 := [(4, _), (3, _), (0, _), (1, _), (2, _), (6, _)]) C dX0_strongest_58 (by decide) rfl ?_
            refine z_iinc (n := 1) (c9 := (1 : Int32)) (by decide) h (fun x4 hx h => ?_)
            refine i_iinc (lv9 := [(6, _), (4, _), (3, _), (0, _), (1, _), (2, _)]) C dX0_strongest_60 5 rfl hx (by decide) rfl ?_
            refine s_goto C 10 (by decide) dX0_strongest_63 ?_
            exact sg_T.to (hk10 _ _ h hq0 hq1) [3, 4, 5, 2, 1, 0] rfl
        · refine z_iinc (n := 1) (c9 := (1 : Int32)) (by decide) h (fun x5 hx h => ?_)
          refine i_iinc (lv9 := [(6, _), (0, _), (1, _), (2, _), (3, _), (4, _)]) C dX0_strongest_60 5 rfl hx (by decide) rfl ?_
          refine s_goto C 10 (by decide) dX0_strongest_63 ?_
          exact sg_T.to (hk10 _ _ h hq0 hq1) [1, 2, 3, 4, 5, 0] rfl
  exact key N
def fX0_strongest (N : Nat) (a0_ : Nat) (a1_ : Nat) (x2_ : Int32) (M : sg_M) : Option (Int32 × sg_M) :=
  sg_m (0 : Int32) (fun x6 : Int32 =>
  sg_m (-1 : Int64) (fun x7 : Int64 =>
  sg_m (0 : Int32) (fun x8 : Int32 =>
  gX0_strongest_10 N (a0_, a1_, x2_, x6, x7, x8) M)))
set_option maxHeartbeats 4000000 in
set_option maxRecDepth 100000 in
theorem tX0_strongest {ad : Nat → Nat} {X : sg_X} {N : Nat} {r : Int32 × sg_M} (C : sg_C Yc ad X cX0_strongest RX0 7 0) (E : sg_eI Yc ad X cX0_strongest .int r) : ∀ (a0_ : Nat) (a1_ : Nat) (x2_ : Int32) (M : sg_M), sg_K Yc a0_ 0 → sg_K Yc a1_ 4 → fX0_strongest N a0_ a1_ x2_ M = some r → sg_T Yc ad X 7 0 [(0, .ref (ad a0_)), (1, .ref (ad a1_)), (2, .int x2_)] [] M := by
  intro a0_ a1_ x2_ M hq0 hq1 h
  unfold fX0_strongest at h
  refine s_iconst C (0 : Int32) dX0_strongest_0 (by decide) ?_
  refine z_gi h (fun x6 h => ?_)
  refine i_istore_n (lv9 := [(3, _), (0, _), (1, _), (2, _)]) C 3 dX0_strongest_1 rfl (by decide) rfl ?_
  refine s_ldc2 C (-1 : Int64) kl_X0_72 dX0_strongest_2 ?_
  refine z_gl h (fun x7 h => ?_)
  refine i_lstore (lv9 := [(4, _), (3, _), (0, _), (1, _), (2, _)]) C dX0_strongest_5 (by decide) rfl ?_
  refine s_iconst C (0 : Int32) dX0_strongest_7 (by decide) ?_
  refine z_gi h (fun x8 h => ?_)
  refine i_istore (lv9 := [(6, _), (4, _), (3, _), (0, _), (1, _), (2, _)]) C dX0_strongest_8 (by decide) rfl ?_
  exact sg_T.to (tX0_strongest_10 C E _ _ h hq0 hq1) [3, 4, 5, 2, 1, 0] rfl
theorem ctX0_strongest {ad : Nat → Nat} {V : sg_V} {N : Nat} (hi : sg_inj Yc ad) {a0_ : Nat} {a1_ : Nat} {x2_ : Int32} {M : sg_M} (hq0 : sg_K Yc a0_ 0) (hq1 : sg_K Yc a1_ 4) : ∀ res, fX0_strongest N a0_ a1_ x2_ M = some res → sg_cI Yc ad V yX0_strongest cX0_strongest 7 .int 0 [.ref (ad a0_), .ref (ad a1_), .int x2_] M res := fun res h => sg_bodyI (by decide) hi (Nat.le_of_ble_eq_true rfl) (fun X hX C E => by subst hX; exact tX0_strongest C E _ _ _  _ hq0 hq1 h)
def gX0_drawAll_52 (N : Nat)  (a0_ : Nat) (x2_ : Int32) (x4_ : Int32) (M : sg_M) : Option (sg_M) :=
  if sg_ib (0 : Int32) (Yc.2.2.1 (Yc.2.2.2 a0_ 3)) = true then
  if sg_ib (0 : Int32) (Yc.2.2.1 (Yc.2.2.2 a0_ 3)) = true then
  sg_m (sg_uI M (Yc.2.2.2 a0_ 3) ((0 : Int32)).toNatClampNeg ((M.1 (Yc.2.2.2 a0_ 3) ((0 : Int32)).toNatClampNeg) - x4_)) (fun M1 : sg_M =>
  if sg_ib x2_ (Yc.2.2.1 (Yc.2.2.2 a0_ 2)) = true then
  sg_m (sg_uI M1 (Yc.2.2.2 a0_ 2) (x2_).toNatClampNeg x4_) (fun M2 : sg_M =>
  if sg_ib x2_ (Yc.2.2.1 (Yc.2.2.2 (Yc.2.2.2 a0_ 4) 2)) = true then
  sg_m (sg_uJ M2 a0_ 0 ((M2.2 a0_ 0) + ((x4_).toInt64 * (M2.2 (Yc.2.2.2 (Yc.2.2.2 a0_ 4) 2) (x2_).toNatClampNeg)))) (fun M3 : sg_M =>
  some M3)
  else none)
  else none)
  else none
  else none
set_option maxHeartbeats 4000000 in
set_option maxRecDepth 100000 in
theorem tX0_drawAll_52 {ad : Nat → Nat} {X : sg_X} {N : Nat} {r : sg_M} (C : sg_C Yc ad X cX0_drawAll RX0 5 1) (E : sg_eV Yc ad X cX0_drawAll r)  : ∀ (a0_ : Nat) (x2_ : Int32) (x4_ : Int32) (M : sg_M), gX0_drawAll_52 N a0_ x2_ x4_ M = some r → sg_K Yc a0_ 0 → sg_T Yc ad X 5 52 [(0, .ref (ad a0_)), (2, .int x2_), (4, .int x4_)] [] M := by
  intro a0_ x2_ x4_ M h hq0
  unfold gX0_drawAll_52 at h
  refine i_aload_n C dX0_drawAll_52 0 rfl ?_
  refine gf0_22 C hq0 dX0_drawAll_53 ?_
  refine s_iconst C (0 : Int32) dX0_drawAll_56 (by decide) ?_
  refine s_dup2 C dX0_drawAll_57 rfl rfl ?_
  refine s_iald C (ky0_3 hq0) dX0_drawAll_58 h (fun h => ?_)
  refine i_iload C dX0_drawAll_59 2 rfl ?_
  refine s_isub C dX0_drawAll_61 ?_
  refine s_iast C (ky0_3 hq0) dX0_drawAll_62 h (fun h => ?_)
  refine z_gM h (fun M1 h => ?_)
  refine i_aload_n C dX0_drawAll_63 0 rfl ?_
  refine gf0_18 C hq0 dX0_drawAll_64 ?_
  refine i_iload_n C dX0_drawAll_67 1 rfl ?_
  refine i_iload C dX0_drawAll_68 2 rfl ?_
  refine s_iast C (ky0_2 hq0) dX0_drawAll_70 h (fun h => ?_)
  refine z_gM h (fun M2 h => ?_)
  refine i_aload_n C dX0_drawAll_71 0 rfl ?_
  refine s_dup C dX0_drawAll_72 rfl ?_
  refine gf0_9 C hq0 dX0_drawAll_73 ?_
  refine i_iload C dX0_drawAll_76 2 rfl ?_
  refine s_i2l C dX0_drawAll_78 ?_
  refine i_aload_n C dX0_drawAll_79 0 rfl ?_
  refine gf0_28 C hq0 dX0_drawAll_80 ?_
  refine gf0_74 C (ky0_4 hq0) dX0_drawAll_83 ?_
  refine i_iload_n C dX0_drawAll_86 1 rfl ?_
  refine s_lald C (ky1_2 (ky0_4 hq0)) dX0_drawAll_87 h (fun h => ?_)
  refine s_lmul C dX0_drawAll_88 ?_
  refine s_ladd C dX0_drawAll_89 ?_
  refine pf0_9 C hq0 dX0_drawAll_90 ?_
  refine z_gM h (fun M3 h => ?_)
  exact s_vret C E dX0_drawAll_93 h
def fX0_drawAll (N : Nat) (a0_ : Nat) (a1_ : Nat) (x2_ : Int32) (M : sg_M) : Option (sg_M) :=
  if sg_ib x2_ (Yc.2.2.1 (Yc.2.2.2 a1_ 13)) = true then
  sg_m (M.1 (Yc.2.2.2 a1_ 13) (x2_).toNatClampNeg) (fun x4 : Int32 =>
  if sg_ib x2_ (Yc.2.2.1 (Yc.2.2.2 a1_ 12)) = true then
  if sg_ib (0 : Int32) (Yc.2.2.1 (Yc.2.2.2 a0_ 3)) = true then
  sg_m (if (M.1 (Yc.2.2.2 a0_ 3) ((0 : Int32)).toNatClampNeg) < (M.1 (Yc.2.2.2 a1_ 12) (x2_).toNatClampNeg) then (M.1 (Yc.2.2.2 a0_ 3) ((0 : Int32)).toNatClampNeg) else (M.1 (Yc.2.2.2 a1_ 12) (x2_).toNatClampNeg)) (fun x5 : Int32 =>
  if x4 ≤ 0 then (
  gX0_drawAll_52 N a0_ x2_ x5 M) else (
  if sg_ib x4 (Yc.2.2.1 (Yc.2.2.2 a0_ 3)) = true then
  sg_m (if (M.1 (Yc.2.2.2 a0_ 3) (x4).toNatClampNeg) < x5 then (M.1 (Yc.2.2.2 a0_ 3) (x4).toNatClampNeg) else x5) (fun x6 : Int32 =>
  if sg_ib x4 (Yc.2.2.1 (Yc.2.2.2 a0_ 3)) = true then
  if sg_ib x4 (Yc.2.2.1 (Yc.2.2.2 a0_ 3)) = true then
  sg_m (sg_uI M (Yc.2.2.2 a0_ 3) (x4).toNatClampNeg ((M.1 (Yc.2.2.2 a0_ 3) (x4).toNatClampNeg) - x6)) (fun M7 : sg_M =>
  gX0_drawAll_52 N a0_ x2_ x6 M7)
  else none
  else none)
  else none))
  else none
  else none)
  else none
set_option maxHeartbeats 4000000 in
set_option maxRecDepth 100000 in
theorem tX0_drawAll {ad : Nat → Nat} {X : sg_X} {N : Nat} {r : sg_M} (C : sg_C Yc ad X cX0_drawAll RX0 5 1) (E : sg_eV Yc ad X cX0_drawAll r) : ∀ (a0_ : Nat) (a1_ : Nat) (x2_ : Int32) (M : sg_M), sg_K Yc a0_ 0 → sg_K Yc a1_ 4 → fX0_drawAll N a0_ a1_ x2_ M = some r → sg_T Yc ad X 5 0 [(0, .ref (ad a0_)), (1, .ref (ad a1_)), (2, .int x2_)] [] M := by
  intro a0_ a1_ x2_ M hq0 hq1 h
  unfold fX0_drawAll at h
  refine i_aload_n C dX0_drawAll_0 1 rfl ?_
  refine gf0_77 C hq1 dX0_drawAll_1 ?_
  refine i_iload_n C dX0_drawAll_4 2 rfl ?_
  refine s_iald C (ky4_13 hq1) dX0_drawAll_5 h (fun h => ?_)
  refine z_gi h (fun x4 h => ?_)
  refine i_istore_n (lv9 := [(3, _), (0, _), (1, _), (2, _)]) C 3 dX0_drawAll_6 rfl (by decide) rfl ?_
  refine i_aload_n C dX0_drawAll_7 2 rfl ?_
  refine gf0_80 C hq1 dX0_drawAll_8 ?_
  refine i_iload_n C dX0_drawAll_11 3 rfl ?_
  refine s_iald C (ky4_12 hq1) dX0_drawAll_12 h (fun h => ?_)
  refine i_aload_n C dX0_drawAll_13 1 rfl ?_
  refine gf0_22 C hq0 dX0_drawAll_14 ?_
  refine s_iconst C (0 : Int32) dX0_drawAll_17 (by decide) ?_
  refine s_iald C (ky0_3 hq0) dX0_drawAll_18 h (fun h => ?_)
  refine s_mmin C (by decide) mmin_X0_83 mmin_1 math_2 mmin_3 (Nat.le_of_ble_eq_true rfl) dX0_drawAll_19 ?_
  refine z_gi h (fun x5 h => ?_)
  refine i_istore (lv9 := [(4, _), (3, _), (0, _), (1, _), (2, _)]) C dX0_drawAll_22 (by decide) rfl ?_
  refine i_iload_n C dX0_drawAll_24 1 rfl ?_
  refine s_if_le C 52 (by decide) dX0_drawAll_25 h (fun _ h => ?_) (fun _ h => ?_)
  · exact sg_T.to (tX0_drawAll_52 C E _ _ _ _ h hq0) [2, 4, 0] rfl
  · refine i_iload C dX0_drawAll_28 0 rfl ?_
    refine i_aload_n C dX0_drawAll_30 2 rfl ?_
    refine gf0_22 C hq0 dX0_drawAll_31 ?_
    refine i_iload_n C dX0_drawAll_34 1 rfl ?_
    refine s_iald C (ky0_3 hq0) dX0_drawAll_35 h (fun h => ?_)
    refine s_mmin C (by decide) mmin_X0_83 mmin_1 math_2 mmin_3 (Nat.le_of_ble_eq_true rfl) dX0_drawAll_36 ?_
    refine z_gi h (fun x6 h => ?_)
    refine i_istore (lv9 := [(4, _), (3, _), (0, _), (1, _), (2, _)]) C dX0_drawAll_39 (by decide) rfl ?_
    refine i_aload_n C dX0_drawAll_41 2 rfl ?_
    refine gf0_22 C hq0 dX0_drawAll_42 ?_
    refine i_iload_n C dX0_drawAll_45 1 rfl ?_
    refine s_dup2 C dX0_drawAll_46 rfl rfl ?_
    refine s_iald C (ky0_3 hq0) dX0_drawAll_47 h (fun h => ?_)
    refine i_iload C dX0_drawAll_48 0 rfl ?_
    refine s_isub C dX0_drawAll_50 ?_
    refine s_iast C (ky0_3 hq0) dX0_drawAll_51 h (fun h => ?_)
    refine z_gM h (fun M7 h => ?_)
    exact sg_T.to (tX0_drawAll_52 C E _ _ _ _ h hq0) [2, 4, 0] rfl
theorem ctX0_drawAll {ad : Nat → Nat} {V : sg_V} {N : Nat} (hi : sg_inj Yc ad) {a0_ : Nat} {a1_ : Nat} {x2_ : Int32} {M : sg_M} (hq0 : sg_K Yc a0_ 0) (hq1 : sg_K Yc a1_ 4) : ∀ res, fX0_drawAll N a0_ a1_ x2_ M = some res → sg_cV Yc ad V yX0_drawAll cX0_drawAll 5 1 [.ref (ad a0_), .ref (ad a1_), .int x2_] M res := fun res h => sg_bodyV (by decide) hi (Nat.le_of_ble_eq_true rfl) (fun X hX C E => by subst hX; exact tX0_drawAll C E _ _ _  _ hq0 hq1 h)
def bX0_drawAgainst_73 (N : Nat)  (k73 : (Nat × Nat × Int32 × Int32) → sg_M → Option (sg_M)) (s : Nat × Nat × Int32 × Int32) (M : sg_M) : Option (sg_M) :=
  if (M.1 s.2.1 5) ≤ s.2.2.2 then (
  some M) else (
  if s.2.2.1 = 0 then (
  some M) else (
  sg_b (fX0_strongest N s.1 s.2.1 s.2.2.1 M) (fun (x2 : Int32) (M1 : sg_M) =>
  sg_m x2 (fun x3 : Int32 =>
  sg_bv (fX0_drawAll N s.1 s.2.1 x3 M1) (fun M4 : sg_M =>
  sg_m (s.2.2.1 &&& (((1 : Int32) <<< (x3 &&& 31)) ^^^ (-1 : Int32))) (fun x5 : Int32 =>
  sg_m (s.2.2.2 + (1 : Int32)) (fun x6 : Int32 =>
  k73 (s.1, s.2.1, x5, x6) M4)))))))
def gX0_drawAgainst_73 (N : Nat)  : (Nat × Nat × Int32 × Int32) → sg_M → Option (sg_M) := sg_lp (bX0_drawAgainst_73 N ) N
set_option maxHeartbeats 4000000 in
set_option maxRecDepth 100000 in
theorem tX0_drawAgainst_73 {ad : Nat → Nat} {X : sg_X} {N : Nat} {r : sg_M} (C : sg_C Yc ad X cX0_drawAgainst RX0 6 4) (E : sg_eV Yc ad X cX0_drawAgainst r)  : ∀ (s : Nat × Nat × Int32 × Int32) (M : sg_M), gX0_drawAgainst_73 N s M = some r → sg_K Yc s.1 0 → sg_K Yc s.2.1 4 → sg_T Yc ad X 6 73 [(0, .ref (ad (s.1))), (1, .ref (ad (s.2.1))), (3, .int (s.2.2.1)), (4, .int (s.2.2.2))] [] M := by
  have key : ∀ n : Nat, ∀ (s : Nat × Nat × Int32 × Int32) (M : sg_M), sg_lp (bX0_drawAgainst_73 N) n s M = some r → sg_K Yc s.1 0 → sg_K Yc s.2.1 4 → sg_T Yc ad X 6 73 [(0, .ref (ad (s.1))), (1, .ref (ad (s.2.1))), (3, .int (s.2.2.1)), (4, .int (s.2.2.2))] [] M := by
    intro n
    induction n with
    | zero => intro s M h; cases h
    | succ n ih =>
      intro s M h hq0 hq1
      have h : bX0_drawAgainst_73 N (sg_lp (bX0_drawAgainst_73 N) n) s M = some r := h
      generalize sg_lp (bX0_drawAgainst_73 N) n = k73 at h ih
      have hk73 := ih
      unfold bX0_drawAgainst_73 at h
      refine i_iload C dX0_drawAgainst_73 3 rfl ?_
      refine i_aload_n C dX0_drawAgainst_75 1 rfl ?_
      refine gf0_58 C hq1 dX0_drawAgainst_76 ?_
      refine s_icmp_ge C 116 (by decide) dX0_drawAgainst_79 h (fun _ h => ?_) (fun _ h => ?_)
      · exact s_vret C E dX0_drawAgainst_116 h
      · refine i_iload_n C dX0_drawAgainst_82 2 rfl ?_
        refine s_if_eq C 116 (by decide) dX0_drawAgainst_83 h (fun _ h => ?_) (fun _ h => ?_)
        · exact s_vret C E dX0_drawAgainst_116 h
        · refine i_aload_n C dX0_drawAgainst_86 0 rfl ?_
          refine i_aload_n C dX0_drawAgainst_87 1 rfl ?_
          refine i_iload_n C dX0_drawAgainst_88 2 rfl ?_
          refine s_vcI C [_, _] vmX0_strongest lkX0_64 rfl rfl (by decide) hq0 (by decide) rfl rfl (Nat.le_of_ble_eq_true rfl) dX0_drawAgainst_89 (ctX0_strongest C.inj hq0 hq1) h (fun x2 M1 h => ?_)
          refine z_gi h (fun x3 h => ?_)
          refine i_istore (lv9 := [(5, _), (0, _), (1, _), (3, _), (4, _)]) C dX0_drawAgainst_92 (by decide) rfl ?_
          refine i_aload_n C dX0_drawAgainst_94 1 rfl ?_
          refine i_aload_n C dX0_drawAgainst_95 2 rfl ?_
          refine i_iload C dX0_drawAgainst_96 0 rfl ?_
          refine s_vcV C [_, _] vmX0_drawAll lkX0_68 rfl rfl (by decide) hq0 (by decide) rfl rfl (Nat.le_of_ble_eq_true rfl) dX0_drawAgainst_98 (ctX0_drawAll C.inj hq0 hq1) h (fun M4 h => ?_)
          refine i_iload_n C dX0_drawAgainst_101 3 rfl ?_
          refine s_iconst C (1 : Int32) dX0_drawAgainst_102 (by decide) ?_
          refine i_iload C dX0_drawAgainst_103 0 rfl ?_
          refine s_ishl C dX0_drawAgainst_105 ?_
          refine s_iconst C (-1 : Int32) dX0_drawAgainst_106 (by decide) ?_
          refine s_ixor C dX0_drawAgainst_107 ?_
          refine s_iand C dX0_drawAgainst_108 ?_
          refine z_gi h (fun x5 h => ?_)
          refine i_istore_n (lv9 := [(3, _), (5, _), (0, _), (1, _), (4, _)]) C 3 dX0_drawAgainst_109 rfl (by decide) rfl ?_
          refine z_iinc (n := 1) (c9 := (1 : Int32)) (by decide) h (fun x6 hx h => ?_)
          refine i_iinc (lv9 := [(4, _), (3, _), (5, _), (0, _), (1, _)]) C dX0_drawAgainst_110 4 rfl hx (by decide) rfl ?_
          refine s_goto C 73 (by decide) dX0_drawAgainst_113 ?_
          exact sg_T.to (hk73 _ _ h hq0 hq1) [3, 4, 1, 0] rfl
  exact key N
def fX0_drawAgainst (N : Nat) (a0_ : Nat) (a1_ : Nat) (x2_ : Int32) (M : sg_M) : Option (sg_M) :=
  sg_bv (fX1_settleUnit N (Yc.2.2.2 a0_ 4) a1_ (M.1 a1_ 7) x2_ M) (fun M7 : sg_M =>
  sg_m (sg_uJ M7 a0_ 0 (0 : Int64)) (fun M8 : sg_M =>
  sg_m (sg_uJ M8 a0_ 1 (M8.2 (Yc.2.2.2 a0_ 4) 1)) (fun M9 : sg_M =>
  sg_bv (fJ7_fill_53178 N (Yc.2.2.2 a0_ 2) (0 : Int32) M9) (fun M10 : sg_M =>
  if sg_cb (0 : Int32) (0 : Int32) (4 : Int32) (Yc.2.2.1 (Yc.2.2.2 a1_ 14)) (Yc.2.2.1 (Yc.2.2.2 a0_ 3)) = true then
  sg_m (sg_cpy M10 (Yc.2.2.2 a1_ 14) (Yc.2.2.2 a0_ 3) ((0 : Int32)).toNatClampNeg ((0 : Int32)).toNatClampNeg ((4 : Int32)).toNatClampNeg) (fun M11 : sg_M =>
  sg_m ((((1 : Int32) <<< ((M11.1 a1_ 5) &&& 31)) - (1 : Int32)) &&& ((M11.1 (Yc.2.2.2 a0_ 4) 0) ^^^ (-1 : Int32))) (fun x12 : Int32 =>
  sg_m (0 : Int32) (fun x13 : Int32 =>
  gX0_drawAgainst_73 N (a0_, a1_, x12, x13) M11)))
  else none))))
set_option maxHeartbeats 4000000 in
set_option maxRecDepth 100000 in
theorem tX0_drawAgainst {ad : Nat → Nat} {X : sg_X} {N : Nat} {r : sg_M} (C : sg_C Yc ad X cX0_drawAgainst RX0 6 4) (E : sg_eV Yc ad X cX0_drawAgainst r) : ∀ (a0_ : Nat) (a1_ : Nat) (x2_ : Int32) (M : sg_M), sg_K Yc a0_ 0 → sg_K Yc a1_ 4 → fX0_drawAgainst N a0_ a1_ x2_ M = some r → sg_T Yc ad X 6 0 [(0, .ref (ad a0_)), (1, .ref (ad a1_)), (2, .int x2_)] [] M := by
  intro a0_ a1_ x2_ M hq0 hq1 h
  unfold fX0_drawAgainst at h
  refine i_aload_n C dX0_drawAgainst_0 0 rfl ?_
  refine gf0_28 C hq0 dX0_drawAgainst_1 ?_
  refine i_aload_n C dX0_drawAgainst_4 1 rfl ?_
  refine i_aload_n C dX0_drawAgainst_5 1 rfl ?_
  refine gf0_32 C hq1 dX0_drawAgainst_6 ?_
  refine i_iload_n C dX0_drawAgainst_9 2 rfl ?_
  refine s_vcV C [_, _, _] vmX1_settleUnit lkX0_38 rfl rfl (by decide) (ky0_4 hq0) (by decide) rfl rfl (Nat.le_of_ble_eq_true rfl) dX0_drawAgainst_10 (ctX1_settleUnit C.inj (ky0_4 hq0) hq1) h (fun M7 h => ?_)
  refine i_aload_n C dX0_drawAgainst_13 0 rfl ?_
  refine s_lconst C (0 : Int64) dX0_drawAgainst_14 (by decide) ?_
  refine pf0_9 C hq0 dX0_drawAgainst_15 ?_
  refine z_gM h (fun M8 h => ?_)
  refine i_aload_n C dX0_drawAgainst_18 0 rfl ?_
  refine i_aload_n C dX0_drawAgainst_19 0 rfl ?_
  refine gf0_28 C hq0 dX0_drawAgainst_20 ?_
  refine gf0_42 C (ky0_4 hq0) dX0_drawAgainst_23 ?_
  refine pf0_15 C hq0 dX0_drawAgainst_26 ?_
  refine z_gM h (fun M9 h => ?_)
  refine i_aload_n C dX0_drawAgainst_29 0 rfl ?_
  refine gf0_18 C hq0 dX0_drawAgainst_30 ?_
  refine s_iconst C (0 : Int32) dX0_drawAgainst_33 (by decide) ?_
  refine s_scV C [_, _] smJ7_fill_53178 lkX0_43 (by decide) rfl rfl (Nat.le_of_ble_eq_true rfl) dX0_drawAgainst_34 (ctJ7_fill_53178 C.inj (ky0_2 hq0)) h (fun M10 h => ?_)
  refine i_aload_n C dX0_drawAgainst_37 1 rfl ?_
  refine gf0_49 C hq1 dX0_drawAgainst_38 ?_
  refine s_iconst C (0 : Int32) dX0_drawAgainst_41 (by decide) ?_
  refine i_aload_n C dX0_drawAgainst_42 0 rfl ?_
  refine gf0_22 C hq0 dX0_drawAgainst_43 ?_
  refine s_iconst C (0 : Int32) dX0_drawAgainst_46 (by decide) ?_
  refine s_iconst C (4 : Int32) dX0_drawAgainst_47 (by decide) ?_
  refine s_copy C (by decide) (ky4_14 hq1) (ky0_3 hq0) copy_X0_52 copy_1 copy_2 copy_3 (Nat.le_of_ble_eq_true rfl) dX0_drawAgainst_48 h (fun h => ?_)
  refine z_gM h (fun M11 h => ?_)
  refine s_iconst C (1 : Int32) dX0_drawAgainst_51 (by decide) ?_
  refine i_aload_n C dX0_drawAgainst_52 1 rfl ?_
  refine gf0_58 C hq1 dX0_drawAgainst_53 ?_
  refine s_ishl C dX0_drawAgainst_56 ?_
  refine s_iconst C (1 : Int32) dX0_drawAgainst_57 (by decide) ?_
  refine s_isub C dX0_drawAgainst_58 ?_
  refine i_aload_n C dX0_drawAgainst_59 0 rfl ?_
  refine gf0_28 C hq0 dX0_drawAgainst_60 ?_
  refine gf0_61 C (ky0_4 hq0) dX0_drawAgainst_63 ?_
  refine s_iconst C (-1 : Int32) dX0_drawAgainst_66 (by decide) ?_
  refine s_ixor C dX0_drawAgainst_67 ?_
  refine s_iand C dX0_drawAgainst_68 ?_
  refine z_gi h (fun x12 h => ?_)
  refine i_istore_n (lv9 := [(3, _), (0, _), (1, _), (2, _)]) C 3 dX0_drawAgainst_69 rfl (by decide) rfl ?_
  refine s_iconst C (0 : Int32) dX0_drawAgainst_70 (by decide) ?_
  refine z_gi h (fun x13 h => ?_)
  refine i_istore (lv9 := [(4, _), (3, _), (0, _), (1, _), (2, _)]) C dX0_drawAgainst_71 (by decide) rfl ?_
  exact sg_T.to (tX0_drawAgainst_73 C E _ _ h hq0 hq1) [2, 3, 1, 0] rfl
theorem ctX0_drawAgainst {ad : Nat → Nat} {V : sg_V} {N : Nat} (hi : sg_inj Yc ad) {a0_ : Nat} {a1_ : Nat} {x2_ : Int32} {M : sg_M} (hq0 : sg_K Yc a0_ 0) (hq1 : sg_K Yc a1_ 4) : ∀ res, fX0_drawAgainst N a0_ a1_ x2_ M = some res → sg_cV Yc ad V yX0_drawAgainst cX0_drawAgainst 6 4 [.ref (ad a0_), .ref (ad a1_), .int x2_] M res := fun res h => sg_bodyV (by decide) hi (Nat.le_of_ble_eq_true rfl) (fun X hX C E => by subst hX; exact tX0_drawAgainst C E _ _ _  _ hq0 hq1 h)
def fX1_rise (N : Nat) (a0_ : Nat) (a1_ : Nat) (x2_ : Int32) (M : sg_M) : Option (Int64 × sg_M) :=
  if sg_ib x2_ (Yc.2.2.1 (Yc.2.2.2 a1_ 10)) = true then
  if sg_ib (M.1 (Yc.2.2.2 a1_ 10) (x2_).toNatClampNeg) (Yc.2.2.1 (Yc.2.2.2 a0_ 2)) = true then
  if sg_ib x2_ (Yc.2.2.1 (Yc.2.2.2 a1_ 9)) = true then
  if sg_ib (M.1 (Yc.2.2.2 a1_ 9) (x2_).toNatClampNeg) (Yc.2.2.1 (Yc.2.2.2 a0_ 2)) = true then
  some (((M.2 (Yc.2.2.2 a0_ 2) ((M.1 (Yc.2.2.2 a1_ 10) (x2_).toNatClampNeg)).toNatClampNeg) - (M.2 (Yc.2.2.2 a0_ 2) ((M.1 (Yc.2.2.2 a1_ 9) (x2_).toNatClampNeg)).toNatClampNeg)), M)
  else none
  else none
  else none
  else none
set_option maxHeartbeats 4000000 in
set_option maxRecDepth 100000 in
theorem tX1_rise {ad : Nat → Nat} {X : sg_X} {N : Nat} {r : Int64 × sg_M} (C : sg_C Yc ad X cX1_rise RX1 3 0) (E : sg_eL Yc ad X cX1_rise r) : ∀ (a0_ : Nat) (a1_ : Nat) (x2_ : Int32) (M : sg_M), sg_K Yc a0_ 1 → sg_K Yc a1_ 4 → fX1_rise N a0_ a1_ x2_ M = some r → sg_T Yc ad X 3 0 [(0, .ref (ad a0_)), (1, .ref (ad a1_)), (2, .int x2_)] [] M := by
  intro a0_ a1_ x2_ M hq0 hq1 h
  unfold fX1_rise at h
  refine i_aload_n C dX1_rise_0 0 rfl ?_
  refine gf1_19 C hq0 dX1_rise_1 ?_
  refine i_aload_n C dX1_rise_4 1 rfl ?_
  refine gf1_94 C hq1 dX1_rise_5 ?_
  refine i_iload_n C dX1_rise_8 2 rfl ?_
  refine s_iald C (ky4_10 hq1) dX1_rise_9 h (fun h => ?_)
  refine s_lald C (ky1_2 hq0) dX1_rise_10 h (fun h => ?_)
  refine i_aload_n C dX1_rise_11 0 rfl ?_
  refine gf1_19 C hq0 dX1_rise_12 ?_
  refine i_aload_n C dX1_rise_15 1 rfl ?_
  refine gf1_91 C hq1 dX1_rise_16 ?_
  refine i_iload_n C dX1_rise_19 2 rfl ?_
  refine s_iald C (ky4_9 hq1) dX1_rise_20 h (fun h => ?_)
  refine s_lald C (ky1_2 hq0) dX1_rise_21 h (fun h => ?_)
  refine s_lsub C dX1_rise_22 ?_
  exact s_lret C E dX1_rise_23 h
theorem ctX1_rise {ad : Nat → Nat} {V : sg_V} {N : Nat} (hi : sg_inj Yc ad) {a0_ : Nat} {a1_ : Nat} {x2_ : Int32} {M : sg_M} (hq0 : sg_K Yc a0_ 1) (hq1 : sg_K Yc a1_ 4) : ∀ res, fX1_rise N a0_ a1_ x2_ M = some res → sg_cL Yc ad V yX1_rise cX1_rise 3 0 [.ref (ad a0_), .ref (ad a1_), .int x2_] M res := fun res h => sg_bodyL (by decide) hi (Nat.le_of_ble_eq_true rfl) (fun X hX C E => by subst hX; exact tX1_rise C E _ _ _  _ hq0 hq1 h)
def bX1_givenBy_16 (N : Nat)  (k16 : (Nat × Nat × Int32 × Int64 × Int32) → sg_M → Option (Int64 × sg_M)) (s : Nat × Nat × Int32 × Int64 × Int32) (M : sg_M) : Option (Int64 × sg_M) :=
  if (M.1 s.2.1 6) ≤ s.2.2.2.2 then (
  some (s.2.2.2.1, M)) else (
  if sg_ib s.2.2.2.2 (Yc.2.2.1 (Yc.2.2.2 s.2.1 9)) = true then
  if (M.1 (Yc.2.2.2 s.2.1 9) (s.2.2.2.2).toNatClampNeg) = s.2.2.1 then (
  if sg_ib s.2.2.2.2 (Yc.2.2.1 (Yc.2.2.2 s.2.1 11)) = true then
  if sg_ib s.2.2.2.2 (Yc.2.2.1 (Yc.2.2.2 s.2.1 10)) = true then
  if sg_ib (M.1 (Yc.2.2.2 s.2.1 10) (s.2.2.2.2).toNatClampNeg) (Yc.2.2.1 (Yc.2.2.2 s.1 2)) = true then
  sg_m (s.2.2.2.1 + (((M.1 (Yc.2.2.2 s.2.1 11) (s.2.2.2.2).toNatClampNeg)).toInt64 * (M.2 (Yc.2.2.2 s.1 2) ((M.1 (Yc.2.2.2 s.2.1 10) (s.2.2.2.2).toNatClampNeg)).toNatClampNeg))) (fun x1 : Int64 =>
  sg_m (s.2.2.2.2 + (1 : Int32)) (fun x2 : Int32 =>
  k16 (s.1, s.2.1, s.2.2.1, x1, x2) M))
  else none
  else none
  else none) else (
  if sg_ib s.2.2.2.2 (Yc.2.2.1 (Yc.2.2.2 s.2.1 10)) = true then
  if (M.1 (Yc.2.2.2 s.2.1 10) (s.2.2.2.2).toNatClampNeg) = s.2.2.1 then (
  if sg_ib s.2.2.2.2 (Yc.2.2.1 (Yc.2.2.2 s.2.1 11)) = true then
  if sg_ib s.2.2.2.2 (Yc.2.2.1 (Yc.2.2.2 s.2.1 9)) = true then
  if sg_ib (M.1 (Yc.2.2.2 s.2.1 9) (s.2.2.2.2).toNatClampNeg) (Yc.2.2.1 (Yc.2.2.2 s.1 2)) = true then
  sg_m (s.2.2.2.1 + (((M.1 (Yc.2.2.2 s.2.1 11) (s.2.2.2.2).toNatClampNeg)).toInt64 * (M.2 (Yc.2.2.2 s.1 2) ((M.1 (Yc.2.2.2 s.2.1 9) (s.2.2.2.2).toNatClampNeg)).toNatClampNeg))) (fun x3 : Int64 =>
  sg_m (s.2.2.2.2 + (1 : Int32)) (fun x4 : Int32 =>
  k16 (s.1, s.2.1, s.2.2.1, x3, x4) M))
  else none
  else none
  else none) else (
  sg_m (s.2.2.2.2 + (1 : Int32)) (fun x5 : Int32 =>
  k16 (s.1, s.2.1, s.2.2.1, s.2.2.2.1, x5) M))
  else none)
  else none)
def gX1_givenBy_16 (N : Nat)  : (Nat × Nat × Int32 × Int64 × Int32) → sg_M → Option (Int64 × sg_M) := sg_lp (bX1_givenBy_16 N ) N
set_option maxHeartbeats 4000000 in
set_option maxRecDepth 100000 in
theorem tX1_givenBy_16 {ad : Nat → Nat} {X : sg_X} {N : Nat} {r : Int64 × sg_M} (C : sg_C Yc ad X cX1_givenBy RX1 6 0) (E : sg_eL Yc ad X cX1_givenBy r)  : ∀ (s : Nat × Nat × Int32 × Int64 × Int32) (M : sg_M), gX1_givenBy_16 N s M = some r → sg_K Yc s.1 1 → sg_K Yc s.2.1 4 → sg_T Yc ad X 6 16 [(0, .ref (ad (s.1))), (1, .ref (ad (s.2.1))), (2, .int (s.2.2.1)), (3, .long (s.2.2.2.1)), (5, .int (s.2.2.2.2))] [] M := by
  have key : ∀ n : Nat, ∀ (s : Nat × Nat × Int32 × Int64 × Int32) (M : sg_M), sg_lp (bX1_givenBy_16 N) n s M = some r → sg_K Yc s.1 1 → sg_K Yc s.2.1 4 → sg_T Yc ad X 6 16 [(0, .ref (ad (s.1))), (1, .ref (ad (s.2.1))), (2, .int (s.2.2.1)), (3, .long (s.2.2.2.1)), (5, .int (s.2.2.2.2))] [] M := by
    intro n
    induction n with
    | zero => intro s M h; cases h
    | succ n ih =>
      intro s M h hq0 hq1
      have h : bX1_givenBy_16 N (sg_lp (bX1_givenBy_16 N) n) s M = some r := h
      generalize sg_lp (bX1_givenBy_16 N) n = k16 at h ih
      have hk16 := ih
      unfold bX1_givenBy_16 at h
      refine i_iload C dX1_givenBy_16 4 rfl ?_
      refine i_aload_n C dX1_givenBy_18 1 rfl ?_
      refine gf1_88 C hq1 dX1_givenBy_19 ?_
      refine s_icmp_ge C 104 (by decide) dX1_givenBy_22 h (fun _ h => ?_) (fun _ h => ?_)
      · refine i_lload_n C dX1_givenBy_104 3 rfl ?_
        exact s_lret C E dX1_givenBy_105 h
      · refine i_aload_n C dX1_givenBy_25 1 rfl ?_
        refine gf1_91 C hq1 dX1_givenBy_26 ?_
        refine i_iload C dX1_givenBy_29 4 rfl ?_
        refine s_iald C (ky4_9 hq1) dX1_givenBy_31 h (fun h => ?_)
        refine i_iload_n C dX1_givenBy_32 2 rfl ?_
        refine s_icmp_ne C 63 (by decide) dX1_givenBy_33 h (fun _ h => ?_) (fun _ h => ?_)
        · refine i_lload_n C dX1_givenBy_36 3 rfl ?_
          refine i_aload_n C dX1_givenBy_37 1 rfl ?_
          refine gf1_81 C hq1 dX1_givenBy_38 ?_
          refine i_iload C dX1_givenBy_41 4 rfl ?_
          refine s_iald C (ky4_11 hq1) dX1_givenBy_43 h (fun h => ?_)
          refine s_i2l C dX1_givenBy_44 ?_
          refine i_aload_n C dX1_givenBy_45 0 rfl ?_
          refine gf1_19 C hq0 dX1_givenBy_46 ?_
          refine i_aload_n C dX1_givenBy_49 1 rfl ?_
          refine gf1_94 C hq1 dX1_givenBy_50 ?_
          refine i_iload C dX1_givenBy_53 4 rfl ?_
          refine s_iald C (ky4_10 hq1) dX1_givenBy_55 h (fun h => ?_)
          refine s_lald C (ky1_2 hq0) dX1_givenBy_56 h (fun h => ?_)
          refine s_lmul C dX1_givenBy_57 ?_
          refine s_ladd C dX1_givenBy_58 ?_
          refine z_gl h (fun x1 h => ?_)
          refine i_lstore_n (lv9 := [(3, _), (0, _), (1, _), (2, _), (5, _)]) C 3 dX1_givenBy_59 rfl (by decide) rfl ?_
          refine s_goto C 98 (by decide) dX1_givenBy_60 ?_
          refine z_iinc (n := 1) (c9 := (1 : Int32)) (by decide) h (fun x2 hx h => ?_)
          refine i_iinc (lv9 := [(5, _), (3, _), (0, _), (1, _), (2, _)]) C dX1_givenBy_98 4 rfl hx (by decide) rfl ?_
          refine s_goto C 16 (by decide) dX1_givenBy_101 ?_
          exact sg_T.to (hk16 _ _ h hq0 hq1) [2, 3, 4, 1, 0] rfl
        · refine i_aload_n C dX1_givenBy_63 1 rfl ?_
          refine gf1_94 C hq1 dX1_givenBy_64 ?_
          refine i_iload C dX1_givenBy_67 4 rfl ?_
          refine s_iald C (ky4_10 hq1) dX1_givenBy_69 h (fun h => ?_)
          refine i_iload_n C dX1_givenBy_70 2 rfl ?_
          refine s_icmp_ne C 98 (by decide) dX1_givenBy_71 h (fun _ h => ?_) (fun _ h => ?_)
          · refine i_lload_n C dX1_givenBy_74 3 rfl ?_
            refine i_aload_n C dX1_givenBy_75 1 rfl ?_
            refine gf1_81 C hq1 dX1_givenBy_76 ?_
            refine i_iload C dX1_givenBy_79 4 rfl ?_
            refine s_iald C (ky4_11 hq1) dX1_givenBy_81 h (fun h => ?_)
            refine s_i2l C dX1_givenBy_82 ?_
            refine i_aload_n C dX1_givenBy_83 0 rfl ?_
            refine gf1_19 C hq0 dX1_givenBy_84 ?_
            refine i_aload_n C dX1_givenBy_87 1 rfl ?_
            refine gf1_91 C hq1 dX1_givenBy_88 ?_
            refine i_iload C dX1_givenBy_91 4 rfl ?_
            refine s_iald C (ky4_9 hq1) dX1_givenBy_93 h (fun h => ?_)
            refine s_lald C (ky1_2 hq0) dX1_givenBy_94 h (fun h => ?_)
            refine s_lmul C dX1_givenBy_95 ?_
            refine s_ladd C dX1_givenBy_96 ?_
            refine z_gl h (fun x3 h => ?_)
            refine i_lstore_n (lv9 := [(3, _), (0, _), (1, _), (2, _), (5, _)]) C 3 dX1_givenBy_97 rfl (by decide) rfl ?_
            refine z_iinc (n := 1) (c9 := (1 : Int32)) (by decide) h (fun x4 hx h => ?_)
            refine i_iinc (lv9 := [(5, _), (3, _), (0, _), (1, _), (2, _)]) C dX1_givenBy_98 4 rfl hx (by decide) rfl ?_
            refine s_goto C 16 (by decide) dX1_givenBy_101 ?_
            exact sg_T.to (hk16 _ _ h hq0 hq1) [2, 3, 4, 1, 0] rfl
          · refine z_iinc (n := 1) (c9 := (1 : Int32)) (by decide) h (fun x5 hx h => ?_)
            refine i_iinc (lv9 := [(5, _), (0, _), (1, _), (2, _), (3, _)]) C dX1_givenBy_98 4 rfl hx (by decide) rfl ?_
            refine s_goto C 16 (by decide) dX1_givenBy_101 ?_
            exact sg_T.to (hk16 _ _ h hq0 hq1) [1, 2, 3, 4, 0] rfl
  exact key N
def fX1_givenBy (N : Nat) (a0_ : Nat) (a1_ : Nat) (x2_ : Int32) (M : sg_M) : Option (Int64 × sg_M) :=
  if sg_ib x2_ (Yc.2.2.1 (Yc.2.2.2 a1_ 12)) = true then
  sg_m (((M.1 (Yc.2.2.2 a1_ 12) (x2_).toNatClampNeg)).toInt64 * (M.2 a0_ 1)) (fun x6 : Int64 =>
  sg_m (0 : Int32) (fun x7 : Int32 =>
  gX1_givenBy_16 N (a0_, a1_, x2_, x6, x7) M))
  else none
set_option maxHeartbeats 4000000 in
set_option maxRecDepth 100000 in
theorem tX1_givenBy {ad : Nat → Nat} {X : sg_X} {N : Nat} {r : Int64 × sg_M} (C : sg_C Yc ad X cX1_givenBy RX1 6 0) (E : sg_eL Yc ad X cX1_givenBy r) : ∀ (a0_ : Nat) (a1_ : Nat) (x2_ : Int32) (M : sg_M), sg_K Yc a0_ 1 → sg_K Yc a1_ 4 → fX1_givenBy N a0_ a1_ x2_ M = some r → sg_T Yc ad X 6 0 [(0, .ref (ad a0_)), (1, .ref (ad a1_)), (2, .int x2_)] [] M := by
  intro a0_ a1_ x2_ M hq0 hq1 h
  unfold fX1_givenBy at h
  refine i_aload_n C dX1_givenBy_0 1 rfl ?_
  refine gf1_117 C hq1 dX1_givenBy_1 ?_
  refine i_iload_n C dX1_givenBy_4 2 rfl ?_
  refine s_iald C (ky4_12 hq1) dX1_givenBy_5 h (fun h => ?_)
  refine s_i2l C dX1_givenBy_6 ?_
  refine i_aload_n C dX1_givenBy_7 0 rfl ?_
  refine gf1_15 C hq0 dX1_givenBy_8 ?_
  refine s_lmul C dX1_givenBy_11 ?_
  refine z_gl h (fun x6 h => ?_)
  refine i_lstore_n (lv9 := [(3, _), (0, _), (1, _), (2, _)]) C 3 dX1_givenBy_12 rfl (by decide) rfl ?_
  refine s_iconst C (0 : Int32) dX1_givenBy_13 (by decide) ?_
  refine z_gi h (fun x7 h => ?_)
  refine i_istore (lv9 := [(5, _), (3, _), (0, _), (1, _), (2, _)]) C dX1_givenBy_14 (by decide) rfl ?_
  exact sg_T.to (tX1_givenBy_16 C E _ _ h hq0 hq1) [2, 3, 4, 1, 0] rfl
theorem ctX1_givenBy {ad : Nat → Nat} {V : sg_V} {N : Nat} (hi : sg_inj Yc ad) {a0_ : Nat} {a1_ : Nat} {x2_ : Int32} {M : sg_M} (hq0 : sg_K Yc a0_ 1) (hq1 : sg_K Yc a1_ 4) : ∀ res, fX1_givenBy N a0_ a1_ x2_ M = some res → sg_cL Yc ad V yX1_givenBy cX1_givenBy 6 0 [.ref (ad a0_), .ref (ad a1_), .int x2_] M res := fun res h => sg_bodyL (by decide) hi (Nat.le_of_ble_eq_true rfl) (fun X hX C E => by subst hX; exact tX1_givenBy C E _ _ _  _ hq0 hq1 h)
def fX1_heatAbove (N : Nat) (a0_ : Nat) (a1_ : Nat) (a2_ : Nat) (x3_ : Int32) (M : sg_M) : Option (Int64 × sg_M) :=
  if sg_ib x3_ (Yc.2.2.1 a2_) = true then
  if (M.1 a2_ (x3_).toNatClampNeg) ≤ 0 then (
  some ((0 : Int64), M)) else (
  sg_b (fX1_rise N a0_ a1_ x3_ M) (fun (x2 : Int64) (M1 : sg_M) =>
  some ((if 0 < x2 then x2 else -x2), M1)))
  else none
set_option maxHeartbeats 4000000 in
set_option maxRecDepth 100000 in
theorem tX1_heatAbove {ad : Nat → Nat} {X : sg_X} {N : Nat} {r : Int64 × sg_M} (C : sg_C Yc ad X cX1_heatAbove RX1 4 1) (E : sg_eL Yc ad X cX1_heatAbove r) : ∀ (a0_ : Nat) (a1_ : Nat) (a2_ : Nat) (x3_ : Int32) (M : sg_M), sg_K Yc a0_ 1 → sg_K Yc a1_ 4 → sg_K Yc a2_ 13 → fX1_heatAbove N a0_ a1_ a2_ x3_ M = some r → sg_T Yc ad X 4 0 [(0, .ref (ad a0_)), (1, .ref (ad a1_)), (2, .ref (ad a2_)), (3, .int x3_)] [] M := by
  intro a0_ a1_ a2_ x3_ M hq0 hq1 hq2 h
  unfold fX1_heatAbove at h
  refine i_aload_n C dX1_heatAbove_0 2 rfl ?_
  refine i_iload_n C dX1_heatAbove_1 3 rfl ?_
  refine s_iald C hq2 dX1_heatAbove_2 h (fun h => ?_)
  refine s_if_le C 18 (by decide) dX1_heatAbove_3 h (fun _ h => ?_) (fun _ h => ?_)
  · refine s_lconst C (0 : Int64) dX1_heatAbove_18 (by decide) ?_
    exact s_lret C E dX1_heatAbove_19 h
  · refine i_aload_n C dX1_heatAbove_6 0 rfl ?_
    refine i_aload_n C dX1_heatAbove_7 1 rfl ?_
    refine i_iload_n C dX1_heatAbove_8 3 rfl ?_
    refine s_vcL C [_, _] vmX1_rise lkX1_120 rfl rfl (by decide) hq0 (by decide) rfl rfl (Nat.le_of_ble_eq_true rfl) dX1_heatAbove_9 (ctX1_rise C.inj hq0 hq1) h (fun x2 M1 h => ?_)
    refine s_mabsl C (by decide) mabsl_X1_124 mabsl_1 math_2 mabsl_3 (Nat.le_of_ble_eq_true rfl) dX1_heatAbove_12 ?_
    refine s_goto C 19 (by decide) dX1_heatAbove_15 ?_
    exact s_lret C E dX1_heatAbove_19 h
theorem ctX1_heatAbove {ad : Nat → Nat} {V : sg_V} {N : Nat} (hi : sg_inj Yc ad) {a0_ : Nat} {a1_ : Nat} {a2_ : Nat} {x3_ : Int32} {M : sg_M} (hq0 : sg_K Yc a0_ 1) (hq1 : sg_K Yc a1_ 4) (hq2 : sg_K Yc a2_ 13) : ∀ res, fX1_heatAbove N a0_ a1_ a2_ x3_ M = some res → sg_cL Yc ad V yX1_heatAbove cX1_heatAbove 4 1 [.ref (ad a0_), .ref (ad a1_), .ref (ad a2_), .int x3_] M res := fun res h => sg_bodyL (by decide) hi (Nat.le_of_ble_eq_true rfl) (fun X hX C E => by subst hX; exact tX1_heatAbove C E _ _ _ _  _ hq0 hq1 hq2 h)
def bX1_wearBits_5 (N : Nat)  (k5 : (Nat × Nat × Nat × Int32 × Int32) → sg_M → Option (Int32 × sg_M)) (s : Nat × Nat × Nat × Int32 × Int32) (M : sg_M) : Option (Int32 × sg_M) :=
  if (M.1 s.2.1 6) ≤ s.2.2.2.2 then (
  some (s.2.2.2.1, M)) else (
  sg_b (fX1_heatAbove N s.1 s.2.1 s.2.2.1 s.2.2.2.2 M) (fun (x2 : Int64) (M1 : sg_M) =>
  if (lg_cmp x2 (((M1.1 s.2.1 3)).toInt64 * (M1.2 s.1 1))) ≤ 0 then (
  sg_m (s.2.2.2.2 + (1 : Int32)) (fun x3 : Int32 =>
  k5 (s.1, s.2.1, s.2.2.1, s.2.2.2.1, x3) M1)) else (
  sg_m (s.2.2.2.1 ||| ((1 : Int32) <<< (s.2.2.2.2 &&& 31))) (fun x4 : Int32 =>
  sg_m (s.2.2.2.2 + (1 : Int32)) (fun x5 : Int32 =>
  k5 (s.1, s.2.1, s.2.2.1, x4, x5) M1)))))
def gX1_wearBits_5 (N : Nat)  : (Nat × Nat × Nat × Int32 × Int32) → sg_M → Option (Int32 × sg_M) := sg_lp (bX1_wearBits_5 N ) N
set_option maxHeartbeats 4000000 in
set_option maxRecDepth 100000 in
theorem tX1_wearBits_5 {ad : Nat → Nat} {X : sg_X} {N : Nat} {r : Int32 × sg_M} (C : sg_C Yc ad X cX1_wearBits RX1 5 2) (E : sg_eI Yc ad X cX1_wearBits .int r)  : ∀ (s : Nat × Nat × Nat × Int32 × Int32) (M : sg_M), gX1_wearBits_5 N s M = some r → sg_K Yc s.1 1 → sg_K Yc s.2.1 4 → sg_K Yc s.2.2.1 13 → sg_T Yc ad X 5 5 [(0, .ref (ad (s.1))), (1, .ref (ad (s.2.1))), (2, .ref (ad (s.2.2.1))), (3, .int (s.2.2.2.1)), (4, .int (s.2.2.2.2))] [] M := by
  have key : ∀ n : Nat, ∀ (s : Nat × Nat × Nat × Int32 × Int32) (M : sg_M), sg_lp (bX1_wearBits_5 N) n s M = some r → sg_K Yc s.1 1 → sg_K Yc s.2.1 4 → sg_K Yc s.2.2.1 13 → sg_T Yc ad X 5 5 [(0, .ref (ad (s.1))), (1, .ref (ad (s.2.1))), (2, .ref (ad (s.2.2.1))), (3, .int (s.2.2.2.1)), (4, .int (s.2.2.2.2))] [] M := by
    intro n
    induction n with
    | zero => intro s M h; cases h
    | succ n ih =>
      intro s M h hq0 hq1 hq2
      have h : bX1_wearBits_5 N (sg_lp (bX1_wearBits_5 N) n) s M = some r := h
      generalize sg_lp (bX1_wearBits_5 N) n = k5 at h ih
      have hk5 := ih
      unfold bX1_wearBits_5 at h
      refine i_iload C dX1_wearBits_5 4 rfl ?_
      refine i_aload_n C dX1_wearBits_7 1 rfl ?_
      refine gf1_88 C hq1 dX1_wearBits_8 ?_
      refine s_icmp_ge C 49 (by decide) dX1_wearBits_11 h (fun _ h => ?_) (fun _ h => ?_)
      · refine i_iload_n C dX1_wearBits_49 3 rfl ?_
        exact s_iret C E dX1_wearBits_50 h
      · refine i_aload_n C dX1_wearBits_14 0 rfl ?_
        refine i_aload_n C dX1_wearBits_15 1 rfl ?_
        refine i_aload_n C dX1_wearBits_16 2 rfl ?_
        refine i_iload C dX1_wearBits_17 4 rfl ?_
        refine s_vcL C [_, _, _] vmX1_heatAbove lkX1_128 rfl rfl (by decide) hq0 (by decide) rfl rfl (Nat.le_of_ble_eq_true rfl) dX1_wearBits_19 (ctX1_heatAbove C.inj hq0 hq1 hq2) h (fun x2 M1 h => ?_)
        refine i_aload_n C dX1_wearBits_22 1 rfl ?_
        refine gf1_132 C hq1 dX1_wearBits_23 ?_
        refine s_i2l C dX1_wearBits_26 ?_
        refine i_aload_n C dX1_wearBits_27 0 rfl ?_
        refine gf1_15 C hq0 dX1_wearBits_28 ?_
        refine s_lmul C dX1_wearBits_31 ?_
        refine s_lcmp C dX1_wearBits_32 ?_
        refine s_if_le C 43 (by decide) dX1_wearBits_33 h (fun _ h => ?_) (fun _ h => ?_)
        · refine z_iinc (n := 1) (c9 := (1 : Int32)) (by decide) h (fun x3 hx h => ?_)
          refine i_iinc (lv9 := [(4, _), (0, _), (1, _), (2, _), (3, _)]) C dX1_wearBits_43 4 rfl hx (by decide) rfl ?_
          refine s_goto C 5 (by decide) dX1_wearBits_46 ?_
          exact sg_T.to (hk5 _ _ h hq0 hq1 hq2) [1, 2, 3, 4, 0] rfl
        · refine i_iload_n C dX1_wearBits_36 3 rfl ?_
          refine s_iconst C (1 : Int32) dX1_wearBits_37 (by decide) ?_
          refine i_iload C dX1_wearBits_38 4 rfl ?_
          refine s_ishl C dX1_wearBits_40 ?_
          refine s_ior C dX1_wearBits_41 ?_
          refine z_gi h (fun x4 h => ?_)
          refine i_istore_n (lv9 := [(3, _), (0, _), (1, _), (2, _), (4, _)]) C 3 dX1_wearBits_42 rfl (by decide) rfl ?_
          refine z_iinc (n := 1) (c9 := (1 : Int32)) (by decide) h (fun x5 hx h => ?_)
          refine i_iinc (lv9 := [(4, _), (3, _), (0, _), (1, _), (2, _)]) C dX1_wearBits_43 4 rfl hx (by decide) rfl ?_
          refine s_goto C 5 (by decide) dX1_wearBits_46 ?_
          exact sg_T.to (hk5 _ _ h hq0 hq1 hq2) [2, 3, 4, 1, 0] rfl
  exact key N
def fX1_wearBits (N : Nat) (a0_ : Nat) (a1_ : Nat) (a2_ : Nat) (M : sg_M) : Option (Int32 × sg_M) :=
  sg_m (0 : Int32) (fun x6 : Int32 =>
  sg_m (0 : Int32) (fun x7 : Int32 =>
  gX1_wearBits_5 N (a0_, a1_, a2_, x6, x7) M))
set_option maxHeartbeats 4000000 in
set_option maxRecDepth 100000 in
theorem tX1_wearBits {ad : Nat → Nat} {X : sg_X} {N : Nat} {r : Int32 × sg_M} (C : sg_C Yc ad X cX1_wearBits RX1 5 2) (E : sg_eI Yc ad X cX1_wearBits .int r) : ∀ (a0_ : Nat) (a1_ : Nat) (a2_ : Nat) (M : sg_M), sg_K Yc a0_ 1 → sg_K Yc a1_ 4 → sg_K Yc a2_ 13 → fX1_wearBits N a0_ a1_ a2_ M = some r → sg_T Yc ad X 5 0 [(0, .ref (ad a0_)), (1, .ref (ad a1_)), (2, .ref (ad a2_))] [] M := by
  intro a0_ a1_ a2_ M hq0 hq1 hq2 h
  unfold fX1_wearBits at h
  refine s_iconst C (0 : Int32) dX1_wearBits_0 (by decide) ?_
  refine z_gi h (fun x6 h => ?_)
  refine i_istore_n (lv9 := [(3, _), (0, _), (1, _), (2, _)]) C 3 dX1_wearBits_1 rfl (by decide) rfl ?_
  refine s_iconst C (0 : Int32) dX1_wearBits_2 (by decide) ?_
  refine z_gi h (fun x7 h => ?_)
  refine i_istore (lv9 := [(4, _), (3, _), (0, _), (1, _), (2, _)]) C dX1_wearBits_3 (by decide) rfl ?_
  exact sg_T.to (tX1_wearBits_5 C E _ _ h hq0 hq1 hq2) [2, 3, 4, 1, 0] rfl
theorem ctX1_wearBits {ad : Nat → Nat} {V : sg_V} {N : Nat} (hi : sg_inj Yc ad) {a0_ : Nat} {a1_ : Nat} {a2_ : Nat} {M : sg_M} (hq0 : sg_K Yc a0_ 1) (hq1 : sg_K Yc a1_ 4) (hq2 : sg_K Yc a2_ 13) : ∀ res, fX1_wearBits N a0_ a1_ a2_ M = some res → sg_cI Yc ad V yX1_wearBits cX1_wearBits 5 .int 2 [.ref (ad a0_), .ref (ad a1_), .ref (ad a2_)] M res := fun res h => sg_bodyI (by decide) hi (Nat.le_of_ble_eq_true rfl) (fun X hX C E => by subst hX; exact tX1_wearBits C E _ _ _  _ hq0 hq1 hq2 h)
def fX2_nextDraw (N : Nat) (a0_ : Nat) (x1_ : Int32) (M : sg_M) : Option (Int32 × sg_M) :=
  sg_m (sg_uJ M a0_ 2 ((((1103515245 : Int64) * (M.2 a0_ 2)) + (12345 : Int64)) &&& (2147483647 : Int64))) (fun M1 : sg_M =>
  if x1_ ≤ 0 then (
  some ((0 : Int32), M1)) else (
  if (65536 : Int64) = 0 then none else
  if ((x1_ + (1 : Int32))).toInt64 = 0 then none else
  some (((((M1.2 a0_ 2) / (65536 : Int64)) - ((M1.2 a0_ 2) / (65536 : Int64)) / ((x1_ + (1 : Int32))).toInt64 * ((x1_ + (1 : Int32))).toInt64)).toInt32, M1)))
set_option maxHeartbeats 4000000 in
set_option maxRecDepth 100000 in
theorem tX2_nextDraw {ad : Nat → Nat} {X : sg_X} {N : Nat} {r : Int32 × sg_M} (C : sg_C Yc ad X cX2_nextDraw RX2 2 0) (E : sg_eI Yc ad X cX2_nextDraw .int r) : ∀ (a0_ : Nat) (x1_ : Int32) (M : sg_M), sg_K Yc a0_ 2 → fX2_nextDraw N a0_ x1_ M = some r → sg_T Yc ad X 2 0 [(0, .ref (ad a0_)), (1, .int x1_)] [] M := by
  intro a0_ x1_ M hq0 h
  unfold fX2_nextDraw at h
  refine i_aload_n C dX2_nextDraw_0 0 rfl ?_
  refine s_ldc2 C (1103515245 : Int64) kl_X2_81 dX2_nextDraw_1 ?_
  refine i_aload_n C dX2_nextDraw_4 0 rfl ?_
  refine gf2_22 C hq0 dX2_nextDraw_5 ?_
  refine s_lmul C dX2_nextDraw_8 ?_
  refine s_ldc2 C (12345 : Int64) kl_X2_83 dX2_nextDraw_9 ?_
  refine s_ladd C dX2_nextDraw_12 ?_
  refine s_ldc2 C (2147483647 : Int64) kl_X2_85 dX2_nextDraw_13 ?_
  refine s_land C dX2_nextDraw_16 ?_
  refine pf2_22 C hq0 dX2_nextDraw_17 ?_
  refine z_gM h (fun M1 h => ?_)
  refine i_iload_n C dX2_nextDraw_20 1 rfl ?_
  refine s_if_le C 41 (by decide) dX2_nextDraw_21 h (fun _ h => ?_) (fun _ h => ?_)
  · refine s_iconst C (0 : Int32) dX2_nextDraw_41 (by decide) ?_
    exact s_iret C E dX2_nextDraw_42 h
  · refine i_aload_n C dX2_nextDraw_24 0 rfl ?_
    refine gf2_22 C hq0 dX2_nextDraw_25 ?_
    refine s_ldc2 C (65536 : Int64) kl_X2_87 dX2_nextDraw_28 ?_
    refine s_ldiv C dX2_nextDraw_31 h (fun h => ?_)
    refine i_iload_n C dX2_nextDraw_32 1 rfl ?_
    refine s_iconst C (1 : Int32) dX2_nextDraw_33 (by decide) ?_
    refine s_iadd C dX2_nextDraw_34 ?_
    refine s_i2l C dX2_nextDraw_35 ?_
    refine s_lrem C dX2_nextDraw_36 h (fun h => ?_)
    refine s_l2i C dX2_nextDraw_37 ?_
    refine s_goto C 42 (by decide) dX2_nextDraw_38 ?_
    exact s_iret C E dX2_nextDraw_42 h
theorem ctX2_nextDraw {ad : Nat → Nat} {V : sg_V} {N : Nat} (hi : sg_inj Yc ad) {a0_ : Nat} {x1_ : Int32} {M : sg_M} (hq0 : sg_K Yc a0_ 2) : ∀ res, fX2_nextDraw N a0_ x1_ M = some res → sg_cI Yc ad V yX2_nextDraw cX2_nextDraw 2 .int 0 [.ref (ad a0_), .int x1_] M res := fun res h => sg_bodyI (by decide) hi (Nat.le_of_ble_eq_true rfl) (fun X hX C E => by subst hX; exact tX2_nextDraw C E _ _  _ hq0 h)
def gX2_play_119 (N : Nat) (k30 : (Nat × Nat × Int32 × Int32) → sg_M → Option (sg_M)) (a0_ : Nat) (a1_ : Nat) (x3_ : Int32) (x4_ : Int32) (M : sg_M) : Option (sg_M) :=
  sg_b (fX7_isDeeperThan N (Yc.2.2.2 (Yc.2.2.2 a0_ 4) 3) (Yc.2.2.2 a0_ 1) M) (fun (x2 : Int32) (M1 : sg_M) =>
  if x2 = 0 then (
  sg_m (x4_ + (1 : Int32)) (fun x3 : Int32 =>
  k30 (a0_, a1_, x3_, x3) M1)) else (
  sg_bv (fX7_copyFrom N (Yc.2.2.2 a0_ 1) (Yc.2.2.2 (Yc.2.2.2 a0_ 4) 3) M1) (fun M4 : sg_M =>
  sg_m (x4_ + (1 : Int32)) (fun x5 : Int32 =>
  k30 (a0_, a1_, x3_, x5) M4))))
set_option maxHeartbeats 4000000 in
set_option maxRecDepth 100000 in
theorem tX2_play_119 {ad : Nat → Nat} {X : sg_X} {N : Nat} {r : sg_M} (C : sg_C Yc ad X cX2_play RX2 6 3) (E : sg_eV Yc ad X cX2_play r) {k30 : (Nat × Nat × Int32 × Int32) → sg_M → Option (sg_M)} (hk30 : ∀ (s : Nat × Nat × Int32 × Int32) (M : sg_M), k30 s M = some r → sg_K Yc s.1 2 → sg_K Yc s.2.1 4 → sg_T Yc ad X 6 30 [(0, .ref (ad (s.1))), (1, .ref (ad (s.2.1))), (3, .int (s.2.2.1)), (4, .int (s.2.2.2))] [] M) : ∀ (a0_ : Nat) (a1_ : Nat) (x3_ : Int32) (x4_ : Int32) (M : sg_M), gX2_play_119 N k30 a0_ a1_ x3_ x4_ M = some r → sg_K Yc a0_ 2 → sg_K Yc a1_ 4 → sg_T Yc ad X 6 119 [(0, .ref (ad a0_)), (1, .ref (ad a1_)), (3, .int x3_), (4, .int x4_)] [] M := by
  intro a0_ a1_ x3_ x4_ M h hq0 hq1
  unfold gX2_play_119 at h
  refine i_aload_n C dX2_play_119 0 rfl ?_
  refine gf2_33 C hq0 dX2_play_120 ?_
  refine gf2_63 C (ky2_4 hq0) dX2_play_123 ?_
  refine i_aload_n C dX2_play_126 0 rfl ?_
  refine gf2_18 C hq0 dX2_play_127 ?_
  refine s_vcI C [_] vmX7_isDeeperThan lkX2_73 rfl rfl (by decide) (ky1_3 (ky2_4 hq0)) (by decide) rfl rfl (Nat.le_of_ble_eq_true rfl) dX2_play_130 (ctX7_isDeeperThan C.inj (ky1_3 (ky2_4 hq0)) (ky2_1 hq0)) h (fun x2 M1 h => ?_)
  refine s_if_eq C 150 (by decide) dX2_play_133 h (fun _ h => ?_) (fun _ h => ?_)
  · refine z_iinc (n := 1) (c9 := (1 : Int32)) (by decide) h (fun x3 hx h => ?_)
    refine i_iinc (lv9 := [(4, _), (0, _), (1, _), (3, _)]) C dX2_play_150 3 rfl hx (by decide) rfl ?_
    refine s_goto C 30 (by decide) dX2_play_153 ?_
    exact sg_T.to (hk30 _ _ h hq0 hq1) [1, 2, 3, 0] rfl
  · refine i_aload_n C dX2_play_136 0 rfl ?_
    refine gf2_18 C hq0 dX2_play_137 ?_
    refine i_aload_n C dX2_play_140 0 rfl ?_
    refine gf2_33 C hq0 dX2_play_141 ?_
    refine gf2_63 C (ky2_4 hq0) dX2_play_144 ?_
    refine s_vcV C [_] vmX7_copyFrom lkX2_77 rfl rfl (by decide) (ky2_1 hq0) (by decide) rfl rfl (Nat.le_of_ble_eq_true rfl) dX2_play_147 (ctX7_copyFrom C.inj (ky2_1 hq0) (ky1_3 (ky2_4 hq0))) h (fun M4 h => ?_)
    refine z_iinc (n := 1) (c9 := (1 : Int32)) (by decide) h (fun x5 hx h => ?_)
    refine i_iinc (lv9 := [(4, _), (0, _), (1, _), (3, _)]) C dX2_play_150 3 rfl hx (by decide) rfl ?_
    refine s_goto C 30 (by decide) dX2_play_153 ?_
    exact sg_T.to (hk30 _ _ h hq0 hq1) [1, 2, 3, 0] rfl
def bX2_play_39 (N : Nat) (k30 : (Nat × Nat × Int32 × Int32) → sg_M → Option (sg_M)) (k39 : (Nat × Nat × Int32 × Int32 × Int32) → sg_M → Option (sg_M)) (s : Nat × Nat × Int32 × Int32 × Int32) (M : sg_M) : Option (sg_M) :=
  if (M.1 s.2.1 5) ≤ s.2.2.2.2 then (
  sg_bv (fX1_settle N (Yc.2.2.2 s.1 4) s.2.1 (Yc.2.2.2 s.2.1 11) (M.1 s.2.1 7) (Yc.2.2.2 s.1 3) M) (fun M6 : sg_M =>
  sg_b (fX7_isWithin N (Yc.2.2.2 (Yc.2.2.2 s.1 4) 3) (M6.1 s.2.1 2) M6) (fun (x8 : Int32) (M7 : sg_M) =>
  if x8 = 0 then (
  gX2_play_119 N k30 s.1 s.2.1 s.2.2.1 s.2.2.2.1 M7) else (
  sg_m (sg_uI M7 s.1 0 ((M7.1 s.1 0) + (1 : Int32))) (fun M9 : sg_M =>
  gX2_play_119 N k30 s.1 s.2.1 s.2.2.1 s.2.2.2.1 M9))))) else (
  if sg_ib s.2.2.2.2 (Yc.2.2.1 (Yc.2.2.2 s.2.1 12)) = true then
  sg_b (fX2_nextDraw N s.1 (M.1 (Yc.2.2.2 s.2.1 12) (s.2.2.2.2).toNatClampNeg) M) (fun (x11 : Int32) (M10 : sg_M) =>
  if sg_ib s.2.2.2.2 (Yc.2.2.1 (Yc.2.2.2 s.1 3)) = true then
  sg_m (sg_uI M10 (Yc.2.2.2 s.1 3) (s.2.2.2.2).toNatClampNeg x11) (fun M12 : sg_M =>
  sg_m (s.2.2.2.2 + (1 : Int32)) (fun x13 : Int32 =>
  k39 (s.1, s.2.1, s.2.2.1, s.2.2.2.1, x13) M12))
  else none)
  else none)
def gX2_play_39 (N : Nat) (k30 : (Nat × Nat × Int32 × Int32) → sg_M → Option (sg_M)) : (Nat × Nat × Int32 × Int32 × Int32) → sg_M → Option (sg_M) := sg_lp (bX2_play_39 N k30) N
set_option maxHeartbeats 4000000 in
set_option maxRecDepth 100000 in
theorem tX2_play_39 {ad : Nat → Nat} {X : sg_X} {N : Nat} {r : sg_M} (C : sg_C Yc ad X cX2_play RX2 6 3) (E : sg_eV Yc ad X cX2_play r) {k30 : (Nat × Nat × Int32 × Int32) → sg_M → Option (sg_M)} (hk30 : ∀ (s : Nat × Nat × Int32 × Int32) (M : sg_M), k30 s M = some r → sg_K Yc s.1 2 → sg_K Yc s.2.1 4 → sg_T Yc ad X 6 30 [(0, .ref (ad (s.1))), (1, .ref (ad (s.2.1))), (3, .int (s.2.2.1)), (4, .int (s.2.2.2))] [] M) : ∀ (s : Nat × Nat × Int32 × Int32 × Int32) (M : sg_M), gX2_play_39 N k30 s M = some r → sg_K Yc s.1 2 → sg_K Yc s.2.1 4 → sg_T Yc ad X 6 39 [(0, .ref (ad (s.1))), (1, .ref (ad (s.2.1))), (3, .int (s.2.2.1)), (4, .int (s.2.2.2.1)), (5, .int (s.2.2.2.2))] [] M := by
  have key : ∀ n : Nat, ∀ (s : Nat × Nat × Int32 × Int32 × Int32) (M : sg_M), sg_lp (bX2_play_39 N k30) n s M = some r → sg_K Yc s.1 2 → sg_K Yc s.2.1 4 → sg_T Yc ad X 6 39 [(0, .ref (ad (s.1))), (1, .ref (ad (s.2.1))), (3, .int (s.2.2.1)), (4, .int (s.2.2.2.1)), (5, .int (s.2.2.2.2))] [] M := by
    intro n
    induction n with
    | zero => intro s M h; cases h
    | succ n ih =>
      intro s M h hq0 hq1
      have h : bX2_play_39 N k30 (sg_lp (bX2_play_39 N k30) n) s M = some r := h
      generalize sg_lp (bX2_play_39 N k30) n = k39 at h ih
      have hk39 := ih
      unfold bX2_play_39 at h
      refine i_iload C dX2_play_39 4 rfl ?_
      refine i_aload_n C dX2_play_41 1 rfl ?_
      refine gf2_43 C hq1 dX2_play_42 ?_
      refine s_icmp_ge C 72 (by decide) dX2_play_45 h (fun _ h => ?_) (fun _ h => ?_)
      · refine i_aload_n C dX2_play_72 0 rfl ?_
        refine gf2_33 C hq0 dX2_play_73 ?_
        refine i_aload_n C dX2_play_76 1 rfl ?_
        refine i_aload_n C dX2_play_77 1 rfl ?_
        refine gf2_53 C hq1 dX2_play_78 ?_
        refine i_aload_n C dX2_play_81 1 rfl ?_
        refine gf2_56 C hq1 dX2_play_82 ?_
        refine i_aload_n C dX2_play_85 0 rfl ?_
        refine gf2_26 C hq0 dX2_play_86 ?_
        refine s_vcV C [_, _, _, _] vmX1_settle lkX2_59 rfl rfl (by decide) (ky2_4 hq0) (by decide) rfl rfl (Nat.le_of_ble_eq_true rfl) dX2_play_89 (ctX1_settle C.inj (ky2_4 hq0) hq1 (ky4_11 hq1) (ky2_3 hq0)) h (fun M6 h => ?_)
        refine i_aload_n C dX2_play_92 0 rfl ?_
        refine gf2_33 C hq0 dX2_play_93 ?_
        refine gf2_63 C (ky2_4 hq0) dX2_play_96 ?_
        refine i_aload_n C dX2_play_99 1 rfl ?_
        refine gf2_66 C hq1 dX2_play_100 ?_
        refine s_vcI C [_] vmX7_isWithin lkX2_69 rfl rfl (by decide) (ky1_3 (ky2_4 hq0)) (by decide) rfl rfl (Nat.le_of_ble_eq_true rfl) dX2_play_103 (ctX7_isWithin C.inj (ky1_3 (ky2_4 hq0))) h (fun x8 M7 h => ?_)
        refine s_if_eq C 119 (by decide) dX2_play_106 h (fun _ h => ?_) (fun _ h => ?_)
        · exact sg_T.to (tX2_play_119 C E hk30 _ _ _ _ _ h hq0 hq1) [0, 1, 2, 3] rfl
        · refine i_aload_n C dX2_play_109 0 rfl ?_
          refine s_dup C dX2_play_110 rfl ?_
          refine gf2_9 C hq0 dX2_play_111 ?_
          refine s_iconst C (1 : Int32) dX2_play_114 (by decide) ?_
          refine s_iadd C dX2_play_115 ?_
          refine pf2_9 C hq0 dX2_play_116 ?_
          refine z_gM h (fun M9 h => ?_)
          exact sg_T.to (tX2_play_119 C E hk30 _ _ _ _ _ h hq0 hq1) [0, 1, 2, 3] rfl
      · refine i_aload_n C dX2_play_48 0 rfl ?_
        refine gf2_26 C hq0 dX2_play_49 ?_
        refine i_iload C dX2_play_52 4 rfl ?_
        refine i_aload_n C dX2_play_54 0 rfl ?_
        refine i_aload_n C dX2_play_55 1 rfl ?_
        refine gf2_48 C hq1 dX2_play_56 ?_
        refine i_iload C dX2_play_59 4 rfl ?_
        refine s_iald C (ky4_12 hq1) dX2_play_61 h (fun h => ?_)
        refine s_vcI C [_] vmX2_nextDraw lkX2_49 rfl rfl (by decide) hq0 (by decide) rfl rfl (Nat.le_of_ble_eq_true rfl) dX2_play_62 (ctX2_nextDraw C.inj hq0) h (fun x11 M10 h => ?_)
        refine s_iast C (ky2_3 hq0) dX2_play_65 h (fun h => ?_)
        refine z_gM h (fun M12 h => ?_)
        refine z_iinc (n := 1) (c9 := (1 : Int32)) (by decide) h (fun x13 hx h => ?_)
        refine i_iinc (lv9 := [(5, _), (0, _), (1, _), (3, _), (4, _)]) C dX2_play_66 4 rfl hx (by decide) rfl ?_
        refine s_goto C 39 (by decide) dX2_play_69 ?_
        exact sg_T.to (hk39 _ _ h hq0 hq1) [1, 2, 3, 4, 0] rfl
  exact key N
def bX2_play_30 (N : Nat)  (k30 : (Nat × Nat × Int32 × Int32) → sg_M → Option (sg_M)) (s : Nat × Nat × Int32 × Int32) (M : sg_M) : Option (sg_M) :=
  if s.2.2.1 ≤ s.2.2.2 then (
  some M) else (
  sg_m (0 : Int32) (fun x14 : Int32 =>
  gX2_play_39 N k30 (s.1, s.2.1, s.2.2.1, s.2.2.2, x14) M))
def gX2_play_30 (N : Nat)  : (Nat × Nat × Int32 × Int32) → sg_M → Option (sg_M) := sg_lp (bX2_play_30 N ) N
set_option maxHeartbeats 4000000 in
set_option maxRecDepth 100000 in
theorem tX2_play_30 {ad : Nat → Nat} {X : sg_X} {N : Nat} {r : sg_M} (C : sg_C Yc ad X cX2_play RX2 6 3) (E : sg_eV Yc ad X cX2_play r)  : ∀ (s : Nat × Nat × Int32 × Int32) (M : sg_M), gX2_play_30 N s M = some r → sg_K Yc s.1 2 → sg_K Yc s.2.1 4 → sg_T Yc ad X 6 30 [(0, .ref (ad (s.1))), (1, .ref (ad (s.2.1))), (3, .int (s.2.2.1)), (4, .int (s.2.2.2))] [] M := by
  have key : ∀ n : Nat, ∀ (s : Nat × Nat × Int32 × Int32) (M : sg_M), sg_lp (bX2_play_30 N) n s M = some r → sg_K Yc s.1 2 → sg_K Yc s.2.1 4 → sg_T Yc ad X 6 30 [(0, .ref (ad (s.1))), (1, .ref (ad (s.2.1))), (3, .int (s.2.2.1)), (4, .int (s.2.2.2))] [] M := by
    intro n
    induction n with
    | zero => intro s M h; cases h
    | succ n ih =>
      intro s M h hq0 hq1
      have h : bX2_play_30 N (sg_lp (bX2_play_30 N) n) s M = some r := h
      generalize sg_lp (bX2_play_30 N) n = k30 at h ih
      have hk30 := ih
      unfold bX2_play_30 at h
      refine i_iload C dX2_play_30 3 rfl ?_
      refine i_iload_n C dX2_play_32 2 rfl ?_
      refine s_icmp_ge C 156 (by decide) dX2_play_33 h (fun _ h => ?_) (fun _ h => ?_)
      · exact s_vret C E dX2_play_156 h
      · refine s_iconst C (0 : Int32) dX2_play_36 (by decide) ?_
        refine z_gi h (fun x14 h => ?_)
        refine i_istore (lv9 := [(5, _), (0, _), (1, _), (3, _), (4, _)]) C dX2_play_37 (by decide) rfl ?_
        exact sg_T.to (tX2_play_39 C E hk30 _ _ h hq0 hq1) [1, 2, 3, 4, 0] rfl
  exact key N
def fX2_play (N : Nat) (a0_ : Nat) (a1_ : Nat) (x2_ : Int32) (x3_ : Int32) (M : sg_M) : Option (sg_M) :=
  sg_m (sg_uI M a0_ 0 (0 : Int32)) (fun M15 : sg_M =>
  sg_m (sg_uJ M15 (Yc.2.2.2 a0_ 1) 1 (0 : Int64)) (fun M16 : sg_M =>
  sg_m (sg_uJ M16 (Yc.2.2.2 a0_ 1) 2 (1 : Int64)) (fun M17 : sg_M =>
  sg_m (sg_uJ M17 a0_ 2 (x2_).toInt64) (fun M18 : sg_M =>
  sg_m (0 : Int32) (fun x19 : Int32 =>
  gX2_play_30 N (a0_, a1_, x3_, x19) M18)))))
set_option maxHeartbeats 4000000 in
set_option maxRecDepth 100000 in
theorem tX2_play {ad : Nat → Nat} {X : sg_X} {N : Nat} {r : sg_M} (C : sg_C Yc ad X cX2_play RX2 6 3) (E : sg_eV Yc ad X cX2_play r) : ∀ (a0_ : Nat) (a1_ : Nat) (x2_ : Int32) (x3_ : Int32) (M : sg_M), sg_K Yc a0_ 2 → sg_K Yc a1_ 4 → fX2_play N a0_ a1_ x2_ x3_ M = some r → sg_T Yc ad X 6 0 [(0, .ref (ad a0_)), (1, .ref (ad a1_)), (2, .int x2_), (3, .int x3_)] [] M := by
  intro a0_ a1_ x2_ x3_ M hq0 hq1 h
  unfold fX2_play at h
  refine i_aload_n C dX2_play_0 0 rfl ?_
  refine s_iconst C (0 : Int32) dX2_play_1 (by decide) ?_
  refine pf2_9 C hq0 dX2_play_2 ?_
  refine z_gM h (fun M15 h => ?_)
  refine i_aload_n C dX2_play_5 0 rfl ?_
  refine gf2_18 C hq0 dX2_play_6 ?_
  refine s_lconst C (0 : Int64) dX2_play_9 (by decide) ?_
  refine pf2_37 C (ky2_1 hq0) dX2_play_10 ?_
  refine z_gM h (fun M16 h => ?_)
  refine i_aload_n C dX2_play_13 0 rfl ?_
  refine gf2_18 C hq0 dX2_play_14 ?_
  refine s_lconst C (1 : Int64) dX2_play_17 (by decide) ?_
  refine pf2_40 C (ky2_1 hq0) dX2_play_18 ?_
  refine z_gM h (fun M17 h => ?_)
  refine i_aload_n C dX2_play_21 0 rfl ?_
  refine i_iload_n C dX2_play_22 2 rfl ?_
  refine s_i2l C dX2_play_23 ?_
  refine pf2_22 C hq0 dX2_play_24 ?_
  refine z_gM h (fun M18 h => ?_)
  refine s_iconst C (0 : Int32) dX2_play_27 (by decide) ?_
  refine z_gi h (fun x19 h => ?_)
  refine i_istore (lv9 := [(4, _), (0, _), (1, _), (2, _), (3, _)]) C dX2_play_28 (by decide) rfl ?_
  exact sg_T.to (tX2_play_30 C E _ _ h hq0 hq1) [1, 2, 4, 0] rfl
theorem ctX2_play {ad : Nat → Nat} {V : sg_V} {N : Nat} (hi : sg_inj Yc ad) {a0_ : Nat} {a1_ : Nat} {x2_ : Int32} {x3_ : Int32} {M : sg_M} (hq0 : sg_K Yc a0_ 2) (hq1 : sg_K Yc a1_ 4) : ∀ res, fX2_play N a0_ a1_ x2_ x3_ M = some res → sg_cV Yc ad V yX2_play cX2_play 6 3 [.ref (ad a0_), .ref (ad a1_), .int x2_, .int x3_] M res := fun res h => sg_bodyV (by decide) hi (Nat.le_of_ble_eq_true rfl) (fun X hX C E => by subst hX; exact tX2_play C E _ _ _ _  _ hq0 hq1 h)
def bX2_greatestDraw_24 (N : Nat)  (k24 : (Nat × Nat × Int32 × Int32 × Int32 × Int32) → sg_M → Option (Int32 × sg_M)) (s : Nat × Nat × Int32 × Int32 × Int32 × Int32) (M : sg_M) : Option (Int32 × sg_M) :=
  if (8 : Int32) ≤ s.2.2.2.2.2 then (
  some (s.2.2.2.1, M)) else (
  if s.2.2.2.2.1 ≤ s.2.2.2.1 then (
  some (s.2.2.2.1, M)) else (
  if (2 : Int32) = 0 then none else
  sg_m (((s.2.2.2.1 + s.2.2.2.2.1) + (1 : Int32)) / (2 : Int32)) (fun x1 : Int32 =>
  if sg_ib s.2.2.1 (Yc.2.2.1 (Yc.2.2.2 s.1 3)) = true then
  sg_m (sg_uI M (Yc.2.2.2 s.1 3) (s.2.2.1).toNatClampNeg x1) (fun M2 : sg_M =>
  sg_bv (fX1_settle N (Yc.2.2.2 s.1 4) s.2.1 (Yc.2.2.2 s.2.1 11) (M2.1 s.2.1 7) (Yc.2.2.2 s.1 3) M2) (fun M3 : sg_M =>
  sg_b (fX7_isWithin N (Yc.2.2.2 (Yc.2.2.2 s.1 4) 3) (M3.1 s.2.1 2) M3) (fun (x5 : Int32) (M4 : sg_M) =>
  if x5 = 0 then (
  sg_m (x1 - (1 : Int32)) (fun x6 : Int32 =>
  sg_m (s.2.2.2.2.2 + (1 : Int32)) (fun x7 : Int32 =>
  k24 (s.1, s.2.1, s.2.2.1, s.2.2.2.1, x6, x7) M4))) else (
  sg_m x1 (fun x8 : Int32 =>
  sg_m (s.2.2.2.2.2 + (1 : Int32)) (fun x9 : Int32 =>
  k24 (s.1, s.2.1, s.2.2.1, x8, s.2.2.2.2.1, x9) M4))))))
  else none)))
def gX2_greatestDraw_24 (N : Nat)  : (Nat × Nat × Int32 × Int32 × Int32 × Int32) → sg_M → Option (Int32 × sg_M) := sg_lp (bX2_greatestDraw_24 N ) N
set_option maxHeartbeats 4000000 in
set_option maxRecDepth 100000 in
theorem tX2_greatestDraw_24 {ad : Nat → Nat} {X : sg_X} {N : Nat} {r : Int32 × sg_M} (C : sg_C Yc ad X cX2_greatestDraw RX2 7 3) (E : sg_eI Yc ad X cX2_greatestDraw .int r)  : ∀ (s : Nat × Nat × Int32 × Int32 × Int32 × Int32) (M : sg_M), gX2_greatestDraw_24 N s M = some r → sg_K Yc s.1 2 → sg_K Yc s.2.1 4 → sg_T Yc ad X 7 24 [(0, .ref (ad (s.1))), (1, .ref (ad (s.2.1))), (2, .int (s.2.2.1)), (3, .int (s.2.2.2.1)), (4, .int (s.2.2.2.2.1)), (5, .int (s.2.2.2.2.2))] [] M := by
  have key : ∀ n : Nat, ∀ (s : Nat × Nat × Int32 × Int32 × Int32 × Int32) (M : sg_M), sg_lp (bX2_greatestDraw_24 N) n s M = some r → sg_K Yc s.1 2 → sg_K Yc s.2.1 4 → sg_T Yc ad X 7 24 [(0, .ref (ad (s.1))), (1, .ref (ad (s.2.1))), (2, .int (s.2.2.1)), (3, .int (s.2.2.2.1)), (4, .int (s.2.2.2.2.1)), (5, .int (s.2.2.2.2.2))] [] M := by
    intro n
    induction n with
    | zero => intro s M h; cases h
    | succ n ih =>
      intro s M h hq0 hq1
      have h : bX2_greatestDraw_24 N (sg_lp (bX2_greatestDraw_24 N) n) s M = some r := h
      generalize sg_lp (bX2_greatestDraw_24 N) n = k24 at h ih
      have hk24 := ih
      unfold bX2_greatestDraw_24 at h
      refine i_iload C dX2_greatestDraw_24 5 rfl ?_
      refine s_bipush C (8 : Int32) dX2_greatestDraw_26 (by decide) ?_
      refine s_icmp_ge C 110 (by decide) dX2_greatestDraw_28 h (fun _ h => ?_) (fun _ h => ?_)
      · refine i_iload_n C dX2_greatestDraw_110 3 rfl ?_
        exact s_iret C E dX2_greatestDraw_111 h
      · refine i_iload_n C dX2_greatestDraw_31 3 rfl ?_
        refine i_iload C dX2_greatestDraw_32 4 rfl ?_
        refine s_icmp_ge C 110 (by decide) dX2_greatestDraw_34 h (fun _ h => ?_) (fun _ h => ?_)
        · refine i_iload_n C dX2_greatestDraw_110 3 rfl ?_
          exact s_iret C E dX2_greatestDraw_111 h
        · refine i_iload_n C dX2_greatestDraw_37 3 rfl ?_
          refine i_iload C dX2_greatestDraw_38 4 rfl ?_
          refine s_iadd C dX2_greatestDraw_40 ?_
          refine s_iconst C (1 : Int32) dX2_greatestDraw_41 (by decide) ?_
          refine s_iadd C dX2_greatestDraw_42 ?_
          refine s_iconst C (2 : Int32) dX2_greatestDraw_43 (by decide) ?_
          refine s_idiv C dX2_greatestDraw_44 h (fun h => ?_)
          refine z_gi h (fun x1 h => ?_)
          refine i_istore (lv9 := [(6, _), (0, _), (1, _), (2, _), (3, _), (4, _), (5, _)]) C dX2_greatestDraw_45 (by decide) rfl ?_
          refine i_aload_n C dX2_greatestDraw_47 1 rfl ?_
          refine gf2_26 C hq0 dX2_greatestDraw_48 ?_
          refine i_iload_n C dX2_greatestDraw_51 3 rfl ?_
          refine i_iload C dX2_greatestDraw_52 0 rfl ?_
          refine s_iast C (ky2_3 hq0) dX2_greatestDraw_54 h (fun h => ?_)
          refine z_gM h (fun M2 h => ?_)
          refine i_aload_n C dX2_greatestDraw_55 1 rfl ?_
          refine gf2_33 C hq0 dX2_greatestDraw_56 ?_
          refine i_aload_n C dX2_greatestDraw_59 2 rfl ?_
          refine i_aload_n C dX2_greatestDraw_60 2 rfl ?_
          refine gf2_53 C hq1 dX2_greatestDraw_61 ?_
          refine i_aload_n C dX2_greatestDraw_64 2 rfl ?_
          refine gf2_56 C hq1 dX2_greatestDraw_65 ?_
          refine i_aload_n C dX2_greatestDraw_68 1 rfl ?_
          refine gf2_26 C hq0 dX2_greatestDraw_69 ?_
          refine s_vcV C [_, _, _, _] vmX1_settle lkX2_59 rfl rfl (by decide) (ky2_4 hq0) (by decide) rfl rfl (Nat.le_of_ble_eq_true rfl) dX2_greatestDraw_72 (ctX1_settle C.inj (ky2_4 hq0) hq1 (ky4_11 hq1) (ky2_3 hq0)) h (fun M3 h => ?_)
          refine i_aload_n C dX2_greatestDraw_75 1 rfl ?_
          refine gf2_33 C hq0 dX2_greatestDraw_76 ?_
          refine gf2_63 C (ky2_4 hq0) dX2_greatestDraw_79 ?_
          refine i_aload_n C dX2_greatestDraw_82 2 rfl ?_
          refine gf2_66 C hq1 dX2_greatestDraw_83 ?_
          refine s_vcI C [_] vmX7_isWithin lkX2_69 rfl rfl (by decide) (ky1_3 (ky2_4 hq0)) (by decide) rfl rfl (Nat.le_of_ble_eq_true rfl) dX2_greatestDraw_86 (ctX7_isWithin C.inj (ky1_3 (ky2_4 hq0))) h (fun x5 M4 h => ?_)
          refine s_if_eq C 98 (by decide) dX2_greatestDraw_89 h (fun _ h => ?_) (fun _ h => ?_)
          · refine i_iload C dX2_greatestDraw_98 0 rfl ?_
            refine s_iconst C (1 : Int32) dX2_greatestDraw_100 (by decide) ?_
            refine s_isub C dX2_greatestDraw_101 ?_
            refine z_gi h (fun x6 h => ?_)
            refine i_istore (lv9 := [(4, _), (6, _), (0, _), (1, _), (2, _), (3, _), (5, _)]) C dX2_greatestDraw_102 (by decide) rfl ?_
            refine z_iinc (n := 1) (c9 := (1 : Int32)) (by decide) h (fun x7 hx h => ?_)
            refine i_iinc (lv9 := [(5, _), (4, _), (6, _), (0, _), (1, _), (2, _), (3, _)]) C dX2_greatestDraw_104 6 rfl hx (by decide) rfl ?_
            refine s_goto C 24 (by decide) dX2_greatestDraw_107 ?_
            exact sg_T.to (hk24 _ _ h hq0 hq1) [3, 4, 5, 6, 1, 0] rfl
          · refine i_iload C dX2_greatestDraw_92 0 rfl ?_
            refine z_gi h (fun x8 h => ?_)
            refine i_istore_n (lv9 := [(3, _), (6, _), (0, _), (1, _), (2, _), (4, _), (5, _)]) C 3 dX2_greatestDraw_94 rfl (by decide) rfl ?_
            refine s_goto C 104 (by decide) dX2_greatestDraw_95 ?_
            refine z_iinc (n := 1) (c9 := (1 : Int32)) (by decide) h (fun x9 hx h => ?_)
            refine i_iinc (lv9 := [(5, _), (3, _), (6, _), (0, _), (1, _), (2, _), (4, _)]) C dX2_greatestDraw_104 6 rfl hx (by decide) rfl ?_
            refine s_goto C 24 (by decide) dX2_greatestDraw_107 ?_
            exact sg_T.to (hk24 _ _ h hq0 hq1) [3, 4, 5, 1, 6, 0] rfl
  exact key N
def fX2_greatestDraw (N : Nat) (a0_ : Nat) (a1_ : Nat) (x2_ : Int32) (M : sg_M) : Option (Int32 × sg_M) :=
  if sg_cb (0 : Int32) (0 : Int32) (9 : Int32) (Yc.2.2.1 (Yc.2.2.2 a1_ 12)) (Yc.2.2.1 (Yc.2.2.2 a0_ 3)) = true then
  sg_m (sg_cpy M (Yc.2.2.2 a1_ 12) (Yc.2.2.2 a0_ 3) ((0 : Int32)).toNatClampNeg ((0 : Int32)).toNatClampNeg ((9 : Int32)).toNatClampNeg) (fun M10 : sg_M =>
  sg_m (-1 : Int32) (fun x11 : Int32 =>
  sg_m (99 : Int32) (fun x12 : Int32 =>
  sg_m (0 : Int32) (fun x13 : Int32 =>
  gX2_greatestDraw_24 N (a0_, a1_, x2_, x11, x12, x13) M10))))
  else none
set_option maxHeartbeats 4000000 in
set_option maxRecDepth 100000 in
theorem tX2_greatestDraw {ad : Nat → Nat} {X : sg_X} {N : Nat} {r : Int32 × sg_M} (C : sg_C Yc ad X cX2_greatestDraw RX2 7 3) (E : sg_eI Yc ad X cX2_greatestDraw .int r) : ∀ (a0_ : Nat) (a1_ : Nat) (x2_ : Int32) (M : sg_M), sg_K Yc a0_ 2 → sg_K Yc a1_ 4 → fX2_greatestDraw N a0_ a1_ x2_ M = some r → sg_T Yc ad X 7 0 [(0, .ref (ad a0_)), (1, .ref (ad a1_)), (2, .int x2_)] [] M := by
  intro a0_ a1_ x2_ M hq0 hq1 h
  unfold fX2_greatestDraw at h
  refine i_aload_n C dX2_greatestDraw_0 1 rfl ?_
  refine gf2_48 C hq1 dX2_greatestDraw_1 ?_
  refine s_iconst C (0 : Int32) dX2_greatestDraw_4 (by decide) ?_
  refine i_aload_n C dX2_greatestDraw_5 0 rfl ?_
  refine gf2_26 C hq0 dX2_greatestDraw_6 ?_
  refine s_iconst C (0 : Int32) dX2_greatestDraw_9 (by decide) ?_
  refine s_bipush C (9 : Int32) dX2_greatestDraw_10 (by decide) ?_
  refine s_copy C (by decide) (ky4_12 hq1) (ky2_3 hq0) copy_X2_89 copy_1 copy_2 copy_3 (Nat.le_of_ble_eq_true rfl) dX2_greatestDraw_12 h (fun h => ?_)
  refine z_gM h (fun M10 h => ?_)
  refine s_iconst C (-1 : Int32) dX2_greatestDraw_15 (by decide) ?_
  refine z_gi h (fun x11 h => ?_)
  refine i_istore_n (lv9 := [(3, _), (0, _), (1, _), (2, _)]) C 3 dX2_greatestDraw_16 rfl (by decide) rfl ?_
  refine s_bipush C (99 : Int32) dX2_greatestDraw_17 (by decide) ?_
  refine z_gi h (fun x12 h => ?_)
  refine i_istore (lv9 := [(4, _), (3, _), (0, _), (1, _), (2, _)]) C dX2_greatestDraw_19 (by decide) rfl ?_
  refine s_iconst C (0 : Int32) dX2_greatestDraw_21 (by decide) ?_
  refine z_gi h (fun x13 h => ?_)
  refine i_istore (lv9 := [(5, _), (4, _), (3, _), (0, _), (1, _), (2, _)]) C dX2_greatestDraw_22 (by decide) rfl ?_
  exact sg_T.to (tX2_greatestDraw_24 C E _ _ h hq0 hq1) [3, 4, 5, 2, 1, 0] rfl
theorem ctX2_greatestDraw {ad : Nat → Nat} {V : sg_V} {N : Nat} (hi : sg_inj Yc ad) {a0_ : Nat} {a1_ : Nat} {x2_ : Int32} {M : sg_M} (hq0 : sg_K Yc a0_ 2) (hq1 : sg_K Yc a1_ 4) : ∀ res, fX2_greatestDraw N a0_ a1_ x2_ M = some res → sg_cI Yc ad V yX2_greatestDraw cX2_greatestDraw 7 .int 3 [.ref (ad a0_), .ref (ad a1_), .int x2_] M res := fun res h => sg_bodyI (by decide) hi (Nat.le_of_ble_eq_true rfl) (fun X hX C E => by subst hX; exact tX2_greatestDraw C E _ _ _  _ hq0 hq1 h)
def fX3_forgetAll (N : Nat) (a0_ : Nat) (M : sg_M) : Option (sg_M) :=
  sg_m (sg_uI M a0_ 4 (0 : Int32)) (fun M1 : sg_M =>
  sg_m (sg_uI M1 a0_ 5 (0 : Int32)) (fun M2 : sg_M =>
  some M2))
set_option maxHeartbeats 4000000 in
set_option maxRecDepth 100000 in
theorem tX3_forgetAll {ad : Nat → Nat} {X : sg_X} {N : Nat} {r : sg_M} (C : sg_C Yc ad X cX3_forgetAll RX3 1 0) (E : sg_eV Yc ad X cX3_forgetAll r) : ∀ (a0_ : Nat) (M : sg_M), sg_K Yc a0_ 3 → fX3_forgetAll N a0_ M = some r → sg_T Yc ad X 1 0 [(0, .ref (ad a0_))] [] M := by
  intro a0_ M hq0 h
  unfold fX3_forgetAll at h
  refine i_aload_n C dX3_forgetAll_0 0 rfl ?_
  refine s_iconst C (0 : Int32) dX3_forgetAll_1 (by decide) ?_
  refine pf3_25 C hq0 (by decide) dX3_forgetAll_2 ?_
  refine z_gM h (fun M1 h => ?_)
  refine i_aload_n C dX3_forgetAll_5 0 rfl ?_
  refine s_iconst C (0 : Int32) dX3_forgetAll_6 (by decide) ?_
  refine pf3_29 C hq0 (by decide) dX3_forgetAll_7 ?_
  refine z_gM h (fun M2 h => ?_)
  exact s_vret C E dX3_forgetAll_10 h
theorem ctX3_forgetAll {ad : Nat → Nat} {V : sg_V} {N : Nat} (hi : sg_inj Yc ad) {a0_ : Nat} {M : sg_M} (hq0 : sg_K Yc a0_ 3) : ∀ res, fX3_forgetAll N a0_ M = some res → sg_cV Yc ad V yX3_forgetAll cX3_forgetAll 1 0 [.ref (ad a0_)] M res := fun res h => sg_bodyV (by decide) hi (Nat.le_of_ble_eq_true rfl) (fun X hX C E => by subst hX; exact tX3_forgetAll C E _  _ hq0 h)
def fX3_settleWithout (N : Nat) (a0_ : Nat) (a1_ : Nat) (x2_ : Int32) (x3_ : Int32) (M : sg_M) : Option (sg_M) :=
  if sg_cb (0 : Int32) (0 : Int32) (12 : Int32) (Yc.2.2.1 (Yc.2.2.2 a1_ 11)) (Yc.2.2.1 (Yc.2.2.2 a0_ 6)) = true then
  sg_m (sg_cpy M (Yc.2.2.2 a1_ 11) (Yc.2.2.2 a0_ 6) ((0 : Int32)).toNatClampNeg ((0 : Int32)).toNatClampNeg ((12 : Int32)).toNatClampNeg) (fun M1 : sg_M =>
  if sg_ib x2_ (Yc.2.2.1 (Yc.2.2.2 a0_ 6)) = true then
  sg_m (sg_uI M1 (Yc.2.2.2 a0_ 6) (x2_).toNatClampNeg (0 : Int32)) (fun M2 : sg_M =>
  if sg_ib x3_ (Yc.2.2.1 (Yc.2.2.2 a0_ 6)) = true then
  sg_m (sg_uI M2 (Yc.2.2.2 a0_ 6) (x3_).toNatClampNeg (0 : Int32)) (fun M3 : sg_M =>
  sg_bv (fX1_settle N (Yc.2.2.2 a0_ 8) a1_ (Yc.2.2.2 a0_ 6) (M3.1 a1_ 7) (Yc.2.2.2 a1_ 12) M3) (fun M4 : sg_M =>
  some M4))
  else none)
  else none)
  else none
set_option maxHeartbeats 4000000 in
set_option maxRecDepth 100000 in
theorem tX3_settleWithout {ad : Nat → Nat} {X : sg_X} {N : Nat} {r : sg_M} (C : sg_C Yc ad X cX3_settleWithout RX3 4 3) (E : sg_eV Yc ad X cX3_settleWithout r) : ∀ (a0_ : Nat) (a1_ : Nat) (x2_ : Int32) (x3_ : Int32) (M : sg_M), sg_K Yc a0_ 3 → sg_K Yc a1_ 4 → fX3_settleWithout N a0_ a1_ x2_ x3_ M = some r → sg_T Yc ad X 4 0 [(0, .ref (ad a0_)), (1, .ref (ad a1_)), (2, .int x2_), (3, .int x3_)] [] M := by
  intro a0_ a1_ x2_ x3_ M hq0 hq1 h
  unfold fX3_settleWithout at h
  refine i_aload_n C dX3_settleWithout_0 1 rfl ?_
  refine gf3_49 C hq1 dX3_settleWithout_1 ?_
  refine s_iconst C (0 : Int32) dX3_settleWithout_4 (by decide) ?_
  refine i_aload_n C dX3_settleWithout_5 0 rfl ?_
  refine gf3_32 C hq0 dX3_settleWithout_6 ?_
  refine s_iconst C (0 : Int32) dX3_settleWithout_9 (by decide) ?_
  refine s_bipush C (12 : Int32) dX3_settleWithout_10 (by decide) ?_
  refine s_copy C (by decide) (ky4_11 hq1) (ky3_6 hq0) copy_X3_52 copy_1 copy_2 copy_3 (Nat.le_of_ble_eq_true rfl) dX3_settleWithout_12 h (fun h => ?_)
  refine z_gM h (fun M1 h => ?_)
  refine i_aload_n C dX3_settleWithout_15 0 rfl ?_
  refine gf3_32 C hq0 dX3_settleWithout_16 ?_
  refine i_iload_n C dX3_settleWithout_19 2 rfl ?_
  refine s_iconst C (0 : Int32) dX3_settleWithout_20 (by decide) ?_
  refine s_iast C (ky3_6 hq0) dX3_settleWithout_21 h (fun h => ?_)
  refine z_gM h (fun M2 h => ?_)
  refine i_aload_n C dX3_settleWithout_22 0 rfl ?_
  refine gf3_32 C hq0 dX3_settleWithout_23 ?_
  refine i_iload_n C dX3_settleWithout_26 3 rfl ?_
  refine s_iconst C (0 : Int32) dX3_settleWithout_27 (by decide) ?_
  refine s_iast C (ky3_6 hq0) dX3_settleWithout_28 h (fun h => ?_)
  refine z_gM h (fun M3 h => ?_)
  refine i_aload_n C dX3_settleWithout_29 0 rfl ?_
  refine gf3_45 C hq0 dX3_settleWithout_30 ?_
  refine i_aload_n C dX3_settleWithout_33 1 rfl ?_
  refine i_aload_n C dX3_settleWithout_34 0 rfl ?_
  refine gf3_32 C hq0 dX3_settleWithout_35 ?_
  refine i_aload_n C dX3_settleWithout_38 1 rfl ?_
  refine gf3_58 C hq1 dX3_settleWithout_39 ?_
  refine i_aload_n C dX3_settleWithout_42 1 rfl ?_
  refine gf3_61 C hq1 dX3_settleWithout_43 ?_
  refine s_vcV C [_, _, _, _] vmX1_settle lkX3_64 rfl rfl (by decide) (ky3_8 hq0) (by decide) rfl rfl (Nat.le_of_ble_eq_true rfl) dX3_settleWithout_46 (ctX1_settle C.inj (ky3_8 hq0) hq1 (ky3_6 hq0) (ky4_12 hq1)) h (fun M4 h => ?_)
  exact s_vret C E dX3_settleWithout_49 h
theorem ctX3_settleWithout {ad : Nat → Nat} {V : sg_V} {N : Nat} (hi : sg_inj Yc ad) {a0_ : Nat} {a1_ : Nat} {x2_ : Int32} {x3_ : Int32} {M : sg_M} (hq0 : sg_K Yc a0_ 3) (hq1 : sg_K Yc a1_ 4) : ∀ res, fX3_settleWithout N a0_ a1_ x2_ x3_ M = some res → sg_cV Yc ad V yX3_settleWithout cX3_settleWithout 4 3 [.ref (ad a0_), .ref (ad a1_), .int x2_, .int x3_] M res := fun res h => sg_bodyV (by decide) hi (Nat.le_of_ble_eq_true rfl) (fun X hX C E => by subst hX; exact tX3_settleWithout C E _ _ _ _  _ hq0 hq1 h)
def gX3_lookSingles_93 (N : Nat) (k25 : (Nat × Nat × Int32) → sg_M → Option (sg_M)) (a0_ : Nat) (a1_ : Nat) (x2_ : Int32) (M : sg_M) : Option (sg_M) :=
  sg_b (fX7_isWithin N (Yc.2.2.2 (Yc.2.2.2 a0_ 8) 3) (M.1 a1_ 2) M) (fun (x2 : Int32) (M1 : sg_M) =>
  if x2 = 0 then (
  sg_m (x2_ + (1 : Int32)) (fun x3 : Int32 =>
  k25 (a0_, a1_, x3) M1)) else (
  sg_m (sg_uI M1 a0_ 1 ((M1.1 a0_ 1) ||| ((1 : Int32) <<< (x2_ &&& 31)))) (fun M4 : sg_M =>
  sg_m (x2_ + (1 : Int32)) (fun x5 : Int32 =>
  k25 (a0_, a1_, x5) M4))))
set_option maxHeartbeats 4000000 in
set_option maxRecDepth 100000 in
theorem tX3_lookSingles_93 {ad : Nat → Nat} {X : sg_X} {N : Nat} {r : sg_M} (C : sg_C Yc ad X cX3_lookSingles RX3 3 4) (E : sg_eV Yc ad X cX3_lookSingles r) {k25 : (Nat × Nat × Int32) → sg_M → Option (sg_M)} (hk25 : ∀ (s : Nat × Nat × Int32) (M : sg_M), k25 s M = some r → sg_K Yc s.1 3 → sg_K Yc s.2.1 4 → sg_T Yc ad X 3 25 [(0, .ref (ad (s.1))), (1, .ref (ad (s.2.1))), (2, .int (s.2.2))] [] M) : ∀ (a0_ : Nat) (a1_ : Nat) (x2_ : Int32) (M : sg_M), gX3_lookSingles_93 N k25 a0_ a1_ x2_ M = some r → sg_K Yc a0_ 3 → sg_K Yc a1_ 4 → sg_T Yc ad X 3 93 [(0, .ref (ad a0_)), (1, .ref (ad a1_)), (2, .int x2_)] [] M := by
  intro a0_ a1_ x2_ M h hq0 hq1
  unfold gX3_lookSingles_93 at h
  refine i_aload_n C dX3_lookSingles_93 0 rfl ?_
  refine gf3_45 C hq0 dX3_lookSingles_94 ?_
  refine gf3_75 C (ky3_8 hq0) dX3_lookSingles_97 ?_
  refine i_aload_n C dX3_lookSingles_100 1 rfl ?_
  refine gf3_86 C hq1 dX3_lookSingles_101 ?_
  refine s_vcI C [_] vmX7_isWithin lkX3_89 rfl rfl (by decide) (ky1_3 (ky3_8 hq0)) (by decide) rfl rfl (Nat.le_of_ble_eq_true rfl) dX3_lookSingles_104 (ctX7_isWithin C.inj (ky1_3 (ky3_8 hq0))) h (fun x2 M1 h => ?_)
  refine s_if_eq C 122 (by decide) dX3_lookSingles_107 h (fun _ h => ?_) (fun _ h => ?_)
  · refine z_iinc (n := 1) (c9 := (1 : Int32)) (by decide) h (fun x3 hx h => ?_)
    refine i_iinc (lv9 := [(2, _), (0, _), (1, _)]) C dX3_lookSingles_122 2 rfl hx (by decide) rfl ?_
    refine s_goto C 25 (by decide) dX3_lookSingles_125 ?_
    exact sg_T.to (hk25 _ _ h hq0 hq1) [1, 2, 0] rfl
  · refine i_aload_n C dX3_lookSingles_110 0 rfl ?_
    refine s_dup C dX3_lookSingles_111 rfl ?_
    refine gf3_15 C hq0 dX3_lookSingles_112 ?_
    refine s_iconst C (1 : Int32) dX3_lookSingles_115 (by decide) ?_
    refine i_iload_n C dX3_lookSingles_116 2 rfl ?_
    refine s_ishl C dX3_lookSingles_117 ?_
    refine s_ior C dX3_lookSingles_118 ?_
    refine pf3_15 C hq0 dX3_lookSingles_119 ?_
    refine z_gM h (fun M4 h => ?_)
    refine z_iinc (n := 1) (c9 := (1 : Int32)) (by decide) h (fun x5 hx h => ?_)
    refine i_iinc (lv9 := [(2, _), (0, _), (1, _)]) C dX3_lookSingles_122 2 rfl hx (by decide) rfl ?_
    refine s_goto C 25 (by decide) dX3_lookSingles_125 ?_
    exact sg_T.to (hk25 _ _ h hq0 hq1) [1, 2, 0] rfl
def gX3_lookSingles_74 (N : Nat) (k25 : (Nat × Nat × Int32) → sg_M → Option (sg_M)) (a0_ : Nat) (a1_ : Nat) (x2_ : Int32) (M : sg_M) : Option (sg_M) :=
  sg_m (sg_uI M a0_ 0 x2_) (fun M6 : sg_M =>
  sg_bv (fX7_copyFrom N (Yc.2.2.2 a0_ 7) (Yc.2.2.2 (Yc.2.2.2 a0_ 8) 3) M6) (fun M7 : sg_M =>
  gX3_lookSingles_93 N k25 a0_ a1_ x2_ M7))
set_option maxHeartbeats 4000000 in
set_option maxRecDepth 100000 in
theorem tX3_lookSingles_74 {ad : Nat → Nat} {X : sg_X} {N : Nat} {r : sg_M} (C : sg_C Yc ad X cX3_lookSingles RX3 3 4) (E : sg_eV Yc ad X cX3_lookSingles r) {k25 : (Nat × Nat × Int32) → sg_M → Option (sg_M)} (hk25 : ∀ (s : Nat × Nat × Int32) (M : sg_M), k25 s M = some r → sg_K Yc s.1 3 → sg_K Yc s.2.1 4 → sg_T Yc ad X 3 25 [(0, .ref (ad (s.1))), (1, .ref (ad (s.2.1))), (2, .int (s.2.2))] [] M) : ∀ (a0_ : Nat) (a1_ : Nat) (x2_ : Int32) (M : sg_M), gX3_lookSingles_74 N k25 a0_ a1_ x2_ M = some r → sg_K Yc a0_ 3 → sg_K Yc a1_ 4 → sg_T Yc ad X 3 74 [(0, .ref (ad a0_)), (1, .ref (ad a1_)), (2, .int x2_)] [] M := by
  intro a0_ a1_ x2_ M h hq0 hq1
  unfold gX3_lookSingles_74 at h
  refine i_aload_n C dX3_lookSingles_74 0 rfl ?_
  refine i_iload_n C dX3_lookSingles_75 2 rfl ?_
  refine pf3_9 C hq0 dX3_lookSingles_76 ?_
  refine z_gM h (fun M6 h => ?_)
  refine i_aload_n C dX3_lookSingles_79 0 rfl ?_
  refine gf3_38 C hq0 dX3_lookSingles_80 ?_
  refine i_aload_n C dX3_lookSingles_83 0 rfl ?_
  refine gf3_45 C hq0 dX3_lookSingles_84 ?_
  refine gf3_75 C (ky3_8 hq0) dX3_lookSingles_87 ?_
  refine s_vcV C [_] vmX7_copyFrom lkX3_82 rfl rfl (by decide) (ky3_7 hq0) (by decide) rfl rfl (Nat.le_of_ble_eq_true rfl) dX3_lookSingles_90 (ctX7_copyFrom C.inj (ky3_7 hq0) (ky1_3 (ky3_8 hq0))) h (fun M7 h => ?_)
  exact sg_T.to (tX3_lookSingles_93 C E hk25 _ _ _ _ h hq0 hq1) [0, 1, 2] rfl
def bX3_lookSingles_25 (N : Nat)  (k25 : (Nat × Nat × Int32) → sg_M → Option (sg_M)) (s : Nat × Nat × Int32) (M : sg_M) : Option (sg_M) :=
  if (M.1 s.2.1 6) ≤ s.2.2 then (
  some M) else (
  if sg_ib s.2.2 (Yc.2.2.1 (Yc.2.2.2 s.2.1 11)) = true then
  if (M.1 (Yc.2.2.2 s.2.1 11) (s.2.2).toNatClampNeg) ≤ 0 then (
  sg_m (s.2.2 + (1 : Int32)) (fun x8 : Int32 =>
  k25 (s.1, s.2.1, x8) M)) else (
  sg_bv (fX3_settleWithout N s.1 s.2.1 s.2.2 s.2.2 M) (fun M9 : sg_M =>
  if (M9.1 s.1 0) = (-1 : Int32) then (
  gX3_lookSingles_74 N k25 s.1 s.2.1 s.2.2 M9) else (
  sg_b (fX7_isBetterThan N (Yc.2.2.2 s.1 7) (Yc.2.2.2 (Yc.2.2.2 s.1 8) 3) M9) (fun (x11 : Int32) (M10 : sg_M) =>
  if x11 = 0 then (
  gX3_lookSingles_93 N k25 s.1 s.2.1 s.2.2 M10) else (
  gX3_lookSingles_74 N k25 s.1 s.2.1 s.2.2 M10)))))
  else none)
def gX3_lookSingles_25 (N : Nat)  : (Nat × Nat × Int32) → sg_M → Option (sg_M) := sg_lp (bX3_lookSingles_25 N ) N
set_option maxHeartbeats 4000000 in
set_option maxRecDepth 100000 in
theorem tX3_lookSingles_25 {ad : Nat → Nat} {X : sg_X} {N : Nat} {r : sg_M} (C : sg_C Yc ad X cX3_lookSingles RX3 3 4) (E : sg_eV Yc ad X cX3_lookSingles r)  : ∀ (s : Nat × Nat × Int32) (M : sg_M), gX3_lookSingles_25 N s M = some r → sg_K Yc s.1 3 → sg_K Yc s.2.1 4 → sg_T Yc ad X 3 25 [(0, .ref (ad (s.1))), (1, .ref (ad (s.2.1))), (2, .int (s.2.2))] [] M := by
  have key : ∀ n : Nat, ∀ (s : Nat × Nat × Int32) (M : sg_M), sg_lp (bX3_lookSingles_25 N) n s M = some r → sg_K Yc s.1 3 → sg_K Yc s.2.1 4 → sg_T Yc ad X 3 25 [(0, .ref (ad (s.1))), (1, .ref (ad (s.2.1))), (2, .int (s.2.2))] [] M := by
    intro n
    induction n with
    | zero => intro s M h; cases h
    | succ n ih =>
      intro s M h hq0 hq1
      have h : bX3_lookSingles_25 N (sg_lp (bX3_lookSingles_25 N) n) s M = some r := h
      generalize sg_lp (bX3_lookSingles_25 N) n = k25 at h ih
      have hk25 := ih
      unfold bX3_lookSingles_25 at h
      refine i_iload_n C dX3_lookSingles_25 2 rfl ?_
      refine i_aload_n C dX3_lookSingles_26 1 rfl ?_
      refine gf3_68 C hq1 dX3_lookSingles_27 ?_
      refine s_icmp_ge C 128 (by decide) dX3_lookSingles_30 h (fun _ h => ?_) (fun _ h => ?_)
      · exact s_vret C E dX3_lookSingles_128 h
      · refine i_aload_n C dX3_lookSingles_33 1 rfl ?_
        refine gf3_49 C hq1 dX3_lookSingles_34 ?_
        refine i_iload_n C dX3_lookSingles_37 2 rfl ?_
        refine s_iald C (ky4_11 hq1) dX3_lookSingles_38 h (fun h => ?_)
        refine s_if_le C 122 (by decide) dX3_lookSingles_39 h (fun _ h => ?_) (fun _ h => ?_)
        · refine z_iinc (n := 1) (c9 := (1 : Int32)) (by decide) h (fun x8 hx h => ?_)
          refine i_iinc (lv9 := [(2, _), (0, _), (1, _)]) C dX3_lookSingles_122 2 rfl hx (by decide) rfl ?_
          refine s_goto C 25 (by decide) dX3_lookSingles_125 ?_
          exact sg_T.to (hk25 _ _ h hq0 hq1) [1, 2, 0] rfl
        · refine i_aload_n C dX3_lookSingles_42 0 rfl ?_
          refine i_aload_n C dX3_lookSingles_43 1 rfl ?_
          refine i_iload_n C dX3_lookSingles_44 2 rfl ?_
          refine i_iload_n C dX3_lookSingles_45 2 rfl ?_
          refine s_vcV C [_, _, _] vmX3_settleWithout lkX3_71 rfl rfl (by decide) hq0 (by decide) rfl rfl (Nat.le_of_ble_eq_true rfl) dX3_lookSingles_46 (ctX3_settleWithout C.inj hq0 hq1) h (fun M9 h => ?_)
          refine i_aload_n C dX3_lookSingles_49 0 rfl ?_
          refine gf3_9 C hq0 dX3_lookSingles_50 ?_
          refine s_iconst C (-1 : Int32) dX3_lookSingles_53 (by decide) ?_
          refine s_icmp_eq C 74 (by decide) dX3_lookSingles_54 h (fun _ h => ?_) (fun _ h => ?_)
          · exact sg_T.to (tX3_lookSingles_74 C E hk25 _ _ _ _ h hq0 hq1) [0, 1, 2] rfl
          · refine i_aload_n C dX3_lookSingles_57 0 rfl ?_
            refine gf3_38 C hq0 dX3_lookSingles_58 ?_
            refine i_aload_n C dX3_lookSingles_61 0 rfl ?_
            refine gf3_45 C hq0 dX3_lookSingles_62 ?_
            refine gf3_75 C (ky3_8 hq0) dX3_lookSingles_65 ?_
            refine s_vcI C [_] vmX7_isBetterThan lkX3_78 rfl rfl (by decide) (ky3_7 hq0) (by decide) rfl rfl (Nat.le_of_ble_eq_true rfl) dX3_lookSingles_68 (ctX7_isBetterThan C.inj (ky3_7 hq0) (ky1_3 (ky3_8 hq0))) h (fun x11 M10 h => ?_)
            refine s_if_eq C 93 (by decide) dX3_lookSingles_71 h (fun _ h => ?_) (fun _ h => ?_)
            · exact sg_T.to (tX3_lookSingles_93 C E hk25 _ _ _ _ h hq0 hq1) [0, 1, 2] rfl
            · exact sg_T.to (tX3_lookSingles_74 C E hk25 _ _ _ _ h hq0 hq1) [0, 1, 2] rfl
  exact key N
def fX3_lookSingles (N : Nat) (a0_ : Nat) (a1_ : Nat) (M : sg_M) : Option (sg_M) :=
  if (M.1 a0_ 4) = 0 then (
  sg_m (sg_uI M a0_ 4 (1 : Int32)) (fun M12 : sg_M =>
  sg_m (sg_uI M12 a0_ 0 (-1 : Int32)) (fun M13 : sg_M =>
  sg_m (sg_uI M13 a0_ 1 (0 : Int32)) (fun M14 : sg_M =>
  sg_m (0 : Int32) (fun x15 : Int32 =>
  gX3_lookSingles_25 N (a0_, a1_, x15) M14))))) else (
  some M)
set_option maxHeartbeats 4000000 in
set_option maxRecDepth 100000 in
theorem tX3_lookSingles {ad : Nat → Nat} {X : sg_X} {N : Nat} {r : sg_M} (C : sg_C Yc ad X cX3_lookSingles RX3 3 4) (E : sg_eV Yc ad X cX3_lookSingles r) : ∀ (a0_ : Nat) (a1_ : Nat) (M : sg_M), sg_K Yc a0_ 3 → sg_K Yc a1_ 4 → fX3_lookSingles N a0_ a1_ M = some r → sg_T Yc ad X 3 0 [(0, .ref (ad a0_)), (1, .ref (ad a1_))] [] M := by
  intro a0_ a1_ M hq0 hq1 h
  unfold fX3_lookSingles at h
  refine i_aload_n C dX3_lookSingles_0 0 rfl ?_
  refine gf3_25 C hq0 dX3_lookSingles_1 ?_
  refine s_if_eq C 8 (by decide) dX3_lookSingles_4 h (fun _ h => ?_) (fun _ h => ?_)
  · refine i_aload_n C dX3_lookSingles_8 0 rfl ?_
    refine s_iconst C (1 : Int32) dX3_lookSingles_9 (by decide) ?_
    refine pf3_25 C hq0 (by decide) dX3_lookSingles_10 ?_
    refine z_gM h (fun M12 h => ?_)
    refine i_aload_n C dX3_lookSingles_13 0 rfl ?_
    refine s_iconst C (-1 : Int32) dX3_lookSingles_14 (by decide) ?_
    refine pf3_9 C hq0 dX3_lookSingles_15 ?_
    refine z_gM h (fun M13 h => ?_)
    refine i_aload_n C dX3_lookSingles_18 0 rfl ?_
    refine s_iconst C (0 : Int32) dX3_lookSingles_19 (by decide) ?_
    refine pf3_15 C hq0 dX3_lookSingles_20 ?_
    refine z_gM h (fun M14 h => ?_)
    refine s_iconst C (0 : Int32) dX3_lookSingles_23 (by decide) ?_
    refine z_gi h (fun x15 h => ?_)
    refine i_istore_n (lv9 := [(2, _), (0, _), (1, _)]) C 2 dX3_lookSingles_24 rfl (by decide) rfl ?_
    exact sg_T.to (tX3_lookSingles_25 C E _ _ h hq0 hq1) [1, 2, 0] rfl
  · exact s_vret C E dX3_lookSingles_7 h
theorem ctX3_lookSingles {ad : Nat → Nat} {V : sg_V} {N : Nat} (hi : sg_inj Yc ad) {a0_ : Nat} {a1_ : Nat} {M : sg_M} (hq0 : sg_K Yc a0_ 3) (hq1 : sg_K Yc a1_ 4) : ∀ res, fX3_lookSingles N a0_ a1_ M = some res → sg_cV Yc ad V yX3_lookSingles cX3_lookSingles 3 4 [.ref (ad a0_), .ref (ad a1_)] M res := fun res h => sg_bodyV (by decide) hi (Nat.le_of_ble_eq_true rfl) (fun X hX C E => by subst hX; exact tX3_lookSingles C E _ _  _ hq0 hq1 h)
def fX3_tryPair (N : Nat) (a0_ : Nat) (a1_ : Nat) (x2_ : Int32) (x3_ : Int32) (M : sg_M) : Option (sg_M) :=
  sg_bv (fX3_settleWithout N a0_ a1_ x2_ x3_ M) (fun M1 : sg_M =>
  sg_b (fX7_isWithin N (Yc.2.2.2 (Yc.2.2.2 a0_ 8) 3) (M1.1 a1_ 2) M1) (fun (x3 : Int32) (M2 : sg_M) =>
  if x3 = 0 then (
  if (66 : Int32) ≤ (M2.1 a0_ 2) then (
  some M2) else (
  if sg_ib (M2.1 a0_ 2) (Yc.2.2.1 (Yc.2.2.2 a0_ 3)) = true then
  sg_m (sg_uI M2 (Yc.2.2.2 a0_ 3) ((M2.1 a0_ 2)).toNatClampNeg (((100 : Int32) * x2_) + x3_)) (fun M4 : sg_M =>
  sg_m (sg_uI M4 a0_ 2 ((M4.1 a0_ 2) + (1 : Int32))) (fun M5 : sg_M =>
  some M5))
  else none)) else (
  some M2)))
set_option maxHeartbeats 4000000 in
set_option maxRecDepth 100000 in
theorem tX3_tryPair {ad : Nat → Nat} {X : sg_X} {N : Nat} {r : sg_M} (C : sg_C Yc ad X cX3_tryPair RX3 4 4) (E : sg_eV Yc ad X cX3_tryPair r) : ∀ (a0_ : Nat) (a1_ : Nat) (x2_ : Int32) (x3_ : Int32) (M : sg_M), sg_K Yc a0_ 3 → sg_K Yc a1_ 4 → fX3_tryPair N a0_ a1_ x2_ x3_ M = some r → sg_T Yc ad X 4 0 [(0, .ref (ad a0_)), (1, .ref (ad a1_)), (2, .int x2_), (3, .int x3_)] [] M := by
  intro a0_ a1_ x2_ x3_ M hq0 hq1 h
  unfold fX3_tryPair at h
  refine i_aload_n C dX3_tryPair_0 0 rfl ?_
  refine i_aload_n C dX3_tryPair_1 1 rfl ?_
  refine i_iload_n C dX3_tryPair_2 2 rfl ?_
  refine i_iload_n C dX3_tryPair_3 3 rfl ?_
  refine s_vcV C [_, _, _] vmX3_settleWithout lkX3_71 rfl rfl (by decide) hq0 (by decide) rfl rfl (Nat.le_of_ble_eq_true rfl) dX3_tryPair_4 (ctX3_settleWithout C.inj hq0 hq1) h (fun M1 h => ?_)
  refine i_aload_n C dX3_tryPair_7 0 rfl ?_
  refine gf3_45 C hq0 dX3_tryPair_8 ?_
  refine gf3_75 C (ky3_8 hq0) dX3_tryPair_11 ?_
  refine i_aload_n C dX3_tryPair_14 1 rfl ?_
  refine gf3_86 C hq1 dX3_tryPair_15 ?_
  refine s_vcI C [_] vmX7_isWithin lkX3_89 rfl rfl (by decide) (ky1_3 (ky3_8 hq0)) (by decide) rfl rfl (Nat.le_of_ble_eq_true rfl) dX3_tryPair_18 (ctX7_isWithin C.inj (ky1_3 (ky3_8 hq0))) h (fun x3 M2 h => ?_)
  refine s_if_ne C 58 (by decide) dX3_tryPair_21 h (fun _ h => ?_) (fun _ h => ?_)
  · refine i_aload_n C dX3_tryPair_24 0 rfl ?_
    refine gf3_18 C hq0 dX3_tryPair_25 ?_
    refine s_bipush C (66 : Int32) dX3_tryPair_28 (by decide) ?_
    refine s_icmp_ge C 58 (by decide) dX3_tryPair_30 h (fun _ h => ?_) (fun _ h => ?_)
    · exact s_vret C E dX3_tryPair_58 h
    · refine i_aload_n C dX3_tryPair_33 0 rfl ?_
      refine gf3_21 C hq0 dX3_tryPair_34 ?_
      refine i_aload_n C dX3_tryPair_37 0 rfl ?_
      refine gf3_18 C hq0 dX3_tryPair_38 ?_
      refine s_bipush C (100 : Int32) dX3_tryPair_41 (by decide) ?_
      refine i_iload_n C dX3_tryPair_43 2 rfl ?_
      refine s_imul C dX3_tryPair_44 ?_
      refine i_iload_n C dX3_tryPair_45 3 rfl ?_
      refine s_iadd C dX3_tryPair_46 ?_
      refine s_iast C (ky3_3 hq0) dX3_tryPair_47 h (fun h => ?_)
      refine z_gM h (fun M4 h => ?_)
      refine i_aload_n C dX3_tryPair_48 0 rfl ?_
      refine s_dup C dX3_tryPair_49 rfl ?_
      refine gf3_18 C hq0 dX3_tryPair_50 ?_
      refine s_iconst C (1 : Int32) dX3_tryPair_53 (by decide) ?_
      refine s_iadd C dX3_tryPair_54 ?_
      refine pf3_18 C hq0 dX3_tryPair_55 ?_
      refine z_gM h (fun M5 h => ?_)
      exact s_vret C E dX3_tryPair_58 h
  · exact s_vret C E dX3_tryPair_58 h
theorem ctX3_tryPair {ad : Nat → Nat} {V : sg_V} {N : Nat} (hi : sg_inj Yc ad) {a0_ : Nat} {a1_ : Nat} {x2_ : Int32} {x3_ : Int32} {M : sg_M} (hq0 : sg_K Yc a0_ 3) (hq1 : sg_K Yc a1_ 4) : ∀ res, fX3_tryPair N a0_ a1_ x2_ x3_ M = some res → sg_cV Yc ad V yX3_tryPair cX3_tryPair 4 4 [.ref (ad a0_), .ref (ad a1_), .int x2_, .int x3_] M res := fun res h => sg_bodyV (by decide) hi (Nat.le_of_ble_eq_true rfl) (fun X hX C E => by subst hX; exact tX3_tryPair C E _ _ _ _  _ hq0 hq1 h)
def bX3_lookPairs_37 (N : Nat) (k25 : (Nat × Nat × Int32) → sg_M → Option (sg_M)) (k37 : (Nat × Nat × Int32 × Int32) → sg_M → Option (sg_M)) (s : Nat × Nat × Int32 × Int32) (M : sg_M) : Option (sg_M) :=
  if (M.1 s.2.1 6) ≤ s.2.2.2 then (
  sg_m (s.2.2.1 + (1 : Int32)) (fun x1 : Int32 =>
  k25 (s.1, s.2.1, x1) M)) else (
  if (((M.1 s.1 1) >>> (s.2.2.1 &&& 31)) &&& (1 : Int32)) = (1 : Int32) then (
  if (((M.1 s.1 1) >>> (s.2.2.2 &&& 31)) &&& (1 : Int32)) = (1 : Int32) then (
  sg_bv (fX3_tryPair N s.1 s.2.1 s.2.2.1 s.2.2.2 M) (fun M2 : sg_M =>
  sg_m (s.2.2.2 + (1 : Int32)) (fun x3 : Int32 =>
  k37 (s.1, s.2.1, s.2.2.1, x3) M2))) else (
  sg_m (s.2.2.2 + (1 : Int32)) (fun x4 : Int32 =>
  k37 (s.1, s.2.1, s.2.2.1, x4) M))) else (
  sg_m (s.2.2.2 + (1 : Int32)) (fun x5 : Int32 =>
  k37 (s.1, s.2.1, s.2.2.1, x5) M)))
def gX3_lookPairs_37 (N : Nat) (k25 : (Nat × Nat × Int32) → sg_M → Option (sg_M)) : (Nat × Nat × Int32 × Int32) → sg_M → Option (sg_M) := sg_lp (bX3_lookPairs_37 N k25) N
set_option maxHeartbeats 4000000 in
set_option maxRecDepth 100000 in
theorem tX3_lookPairs_37 {ad : Nat → Nat} {X : sg_X} {N : Nat} {r : sg_M} (C : sg_C Yc ad X cX3_lookPairs RX3 4 5) (E : sg_eV Yc ad X cX3_lookPairs r) {k25 : (Nat × Nat × Int32) → sg_M → Option (sg_M)} (hk25 : ∀ (s : Nat × Nat × Int32) (M : sg_M), k25 s M = some r → sg_K Yc s.1 3 → sg_K Yc s.2.1 4 → sg_T Yc ad X 4 25 [(0, .ref (ad (s.1))), (1, .ref (ad (s.2.1))), (2, .int (s.2.2))] [] M) : ∀ (s : Nat × Nat × Int32 × Int32) (M : sg_M), gX3_lookPairs_37 N k25 s M = some r → sg_K Yc s.1 3 → sg_K Yc s.2.1 4 → sg_T Yc ad X 4 37 [(0, .ref (ad (s.1))), (1, .ref (ad (s.2.1))), (2, .int (s.2.2.1)), (3, .int (s.2.2.2))] [] M := by
  have key : ∀ n : Nat, ∀ (s : Nat × Nat × Int32 × Int32) (M : sg_M), sg_lp (bX3_lookPairs_37 N k25) n s M = some r → sg_K Yc s.1 3 → sg_K Yc s.2.1 4 → sg_T Yc ad X 4 37 [(0, .ref (ad (s.1))), (1, .ref (ad (s.2.1))), (2, .int (s.2.2.1)), (3, .int (s.2.2.2))] [] M := by
    intro n
    induction n with
    | zero => intro s M h; cases h
    | succ n ih =>
      intro s M h hq0 hq1
      have h : bX3_lookPairs_37 N k25 (sg_lp (bX3_lookPairs_37 N k25) n) s M = some r := h
      generalize sg_lp (bX3_lookPairs_37 N k25) n = k37 at h ih
      have hk37 := ih
      unfold bX3_lookPairs_37 at h
      refine i_iload_n C dX3_lookPairs_37 3 rfl ?_
      refine i_aload_n C dX3_lookPairs_38 1 rfl ?_
      refine gf3_68 C hq1 dX3_lookPairs_39 ?_
      refine s_icmp_ge C 82 (by decide) dX3_lookPairs_42 h (fun _ h => ?_) (fun _ h => ?_)
      · refine z_iinc (n := 1) (c9 := (1 : Int32)) (by decide) h (fun x1 hx h => ?_)
        refine i_iinc (lv9 := [(2, _), (0, _), (1, _), (3, _)]) C dX3_lookPairs_82 2 rfl hx (by decide) rfl ?_
        refine s_goto C 25 (by decide) dX3_lookPairs_85 ?_
        exact sg_T.to (hk25 _ _ h hq0 hq1) [1, 2, 0] rfl
      · refine i_aload_n C dX3_lookPairs_45 0 rfl ?_
        refine gf3_15 C hq0 dX3_lookPairs_46 ?_
        refine i_iload_n C dX3_lookPairs_49 2 rfl ?_
        refine s_ishr C dX3_lookPairs_50 ?_
        refine s_iconst C (1 : Int32) dX3_lookPairs_51 (by decide) ?_
        refine s_iand C dX3_lookPairs_52 ?_
        refine s_iconst C (1 : Int32) dX3_lookPairs_53 (by decide) ?_
        refine s_icmp_ne C 76 (by decide) dX3_lookPairs_54 h (fun _ h => ?_) (fun _ h => ?_)
        · refine i_aload_n C dX3_lookPairs_57 0 rfl ?_
          refine gf3_15 C hq0 dX3_lookPairs_58 ?_
          refine i_iload_n C dX3_lookPairs_61 3 rfl ?_
          refine s_ishr C dX3_lookPairs_62 ?_
          refine s_iconst C (1 : Int32) dX3_lookPairs_63 (by decide) ?_
          refine s_iand C dX3_lookPairs_64 ?_
          refine s_iconst C (1 : Int32) dX3_lookPairs_65 (by decide) ?_
          refine s_icmp_ne C 76 (by decide) dX3_lookPairs_66 h (fun _ h => ?_) (fun _ h => ?_)
          · refine i_aload_n C dX3_lookPairs_69 0 rfl ?_
            refine i_aload_n C dX3_lookPairs_70 1 rfl ?_
            refine i_iload_n C dX3_lookPairs_71 2 rfl ?_
            refine i_iload_n C dX3_lookPairs_72 3 rfl ?_
            refine s_vcV C [_, _, _] vmX3_tryPair lkX3_97 rfl rfl (by decide) hq0 (by decide) rfl rfl (Nat.le_of_ble_eq_true rfl) dX3_lookPairs_73 (ctX3_tryPair C.inj hq0 hq1) h (fun M2 h => ?_)
            refine z_iinc (n := 1) (c9 := (1 : Int32)) (by decide) h (fun x3 hx h => ?_)
            refine i_iinc (lv9 := [(3, _), (0, _), (1, _), (2, _)]) C dX3_lookPairs_76 3 rfl hx (by decide) rfl ?_
            refine s_goto C 37 (by decide) dX3_lookPairs_79 ?_
            exact sg_T.to (hk37 _ _ h hq0 hq1) [1, 2, 3, 0] rfl
          · refine z_iinc (n := 1) (c9 := (1 : Int32)) (by decide) h (fun x4 hx h => ?_)
            refine i_iinc (lv9 := [(3, _), (0, _), (1, _), (2, _)]) C dX3_lookPairs_76 3 rfl hx (by decide) rfl ?_
            refine s_goto C 37 (by decide) dX3_lookPairs_79 ?_
            exact sg_T.to (hk37 _ _ h hq0 hq1) [1, 2, 3, 0] rfl
        · refine z_iinc (n := 1) (c9 := (1 : Int32)) (by decide) h (fun x5 hx h => ?_)
          refine i_iinc (lv9 := [(3, _), (0, _), (1, _), (2, _)]) C dX3_lookPairs_76 3 rfl hx (by decide) rfl ?_
          refine s_goto C 37 (by decide) dX3_lookPairs_79 ?_
          exact sg_T.to (hk37 _ _ h hq0 hq1) [1, 2, 3, 0] rfl
  exact key N
def bX3_lookPairs_25 (N : Nat)  (k25 : (Nat × Nat × Int32) → sg_M → Option (sg_M)) (s : Nat × Nat × Int32) (M : sg_M) : Option (sg_M) :=
  if (M.1 s.2.1 6) ≤ s.2.2 then (
  some M) else (
  sg_m (s.2.2 + (1 : Int32)) (fun x6 : Int32 =>
  gX3_lookPairs_37 N k25 (s.1, s.2.1, s.2.2, x6) M))
def gX3_lookPairs_25 (N : Nat)  : (Nat × Nat × Int32) → sg_M → Option (sg_M) := sg_lp (bX3_lookPairs_25 N ) N
set_option maxHeartbeats 4000000 in
set_option maxRecDepth 100000 in
theorem tX3_lookPairs_25 {ad : Nat → Nat} {X : sg_X} {N : Nat} {r : sg_M} (C : sg_C Yc ad X cX3_lookPairs RX3 4 5) (E : sg_eV Yc ad X cX3_lookPairs r)  : ∀ (s : Nat × Nat × Int32) (M : sg_M), gX3_lookPairs_25 N s M = some r → sg_K Yc s.1 3 → sg_K Yc s.2.1 4 → sg_T Yc ad X 4 25 [(0, .ref (ad (s.1))), (1, .ref (ad (s.2.1))), (2, .int (s.2.2))] [] M := by
  have key : ∀ n : Nat, ∀ (s : Nat × Nat × Int32) (M : sg_M), sg_lp (bX3_lookPairs_25 N) n s M = some r → sg_K Yc s.1 3 → sg_K Yc s.2.1 4 → sg_T Yc ad X 4 25 [(0, .ref (ad (s.1))), (1, .ref (ad (s.2.1))), (2, .int (s.2.2))] [] M := by
    intro n
    induction n with
    | zero => intro s M h; cases h
    | succ n ih =>
      intro s M h hq0 hq1
      have h : bX3_lookPairs_25 N (sg_lp (bX3_lookPairs_25 N) n) s M = some r := h
      generalize sg_lp (bX3_lookPairs_25 N) n = k25 at h ih
      have hk25 := ih
      unfold bX3_lookPairs_25 at h
      refine i_iload_n C dX3_lookPairs_25 2 rfl ?_
      refine i_aload_n C dX3_lookPairs_26 1 rfl ?_
      refine gf3_68 C hq1 dX3_lookPairs_27 ?_
      refine s_icmp_ge C 88 (by decide) dX3_lookPairs_30 h (fun _ h => ?_) (fun _ h => ?_)
      · exact s_vret C E dX3_lookPairs_88 h
      · refine i_iload_n C dX3_lookPairs_33 2 rfl ?_
        refine s_iconst C (1 : Int32) dX3_lookPairs_34 (by decide) ?_
        refine s_iadd C dX3_lookPairs_35 ?_
        refine z_gi h (fun x6 h => ?_)
        refine i_istore_n (lv9 := [(3, _), (0, _), (1, _), (2, _)]) C 3 dX3_lookPairs_36 rfl (by decide) rfl ?_
        exact sg_T.to (tX3_lookPairs_37 C E hk25 _ _ h hq0 hq1) [1, 2, 3, 0] rfl
  exact key N
def fX3_lookPairs (N : Nat) (a0_ : Nat) (a1_ : Nat) (M : sg_M) : Option (sg_M) :=
  if (M.1 a0_ 5) = 0 then (
  sg_m (sg_uI M a0_ 5 (1 : Int32)) (fun M7 : sg_M =>
  sg_bv (fX3_lookSingles N a0_ a1_ M7) (fun M8 : sg_M =>
  sg_m (sg_uI M8 a0_ 2 (0 : Int32)) (fun M9 : sg_M =>
  sg_m (0 : Int32) (fun x10 : Int32 =>
  gX3_lookPairs_25 N (a0_, a1_, x10) M9))))) else (
  some M)
set_option maxHeartbeats 4000000 in
set_option maxRecDepth 100000 in
theorem tX3_lookPairs {ad : Nat → Nat} {X : sg_X} {N : Nat} {r : sg_M} (C : sg_C Yc ad X cX3_lookPairs RX3 4 5) (E : sg_eV Yc ad X cX3_lookPairs r) : ∀ (a0_ : Nat) (a1_ : Nat) (M : sg_M), sg_K Yc a0_ 3 → sg_K Yc a1_ 4 → fX3_lookPairs N a0_ a1_ M = some r → sg_T Yc ad X 4 0 [(0, .ref (ad a0_)), (1, .ref (ad a1_))] [] M := by
  intro a0_ a1_ M hq0 hq1 h
  unfold fX3_lookPairs at h
  refine i_aload_n C dX3_lookPairs_0 0 rfl ?_
  refine gf3_29 C hq0 dX3_lookPairs_1 ?_
  refine s_if_eq C 8 (by decide) dX3_lookPairs_4 h (fun _ h => ?_) (fun _ h => ?_)
  · refine i_aload_n C dX3_lookPairs_8 0 rfl ?_
    refine s_iconst C (1 : Int32) dX3_lookPairs_9 (by decide) ?_
    refine pf3_29 C hq0 (by decide) dX3_lookPairs_10 ?_
    refine z_gM h (fun M7 h => ?_)
    refine i_aload_n C dX3_lookPairs_13 0 rfl ?_
    refine i_aload_n C dX3_lookPairs_14 1 rfl ?_
    refine s_vcV C [_] vmX3_lookSingles lkX3_93 rfl rfl (by decide) hq0 (by decide) rfl rfl (Nat.le_of_ble_eq_true rfl) dX3_lookPairs_15 (ctX3_lookSingles C.inj hq0 hq1) h (fun M8 h => ?_)
    refine i_aload_n C dX3_lookPairs_18 0 rfl ?_
    refine s_iconst C (0 : Int32) dX3_lookPairs_19 (by decide) ?_
    refine pf3_18 C hq0 dX3_lookPairs_20 ?_
    refine z_gM h (fun M9 h => ?_)
    refine s_iconst C (0 : Int32) dX3_lookPairs_23 (by decide) ?_
    refine z_gi h (fun x10 h => ?_)
    refine i_istore_n (lv9 := [(2, _), (0, _), (1, _)]) C 2 dX3_lookPairs_24 rfl (by decide) rfl ?_
    exact sg_T.to (tX3_lookPairs_25 C E _ _ h hq0 hq1) [1, 2, 0] rfl
  · exact s_vret C E dX3_lookPairs_7 h
theorem ctX3_lookPairs {ad : Nat → Nat} {V : sg_V} {N : Nat} (hi : sg_inj Yc ad) {a0_ : Nat} {a1_ : Nat} {M : sg_M} (hq0 : sg_K Yc a0_ 3) (hq1 : sg_K Yc a1_ 4) : ∀ res, fX3_lookPairs N a0_ a1_ M = some res → sg_cV Yc ad V yX3_lookPairs cX3_lookPairs 4 5 [.ref (ad a0_), .ref (ad a1_)] M res := fun res h => sg_bodyV (by decide) hi (Nat.le_of_ble_eq_true rfl) (fun X hX C E => by subst hX; exact tX3_lookPairs C E _ _  _ hq0 hq1 h)
def bX5_forgetAll_7 (N : Nat)  (k7 : (Nat × Int32) → sg_M → Option (sg_M)) (s : Nat × Int32) (M : sg_M) : Option (sg_M) :=
  if (9 : Int32) < s.2 then (
  some M) else (
  if sg_ib s.2 (Yc.2.2.1 (Yc.2.2.2 s.1 4)) = true then
  sg_m (sg_uI M (Yc.2.2.2 s.1 4) (s.2).toNatClampNeg (vp_nar .boolean (0 : Int32))) (fun M1 : sg_M =>
  sg_m (s.2 + (1 : Int32)) (fun x2 : Int32 =>
  k7 (s.1, x2) M1))
  else none)
def gX5_forgetAll_7 (N : Nat)  : (Nat × Int32) → sg_M → Option (sg_M) := sg_lp (bX5_forgetAll_7 N ) N
set_option maxHeartbeats 4000000 in
set_option maxRecDepth 100000 in
theorem tX5_forgetAll_7 {ad : Nat → Nat} {X : sg_X} {N : Nat} {r : sg_M} (C : sg_C Yc ad X cX5_forgetAll RX5 2 0) (E : sg_eV Yc ad X cX5_forgetAll r)  : ∀ (s : Nat × Int32) (M : sg_M), gX5_forgetAll_7 N s M = some r → sg_K Yc s.1 5 → sg_T Yc ad X 2 7 [(0, .ref (ad (s.1))), (1, .int (s.2))] [] M := by
  have key : ∀ n : Nat, ∀ (s : Nat × Int32) (M : sg_M), sg_lp (bX5_forgetAll_7 N) n s M = some r → sg_K Yc s.1 5 → sg_T Yc ad X 2 7 [(0, .ref (ad (s.1))), (1, .int (s.2))] [] M := by
    intro n
    induction n with
    | zero => intro s M h; cases h
    | succ n ih =>
      intro s M h hq0
      have h : bX5_forgetAll_7 N (sg_lp (bX5_forgetAll_7 N) n) s M = some r := h
      generalize sg_lp (bX5_forgetAll_7 N) n = k7 at h ih
      have hk7 := ih
      unfold bX5_forgetAll_7 at h
      refine i_iload_n C dX5_forgetAll_7 1 rfl ?_
      refine s_bipush C (9 : Int32) dX5_forgetAll_8 (by decide) ?_
      refine s_icmp_gt C 26 (by decide) dX5_forgetAll_10 h (fun _ h => ?_) (fun _ h => ?_)
      · exact s_vret C E dX5_forgetAll_26 h
      · refine i_aload_n C dX5_forgetAll_13 0 rfl ?_
        refine gf5_29 C hq0 dX5_forgetAll_14 ?_
        refine i_iload_n C dX5_forgetAll_17 1 rfl ?_
        refine s_iconst C (0 : Int32) dX5_forgetAll_18 (by decide) ?_
        refine s_zast C (ky5_4 hq0) dX5_forgetAll_19 h (fun h => ?_)
        refine z_gM h (fun M1 h => ?_)
        refine z_iinc (n := 1) (c9 := (1 : Int32)) (by decide) h (fun x2 hx h => ?_)
        refine i_iinc (lv9 := [(1, _), (0, _)]) C dX5_forgetAll_20 1 rfl hx (by decide) rfl ?_
        refine s_goto C 7 (by decide) dX5_forgetAll_23 ?_
        exact sg_T.to (hk7 _ _ h hq0) [1, 0] rfl
  exact key N
def fX5_forgetAll (N : Nat) (a0_ : Nat) (M : sg_M) : Option (sg_M) :=
  sg_m (sg_uI M a0_ 3 (0 : Int32)) (fun M3 : sg_M =>
  sg_m (0 : Int32) (fun x4 : Int32 =>
  gX5_forgetAll_7 N (a0_, x4) M3))
set_option maxHeartbeats 4000000 in
set_option maxRecDepth 100000 in
theorem tX5_forgetAll {ad : Nat → Nat} {X : sg_X} {N : Nat} {r : sg_M} (C : sg_C Yc ad X cX5_forgetAll RX5 2 0) (E : sg_eV Yc ad X cX5_forgetAll r) : ∀ (a0_ : Nat) (M : sg_M), sg_K Yc a0_ 5 → fX5_forgetAll N a0_ M = some r → sg_T Yc ad X 2 0 [(0, .ref (ad a0_))] [] M := by
  intro a0_ M hq0 h
  unfold fX5_forgetAll at h
  refine i_aload_n C dX5_forgetAll_0 0 rfl ?_
  refine s_iconst C (0 : Int32) dX5_forgetAll_1 (by decide) ?_
  refine pf5_25 C hq0 (by decide) dX5_forgetAll_2 ?_
  refine z_gM h (fun M3 h => ?_)
  refine s_iconst C (0 : Int32) dX5_forgetAll_5 (by decide) ?_
  refine z_gi h (fun x4 h => ?_)
  refine i_istore_n (lv9 := [(1, _), (0, _)]) C 1 dX5_forgetAll_6 rfl (by decide) rfl ?_
  exact sg_T.to (tX5_forgetAll_7 C E _ _ h hq0) [1, 0] rfl
theorem ctX5_forgetAll {ad : Nat → Nat} {V : sg_V} {N : Nat} (hi : sg_inj Yc ad) {a0_ : Nat} {M : sg_M} (hq0 : sg_K Yc a0_ 5) : ∀ res, fX5_forgetAll N a0_ M = some res → sg_cV Yc ad V yX5_forgetAll cX5_forgetAll 2 0 [.ref (ad a0_)] M res := fun res h => sg_bodyV (by decide) hi (Nat.le_of_ble_eq_true rfl) (fun X hX C E => by subst hX; exact tX5_forgetAll C E _  _ hq0 h)
def gX5_bestNext_67 (N : Nat) (k5 : (Nat × Nat × Int32 × Int32 × Int32) → sg_M → Option (Int32 × sg_M)) (a0_ : Nat) (a1_ : Nat) (x2_ : Int32) (x4_ : Int32) (M : sg_M) : Option (Int32 × sg_M) :=
  sg_m x4_ (fun x1 : Int32 =>
  sg_bv (fX7_copyFrom N (Yc.2.2.2 a0_ 6) (Yc.2.2.2 (Yc.2.2.2 a0_ 7) 3) M) (fun M2 : sg_M =>
  sg_m (x4_ + (1 : Int32)) (fun x3 : Int32 =>
  k5 (a0_, a1_, x2_, x1, x3) M2)))
set_option maxHeartbeats 4000000 in
set_option maxRecDepth 100000 in
theorem tX5_bestNext_67 {ad : Nat → Nat} {X : sg_X} {N : Nat} {r : Int32 × sg_M} (C : sg_C Yc ad X cX5_bestNext RX5 5 3) (E : sg_eI Yc ad X cX5_bestNext .int r) {k5 : (Nat × Nat × Int32 × Int32 × Int32) → sg_M → Option (Int32 × sg_M)} (hk5 : ∀ (s : Nat × Nat × Int32 × Int32 × Int32) (M : sg_M), k5 s M = some r → sg_K Yc s.1 5 → sg_K Yc s.2.1 4 → sg_T Yc ad X 5 5 [(0, .ref (ad (s.1))), (1, .ref (ad (s.2.1))), (2, .int (s.2.2.1)), (3, .int (s.2.2.2.1)), (4, .int (s.2.2.2.2))] [] M) : ∀ (a0_ : Nat) (a1_ : Nat) (x2_ : Int32) (x4_ : Int32) (M : sg_M), gX5_bestNext_67 N k5 a0_ a1_ x2_ x4_ M = some r → sg_K Yc a0_ 5 → sg_K Yc a1_ 4 → sg_T Yc ad X 5 67 [(0, .ref (ad a0_)), (1, .ref (ad a1_)), (2, .int x2_), (4, .int x4_)] [] M := by
  intro a0_ a1_ x2_ x4_ M h hq0 hq1
  unfold gX5_bestNext_67 at h
  refine i_iload C dX5_bestNext_67 3 rfl ?_
  refine z_gi h (fun x1 h => ?_)
  refine i_istore_n (lv9 := [(3, _), (0, _), (1, _), (2, _), (4, _)]) C 3 dX5_bestNext_69 rfl (by decide) rfl ?_
  refine i_aload_n C dX5_bestNext_70 1 rfl ?_
  refine gf5_37 C hq0 dX5_bestNext_71 ?_
  refine i_aload_n C dX5_bestNext_74 1 rfl ?_
  refine gf5_44 C hq0 dX5_bestNext_75 ?_
  refine gf5_70 C (ky5_7 hq0) dX5_bestNext_78 ?_
  refine s_vcV C [_] vmX7_copyFrom lkX5_77 rfl rfl (by decide) (ky5_6 hq0) (by decide) rfl rfl (Nat.le_of_ble_eq_true rfl) dX5_bestNext_81 (ctX7_copyFrom C.inj (ky5_6 hq0) (ky1_3 (ky5_7 hq0))) h (fun M2 h => ?_)
  refine z_iinc (n := 1) (c9 := (1 : Int32)) (by decide) h (fun x3 hx h => ?_)
  refine i_iinc (lv9 := [(4, _), (3, _), (0, _), (1, _), (2, _)]) C dX5_bestNext_84 4 rfl hx (by decide) rfl ?_
  refine s_goto C 5 (by decide) dX5_bestNext_87 ?_
  exact sg_T.to (hk5 _ _ h hq0 hq1) [2, 3, 4, 1, 0] rfl
def bX5_bestNext_5 (N : Nat)  (k5 : (Nat × Nat × Int32 × Int32 × Int32) → sg_M → Option (Int32 × sg_M)) (s : Nat × Nat × Int32 × Int32 × Int32) (M : sg_M) : Option (Int32 × sg_M) :=
  if (M.1 s.2.1 5) ≤ s.2.2.2.2 then (
  some (s.2.2.2.1, M)) else (
  if ((s.2.2.1 >>> (s.2.2.2.2 &&& 31)) &&& (1 : Int32)) = 0 then (
  sg_bv (fX1_settle N (Yc.2.2.2 s.1 7) s.2.1 (Yc.2.2.2 s.2.1 11) (s.2.2.1 ||| ((1 : Int32) <<< (s.2.2.2.2 &&& 31))) (Yc.2.2.2 s.2.1 12) M) (fun M4 : sg_M =>
  if s.2.2.2.1 = (-1 : Int32) then (
  gX5_bestNext_67 N k5 s.1 s.2.1 s.2.2.1 s.2.2.2.2 M4) else (
  sg_b (fX7_isBetterThan N (Yc.2.2.2 (Yc.2.2.2 s.1 7) 3) (Yc.2.2.2 s.1 6) M4) (fun (x6 : Int32) (M5 : sg_M) =>
  if x6 = 0 then (
  sg_m (s.2.2.2.2 + (1 : Int32)) (fun x7 : Int32 =>
  k5 (s.1, s.2.1, s.2.2.1, s.2.2.2.1, x7) M5)) else (
  gX5_bestNext_67 N k5 s.1 s.2.1 s.2.2.1 s.2.2.2.2 M5))))) else (
  sg_m (s.2.2.2.2 + (1 : Int32)) (fun x8 : Int32 =>
  k5 (s.1, s.2.1, s.2.2.1, s.2.2.2.1, x8) M)))
def gX5_bestNext_5 (N : Nat)  : (Nat × Nat × Int32 × Int32 × Int32) → sg_M → Option (Int32 × sg_M) := sg_lp (bX5_bestNext_5 N ) N
set_option maxHeartbeats 4000000 in
set_option maxRecDepth 100000 in
theorem tX5_bestNext_5 {ad : Nat → Nat} {X : sg_X} {N : Nat} {r : Int32 × sg_M} (C : sg_C Yc ad X cX5_bestNext RX5 5 3) (E : sg_eI Yc ad X cX5_bestNext .int r)  : ∀ (s : Nat × Nat × Int32 × Int32 × Int32) (M : sg_M), gX5_bestNext_5 N s M = some r → sg_K Yc s.1 5 → sg_K Yc s.2.1 4 → sg_T Yc ad X 5 5 [(0, .ref (ad (s.1))), (1, .ref (ad (s.2.1))), (2, .int (s.2.2.1)), (3, .int (s.2.2.2.1)), (4, .int (s.2.2.2.2))] [] M := by
  have key : ∀ n : Nat, ∀ (s : Nat × Nat × Int32 × Int32 × Int32) (M : sg_M), sg_lp (bX5_bestNext_5 N) n s M = some r → sg_K Yc s.1 5 → sg_K Yc s.2.1 4 → sg_T Yc ad X 5 5 [(0, .ref (ad (s.1))), (1, .ref (ad (s.2.1))), (2, .int (s.2.2.1)), (3, .int (s.2.2.2.1)), (4, .int (s.2.2.2.2))] [] M := by
    intro n
    induction n with
    | zero => intro s M h; cases h
    | succ n ih =>
      intro s M h hq0 hq1
      have h : bX5_bestNext_5 N (sg_lp (bX5_bestNext_5 N) n) s M = some r := h
      generalize sg_lp (bX5_bestNext_5 N) n = k5 at h ih
      have hk5 := ih
      unfold bX5_bestNext_5 at h
      refine i_iload C dX5_bestNext_5 4 rfl ?_
      refine i_aload_n C dX5_bestNext_7 1 rfl ?_
      refine gf5_53 C hq1 dX5_bestNext_8 ?_
      refine s_icmp_ge C 90 (by decide) dX5_bestNext_11 h (fun _ h => ?_) (fun _ h => ?_)
      · refine i_iload_n C dX5_bestNext_90 3 rfl ?_
        exact s_iret C E dX5_bestNext_91 h
      · refine i_iload_n C dX5_bestNext_14 2 rfl ?_
        refine i_iload C dX5_bestNext_15 4 rfl ?_
        refine s_ishr C dX5_bestNext_17 ?_
        refine s_iconst C (1 : Int32) dX5_bestNext_18 (by decide) ?_
        refine s_iand C dX5_bestNext_19 ?_
        refine s_if_ne C 84 (by decide) dX5_bestNext_20 h (fun _ h => ?_) (fun _ h => ?_)
        · refine i_aload_n C dX5_bestNext_23 0 rfl ?_
          refine gf5_44 C hq0 dX5_bestNext_24 ?_
          refine i_aload_n C dX5_bestNext_27 1 rfl ?_
          refine i_aload_n C dX5_bestNext_28 1 rfl ?_
          refine gf5_60 C hq1 dX5_bestNext_29 ?_
          refine i_iload_n C dX5_bestNext_32 2 rfl ?_
          refine s_iconst C (1 : Int32) dX5_bestNext_33 (by decide) ?_
          refine i_iload C dX5_bestNext_34 4 rfl ?_
          refine s_ishl C dX5_bestNext_36 ?_
          refine s_ior C dX5_bestNext_37 ?_
          refine i_aload_n C dX5_bestNext_38 1 rfl ?_
          refine gf5_63 C hq1 dX5_bestNext_39 ?_
          refine s_vcV C [_, _, _, _] vmX1_settle lkX5_66 rfl rfl (by decide) (ky5_7 hq0) (by decide) rfl rfl (Nat.le_of_ble_eq_true rfl) dX5_bestNext_42 (ctX1_settle C.inj (ky5_7 hq0) hq1 (ky4_11 hq1) (ky4_12 hq1)) h (fun M4 h => ?_)
          refine i_iload_n C dX5_bestNext_45 3 rfl ?_
          refine s_iconst C (-1 : Int32) dX5_bestNext_46 (by decide) ?_
          refine s_icmp_eq C 67 (by decide) dX5_bestNext_47 h (fun _ h => ?_) (fun _ h => ?_)
          · exact sg_T.to (tX5_bestNext_67 C E hk5 _ _ _ _ _ h hq0 hq1) [0, 1, 2, 4] rfl
          · refine i_aload_n C dX5_bestNext_50 0 rfl ?_
            refine gf5_44 C hq0 dX5_bestNext_51 ?_
            refine gf5_70 C (ky5_7 hq0) dX5_bestNext_54 ?_
            refine i_aload_n C dX5_bestNext_57 0 rfl ?_
            refine gf5_37 C hq0 dX5_bestNext_58 ?_
            refine s_vcI C [_] vmX7_isBetterThan lkX5_73 rfl rfl (by decide) (ky1_3 (ky5_7 hq0)) (by decide) rfl rfl (Nat.le_of_ble_eq_true rfl) dX5_bestNext_61 (ctX7_isBetterThan C.inj (ky1_3 (ky5_7 hq0)) (ky5_6 hq0)) h (fun x6 M5 h => ?_)
            refine s_if_eq C 84 (by decide) dX5_bestNext_64 h (fun _ h => ?_) (fun _ h => ?_)
            · refine z_iinc (n := 1) (c9 := (1 : Int32)) (by decide) h (fun x7 hx h => ?_)
              refine i_iinc (lv9 := [(4, _), (0, _), (1, _), (2, _), (3, _)]) C dX5_bestNext_84 4 rfl hx (by decide) rfl ?_
              refine s_goto C 5 (by decide) dX5_bestNext_87 ?_
              exact sg_T.to (hk5 _ _ h hq0 hq1) [1, 2, 3, 4, 0] rfl
            · exact sg_T.to (tX5_bestNext_67 C E hk5 _ _ _ _ _ h hq0 hq1) [0, 1, 2, 4] rfl
        · refine z_iinc (n := 1) (c9 := (1 : Int32)) (by decide) h (fun x8 hx h => ?_)
          refine i_iinc (lv9 := [(4, _), (0, _), (1, _), (2, _), (3, _)]) C dX5_bestNext_84 4 rfl hx (by decide) rfl ?_
          refine s_goto C 5 (by decide) dX5_bestNext_87 ?_
          exact sg_T.to (hk5 _ _ h hq0 hq1) [1, 2, 3, 4, 0] rfl
  exact key N
def fX5_bestNext (N : Nat) (a0_ : Nat) (a1_ : Nat) (x2_ : Int32) (M : sg_M) : Option (Int32 × sg_M) :=
  sg_m (-1 : Int32) (fun x9 : Int32 =>
  sg_m (0 : Int32) (fun x10 : Int32 =>
  gX5_bestNext_5 N (a0_, a1_, x2_, x9, x10) M))
set_option maxHeartbeats 4000000 in
set_option maxRecDepth 100000 in
theorem tX5_bestNext {ad : Nat → Nat} {X : sg_X} {N : Nat} {r : Int32 × sg_M} (C : sg_C Yc ad X cX5_bestNext RX5 5 3) (E : sg_eI Yc ad X cX5_bestNext .int r) : ∀ (a0_ : Nat) (a1_ : Nat) (x2_ : Int32) (M : sg_M), sg_K Yc a0_ 5 → sg_K Yc a1_ 4 → fX5_bestNext N a0_ a1_ x2_ M = some r → sg_T Yc ad X 5 0 [(0, .ref (ad a0_)), (1, .ref (ad a1_)), (2, .int x2_)] [] M := by
  intro a0_ a1_ x2_ M hq0 hq1 h
  unfold fX5_bestNext at h
  refine s_iconst C (-1 : Int32) dX5_bestNext_0 (by decide) ?_
  refine z_gi h (fun x9 h => ?_)
  refine i_istore_n (lv9 := [(3, _), (0, _), (1, _), (2, _)]) C 3 dX5_bestNext_1 rfl (by decide) rfl ?_
  refine s_iconst C (0 : Int32) dX5_bestNext_2 (by decide) ?_
  refine z_gi h (fun x10 h => ?_)
  refine i_istore (lv9 := [(4, _), (3, _), (0, _), (1, _), (2, _)]) C dX5_bestNext_3 (by decide) rfl ?_
  exact sg_T.to (tX5_bestNext_5 C E _ _ h hq0 hq1) [2, 3, 4, 1, 0] rfl
theorem ctX5_bestNext {ad : Nat → Nat} {V : sg_V} {N : Nat} (hi : sg_inj Yc ad) {a0_ : Nat} {a1_ : Nat} {x2_ : Int32} {M : sg_M} (hq0 : sg_K Yc a0_ 5) (hq1 : sg_K Yc a1_ 4) : ∀ res, fX5_bestNext N a0_ a1_ x2_ M = some res → sg_cI Yc ad V yX5_bestNext cX5_bestNext 5 .int 3 [.ref (ad a0_), .ref (ad a1_), .int x2_] M res := fun res h => sg_bodyI (by decide) hi (Nat.le_of_ble_eq_true rfl) (fun X hX C E => by subst hX; exact tX5_bestNext C E _ _ _  _ hq0 hq1 h)
def bX5_lookGreedy_25 (N : Nat)  (k25 : (Nat × Nat × Int32 × Int32) → sg_M → Option (sg_M)) (s : Nat × Nat × Int32 × Int32) (M : sg_M) : Option (sg_M) :=
  if (M.1 s.2.1 5) ≤ s.2.2.2 then (
  some M) else (
  sg_b (fX5_bestNext N s.1 s.2.1 s.2.2.1 M) (fun (x2 : Int32) (M1 : sg_M) =>
  sg_m x2 (fun x3 : Int32 =>
  if x3 = (-1 : Int32) then (
  some M1) else (
  if sg_ib (M1.1 s.1 0) (Yc.2.2.1 (Yc.2.2.2 s.1 1)) = true then
  sg_m (sg_uI M1 (Yc.2.2.2 s.1 1) ((M1.1 s.1 0)).toNatClampNeg x3) (fun M4 : sg_M =>
  sg_m (sg_uI M4 s.1 0 ((M4.1 s.1 0) + (1 : Int32))) (fun M5 : sg_M =>
  sg_m (s.2.2.1 ||| ((1 : Int32) <<< (x3 &&& 31))) (fun x6 : Int32 =>
  sg_m (s.2.2.2 + (1 : Int32)) (fun x7 : Int32 =>
  k25 (s.1, s.2.1, x6, x7) M5))))
  else none))))
def gX5_lookGreedy_25 (N : Nat)  : (Nat × Nat × Int32 × Int32) → sg_M → Option (sg_M) := sg_lp (bX5_lookGreedy_25 N ) N
set_option maxHeartbeats 4000000 in
set_option maxRecDepth 100000 in
theorem tX5_lookGreedy_25 {ad : Nat → Nat} {X : sg_X} {N : Nat} {r : sg_M} (C : sg_C Yc ad X cX5_lookGreedy RX5 5 4) (E : sg_eV Yc ad X cX5_lookGreedy r)  : ∀ (s : Nat × Nat × Int32 × Int32) (M : sg_M), gX5_lookGreedy_25 N s M = some r → sg_K Yc s.1 5 → sg_K Yc s.2.1 4 → sg_T Yc ad X 5 25 [(0, .ref (ad (s.1))), (1, .ref (ad (s.2.1))), (2, .int (s.2.2.1)), (3, .int (s.2.2.2))] [] M := by
  have key : ∀ n : Nat, ∀ (s : Nat × Nat × Int32 × Int32) (M : sg_M), sg_lp (bX5_lookGreedy_25 N) n s M = some r → sg_K Yc s.1 5 → sg_K Yc s.2.1 4 → sg_T Yc ad X 5 25 [(0, .ref (ad (s.1))), (1, .ref (ad (s.2.1))), (2, .int (s.2.2.1)), (3, .int (s.2.2.2))] [] M := by
    intro n
    induction n with
    | zero => intro s M h; cases h
    | succ n ih =>
      intro s M h hq0 hq1
      have h : bX5_lookGreedy_25 N (sg_lp (bX5_lookGreedy_25 N) n) s M = some r := h
      generalize sg_lp (bX5_lookGreedy_25 N) n = k25 at h ih
      have hk25 := ih
      unfold bX5_lookGreedy_25 at h
      refine i_iload_n C dX5_lookGreedy_25 3 rfl ?_
      refine i_aload_n C dX5_lookGreedy_26 1 rfl ?_
      refine gf5_53 C hq1 dX5_lookGreedy_27 ?_
      refine s_icmp_ge C 82 (by decide) dX5_lookGreedy_30 h (fun _ h => ?_) (fun _ h => ?_)
      · exact s_vret C E dX5_lookGreedy_82 h
      · refine i_aload_n C dX5_lookGreedy_33 0 rfl ?_
        refine i_aload_n C dX5_lookGreedy_34 1 rfl ?_
        refine i_iload_n C dX5_lookGreedy_35 2 rfl ?_
        refine s_vcI C [_, _] vmX5_bestNext lkX5_56 rfl rfl (by decide) hq0 (by decide) rfl rfl (Nat.le_of_ble_eq_true rfl) dX5_lookGreedy_36 (ctX5_bestNext C.inj hq0 hq1) h (fun x2 M1 h => ?_)
        refine z_gi h (fun x3 h => ?_)
        refine i_istore (lv9 := [(4, _), (0, _), (1, _), (2, _), (3, _)]) C dX5_lookGreedy_39 (by decide) rfl ?_
        refine i_iload C dX5_lookGreedy_41 0 rfl ?_
        refine s_iconst C (-1 : Int32) dX5_lookGreedy_43 (by decide) ?_
        refine s_icmp_ne C 48 (by decide) dX5_lookGreedy_44 h (fun _ h => ?_) (fun _ h => ?_)
        · exact s_vret C E dX5_lookGreedy_47 h
        · refine i_aload_n C dX5_lookGreedy_48 1 rfl ?_
          refine gf5_15 C hq0 dX5_lookGreedy_49 ?_
          refine i_aload_n C dX5_lookGreedy_52 1 rfl ?_
          refine gf5_9 C hq0 dX5_lookGreedy_53 ?_
          refine i_iload C dX5_lookGreedy_56 0 rfl ?_
          refine s_iast C (ky5_1 hq0) dX5_lookGreedy_58 h (fun h => ?_)
          refine z_gM h (fun M4 h => ?_)
          refine i_aload_n C dX5_lookGreedy_59 1 rfl ?_
          refine s_dup C dX5_lookGreedy_60 rfl ?_
          refine gf5_9 C hq0 dX5_lookGreedy_61 ?_
          refine s_iconst C (1 : Int32) dX5_lookGreedy_64 (by decide) ?_
          refine s_iadd C dX5_lookGreedy_65 ?_
          refine pf5_9 C hq0 dX5_lookGreedy_66 ?_
          refine z_gM h (fun M5 h => ?_)
          refine i_iload_n C dX5_lookGreedy_69 3 rfl ?_
          refine s_iconst C (1 : Int32) dX5_lookGreedy_70 (by decide) ?_
          refine i_iload C dX5_lookGreedy_71 0 rfl ?_
          refine s_ishl C dX5_lookGreedy_73 ?_
          refine s_ior C dX5_lookGreedy_74 ?_
          refine z_gi h (fun x6 h => ?_)
          refine i_istore_n (lv9 := [(2, _), (4, _), (0, _), (1, _), (3, _)]) C 2 dX5_lookGreedy_75 rfl (by decide) rfl ?_
          refine z_iinc (n := 1) (c9 := (1 : Int32)) (by decide) h (fun x7 hx h => ?_)
          refine i_iinc (lv9 := [(3, _), (2, _), (4, _), (0, _), (1, _)]) C dX5_lookGreedy_76 4 rfl hx (by decide) rfl ?_
          refine s_goto C 25 (by decide) dX5_lookGreedy_79 ?_
          exact sg_T.to (hk25 _ _ h hq0 hq1) [3, 4, 1, 0] rfl
  exact key N
def fX5_lookGreedy (N : Nat) (a0_ : Nat) (a1_ : Nat) (M : sg_M) : Option (sg_M) :=
  if (M.1 a0_ 3) = 0 then (
  sg_m (sg_uI M a0_ 3 (1 : Int32)) (fun M8 : sg_M =>
  sg_m (sg_uI M8 a0_ 0 (0 : Int32)) (fun M9 : sg_M =>
  sg_m (M9.1 a1_ 7) (fun x10 : Int32 =>
  sg_m (0 : Int32) (fun x11 : Int32 =>
  gX5_lookGreedy_25 N (a0_, a1_, x10, x11) M9))))) else (
  some M)
set_option maxHeartbeats 4000000 in
set_option maxRecDepth 100000 in
theorem tX5_lookGreedy {ad : Nat → Nat} {X : sg_X} {N : Nat} {r : sg_M} (C : sg_C Yc ad X cX5_lookGreedy RX5 5 4) (E : sg_eV Yc ad X cX5_lookGreedy r) : ∀ (a0_ : Nat) (a1_ : Nat) (M : sg_M), sg_K Yc a0_ 5 → sg_K Yc a1_ 4 → fX5_lookGreedy N a0_ a1_ M = some r → sg_T Yc ad X 5 0 [(0, .ref (ad a0_)), (1, .ref (ad a1_))] [] M := by
  intro a0_ a1_ M hq0 hq1 h
  unfold fX5_lookGreedy at h
  refine i_aload_n C dX5_lookGreedy_0 0 rfl ?_
  refine gf5_25 C hq0 dX5_lookGreedy_1 ?_
  refine s_if_eq C 8 (by decide) dX5_lookGreedy_4 h (fun _ h => ?_) (fun _ h => ?_)
  · refine i_aload_n C dX5_lookGreedy_8 0 rfl ?_
    refine s_iconst C (1 : Int32) dX5_lookGreedy_9 (by decide) ?_
    refine pf5_25 C hq0 (by decide) dX5_lookGreedy_10 ?_
    refine z_gM h (fun M8 h => ?_)
    refine i_aload_n C dX5_lookGreedy_13 0 rfl ?_
    refine s_iconst C (0 : Int32) dX5_lookGreedy_14 (by decide) ?_
    refine pf5_9 C hq0 dX5_lookGreedy_15 ?_
    refine z_gM h (fun M9 h => ?_)
    refine i_aload_n C dX5_lookGreedy_18 1 rfl ?_
    refine gf5_48 C hq1 dX5_lookGreedy_19 ?_
    refine z_gi h (fun x10 h => ?_)
    refine i_istore_n (lv9 := [(2, _), (0, _), (1, _)]) C 2 dX5_lookGreedy_22 rfl (by decide) rfl ?_
    refine s_iconst C (0 : Int32) dX5_lookGreedy_23 (by decide) ?_
    refine z_gi h (fun x11 h => ?_)
    refine i_istore_n (lv9 := [(3, _), (2, _), (0, _), (1, _)]) C 3 dX5_lookGreedy_24 rfl (by decide) rfl ?_
    exact sg_T.to (tX5_lookGreedy_25 C E _ _ h hq0 hq1) [2, 3, 1, 0] rfl
  · exact s_vret C E dX5_lookGreedy_7 h
theorem ctX5_lookGreedy {ad : Nat → Nat} {V : sg_V} {N : Nat} (hi : sg_inj Yc ad) {a0_ : Nat} {a1_ : Nat} {M : sg_M} (hq0 : sg_K Yc a0_ 5) (hq1 : sg_K Yc a1_ 4) : ∀ res, fX5_lookGreedy N a0_ a1_ M = some res → sg_cV Yc ad V yX5_lookGreedy cX5_lookGreedy 5 4 [.ref (ad a0_), .ref (ad a1_)] M res := fun res h => sg_bodyV (by decide) hi (Nat.le_of_ble_eq_true rfl) (fun X hX C E => by subst hX; exact tX5_lookGreedy C E _ _  _ hq0 hq1 h)
def gX5_findSet_79 (N : Nat) (k6 : (Nat × Nat × Int32 × Nat × Int32 × Int32) → sg_M → Option (Int32 × sg_M)) (a0_ : Nat) (a1_ : Nat) (x2_ : Int32) (a3_ : Nat) (x5_ : Int32) (M : sg_M) : Option (Int32 × sg_M) :=
  sg_m x5_ (fun x1 : Int32 =>
  sg_bv (fX7_copyFrom N a3_ (Yc.2.2.2 (Yc.2.2.2 a0_ 7) 3) M) (fun M2 : sg_M =>
  sg_m (x5_ + (1 : Int32)) (fun x3 : Int32 =>
  k6 (a0_, a1_, x2_, a3_, x1, x3) M2)))
set_option maxHeartbeats 4000000 in
set_option maxRecDepth 100000 in
theorem tX5_findSet_79 {ad : Nat → Nat} {X : sg_X} {N : Nat} {r : Int32 × sg_M} (C : sg_C Yc ad X cX5_findSet RX5 6 3) (E : sg_eI Yc ad X cX5_findSet .int r) {k6 : (Nat × Nat × Int32 × Nat × Int32 × Int32) → sg_M → Option (Int32 × sg_M)} (hk6 : ∀ (s : Nat × Nat × Int32 × Nat × Int32 × Int32) (M : sg_M), k6 s M = some r → sg_K Yc s.1 5 → sg_K Yc s.2.1 4 → sg_K Yc s.2.2.2.1 7 → sg_T Yc ad X 6 6 [(0, .ref (ad (s.1))), (1, .ref (ad (s.2.1))), (2, .int (s.2.2.1)), (3, .ref (ad (s.2.2.2.1))), (4, .int (s.2.2.2.2.1)), (5, .int (s.2.2.2.2.2))] [] M) : ∀ (a0_ : Nat) (a1_ : Nat) (x2_ : Int32) (a3_ : Nat) (x5_ : Int32) (M : sg_M), gX5_findSet_79 N k6 a0_ a1_ x2_ a3_ x5_ M = some r → sg_K Yc a0_ 5 → sg_K Yc a1_ 4 → sg_K Yc a3_ 7 → sg_T Yc ad X 6 79 [(0, .ref (ad a0_)), (1, .ref (ad a1_)), (2, .int x2_), (3, .ref (ad a3_)), (5, .int x5_)] [] M := by
  intro a0_ a1_ x2_ a3_ x5_ M h hq0 hq1 hq3
  unfold gX5_findSet_79 at h
  refine i_iload C dX5_findSet_79 4 rfl ?_
  refine z_gi h (fun x1 h => ?_)
  refine i_istore (lv9 := [(4, _), (0, _), (1, _), (2, _), (3, _), (5, _)]) C dX5_findSet_81 (by decide) rfl ?_
  refine i_aload_n C dX5_findSet_83 4 rfl ?_
  refine i_aload_n C dX5_findSet_84 1 rfl ?_
  refine gf5_44 C hq0 dX5_findSet_85 ?_
  refine gf5_70 C (ky5_7 hq0) dX5_findSet_88 ?_
  refine s_vcV C [_] vmX7_copyFrom lkX5_77 rfl rfl (by decide) hq3 (by decide) rfl rfl (Nat.le_of_ble_eq_true rfl) dX5_findSet_91 (ctX7_copyFrom C.inj hq3 (ky1_3 (ky5_7 hq0))) h (fun M2 h => ?_)
  refine z_iinc (n := 1) (c9 := (1 : Int32)) (by decide) h (fun x3 hx h => ?_)
  refine i_iinc (lv9 := [(5, _), (4, _), (0, _), (1, _), (2, _), (3, _)]) C dX5_findSet_94 5 rfl hx (by decide) rfl ?_
  refine s_goto C 6 (by decide) dX5_findSet_97 ?_
  exact sg_T.to (hk6 _ _ h hq0 hq1 hq3) [2, 3, 4, 5, 1, 0] rfl
def bX5_findSet_6 (N : Nat)  (k6 : (Nat × Nat × Int32 × Nat × Int32 × Int32) → sg_M → Option (Int32 × sg_M)) (s : Nat × Nat × Int32 × Nat × Int32 × Int32) (M : sg_M) : Option (Int32 × sg_M) :=
  if ((1 : Int32) <<< ((M.1 s.2.1 5) &&& 31)) ≤ s.2.2.2.2.2 then (
  some (s.2.2.2.2.1, M)) else (
  if (s.2.2.2.2.2 &&& (M.1 s.2.1 7)) = 0 then (
  sg_b (fJ6_bitCount_0f7a4 N s.2.2.2.2.2 M) (fun (x5 : Int32) (M4 : sg_M) =>
  if x5 = s.2.2.1 then (
  sg_bv (fX1_settle N (Yc.2.2.2 s.1 7) s.2.1 (Yc.2.2.2 s.2.1 11) ((M4.1 s.2.1 7) ||| s.2.2.2.2.2) (Yc.2.2.2 s.2.1 12) M4) (fun M6 : sg_M =>
  if s.2.2.2.2.1 = (-1 : Int32) then (
  gX5_findSet_79 N k6 s.1 s.2.1 s.2.2.1 s.2.2.2.1 s.2.2.2.2.2 M6) else (
  sg_b (fX7_isBetterThan N (Yc.2.2.2 (Yc.2.2.2 s.1 7) 3) s.2.2.2.1 M6) (fun (x8 : Int32) (M7 : sg_M) =>
  if x8 = 0 then (
  sg_m (s.2.2.2.2.2 + (1 : Int32)) (fun x9 : Int32 =>
  k6 (s.1, s.2.1, s.2.2.1, s.2.2.2.1, s.2.2.2.2.1, x9) M7)) else (
  gX5_findSet_79 N k6 s.1 s.2.1 s.2.2.1 s.2.2.2.1 s.2.2.2.2.2 M7))))) else (
  sg_m (s.2.2.2.2.2 + (1 : Int32)) (fun x10 : Int32 =>
  k6 (s.1, s.2.1, s.2.2.1, s.2.2.2.1, s.2.2.2.2.1, x10) M4)))) else (
  sg_m (s.2.2.2.2.2 + (1 : Int32)) (fun x11 : Int32 =>
  k6 (s.1, s.2.1, s.2.2.1, s.2.2.2.1, s.2.2.2.2.1, x11) M)))
def gX5_findSet_6 (N : Nat)  : (Nat × Nat × Int32 × Nat × Int32 × Int32) → sg_M → Option (Int32 × sg_M) := sg_lp (bX5_findSet_6 N ) N
set_option maxHeartbeats 4000000 in
set_option maxRecDepth 100000 in
theorem tX5_findSet_6 {ad : Nat → Nat} {X : sg_X} {N : Nat} {r : Int32 × sg_M} (C : sg_C Yc ad X cX5_findSet RX5 6 3) (E : sg_eI Yc ad X cX5_findSet .int r)  : ∀ (s : Nat × Nat × Int32 × Nat × Int32 × Int32) (M : sg_M), gX5_findSet_6 N s M = some r → sg_K Yc s.1 5 → sg_K Yc s.2.1 4 → sg_K Yc s.2.2.2.1 7 → sg_T Yc ad X 6 6 [(0, .ref (ad (s.1))), (1, .ref (ad (s.2.1))), (2, .int (s.2.2.1)), (3, .ref (ad (s.2.2.2.1))), (4, .int (s.2.2.2.2.1)), (5, .int (s.2.2.2.2.2))] [] M := by
  have key : ∀ n : Nat, ∀ (s : Nat × Nat × Int32 × Nat × Int32 × Int32) (M : sg_M), sg_lp (bX5_findSet_6 N) n s M = some r → sg_K Yc s.1 5 → sg_K Yc s.2.1 4 → sg_K Yc s.2.2.2.1 7 → sg_T Yc ad X 6 6 [(0, .ref (ad (s.1))), (1, .ref (ad (s.2.1))), (2, .int (s.2.2.1)), (3, .ref (ad (s.2.2.2.1))), (4, .int (s.2.2.2.2.1)), (5, .int (s.2.2.2.2.2))] [] M := by
    intro n
    induction n with
    | zero => intro s M h; cases h
    | succ n ih =>
      intro s M h hq0 hq1 hq3
      have h : bX5_findSet_6 N (sg_lp (bX5_findSet_6 N) n) s M = some r := h
      generalize sg_lp (bX5_findSet_6 N) n = k6 at h ih
      have hk6 := ih
      unfold bX5_findSet_6 at h
      refine i_iload C dX5_findSet_6 5 rfl ?_
      refine s_iconst C (1 : Int32) dX5_findSet_8 (by decide) ?_
      refine i_aload_n C dX5_findSet_9 1 rfl ?_
      refine gf5_53 C hq1 dX5_findSet_10 ?_
      refine s_ishl C dX5_findSet_13 ?_
      refine s_icmp_ge C 100 (by decide) dX5_findSet_14 h (fun _ h => ?_) (fun _ h => ?_)
      · refine i_iload C dX5_findSet_100 4 rfl ?_
        exact s_iret C E dX5_findSet_102 h
      · refine i_iload C dX5_findSet_17 5 rfl ?_
        refine i_aload_n C dX5_findSet_19 1 rfl ?_
        refine gf5_48 C hq1 dX5_findSet_20 ?_
        refine s_iand C dX5_findSet_23 ?_
        refine s_if_ne C 94 (by decide) dX5_findSet_24 h (fun _ h => ?_) (fun _ h => ?_)
        · refine i_iload C dX5_findSet_27 5 rfl ?_
          refine s_scI C [_] smJ6_bitCount_0f7a4 lkX5_85 (by decide) rfl rfl (Nat.le_of_ble_eq_true rfl) dX5_findSet_29 (ctJ6_bitCount_0f7a4 C.inj ) h (fun x5 M4 h => ?_)
          refine i_iload_n C dX5_findSet_32 2 rfl ?_
          refine s_icmp_ne C 94 (by decide) dX5_findSet_33 h (fun _ h => ?_) (fun _ h => ?_)
          · refine i_aload_n C dX5_findSet_36 0 rfl ?_
            refine gf5_44 C hq0 dX5_findSet_37 ?_
            refine i_aload_n C dX5_findSet_40 1 rfl ?_
            refine i_aload_n C dX5_findSet_41 1 rfl ?_
            refine gf5_60 C hq1 dX5_findSet_42 ?_
            refine i_aload_n C dX5_findSet_45 1 rfl ?_
            refine gf5_48 C hq1 dX5_findSet_46 ?_
            refine i_iload C dX5_findSet_49 5 rfl ?_
            refine s_ior C dX5_findSet_51 ?_
            refine i_aload_n C dX5_findSet_52 1 rfl ?_
            refine gf5_63 C hq1 dX5_findSet_53 ?_
            refine s_vcV C [_, _, _, _] vmX1_settle lkX5_66 rfl rfl (by decide) (ky5_7 hq0) (by decide) rfl rfl (Nat.le_of_ble_eq_true rfl) dX5_findSet_56 (ctX1_settle C.inj (ky5_7 hq0) hq1 (ky4_11 hq1) (ky4_12 hq1)) h (fun M6 h => ?_)
            refine i_iload C dX5_findSet_59 4 rfl ?_
            refine s_iconst C (-1 : Int32) dX5_findSet_61 (by decide) ?_
            refine s_icmp_eq C 79 (by decide) dX5_findSet_62 h (fun _ h => ?_) (fun _ h => ?_)
            · exact sg_T.to (tX5_findSet_79 C E hk6 _ _ _ _ _ _ h hq0 hq1 hq3) [0, 1, 2, 3, 5] rfl
            · refine i_aload_n C dX5_findSet_65 0 rfl ?_
              refine gf5_44 C hq0 dX5_findSet_66 ?_
              refine gf5_70 C (ky5_7 hq0) dX5_findSet_69 ?_
              refine i_aload_n C dX5_findSet_72 3 rfl ?_
              refine s_vcI C [_] vmX7_isBetterThan lkX5_73 rfl rfl (by decide) (ky1_3 (ky5_7 hq0)) (by decide) rfl rfl (Nat.le_of_ble_eq_true rfl) dX5_findSet_73 (ctX7_isBetterThan C.inj (ky1_3 (ky5_7 hq0)) hq3) h (fun x8 M7 h => ?_)
              refine s_if_eq C 94 (by decide) dX5_findSet_76 h (fun _ h => ?_) (fun _ h => ?_)
              · refine z_iinc (n := 1) (c9 := (1 : Int32)) (by decide) h (fun x9 hx h => ?_)
                refine i_iinc (lv9 := [(5, _), (0, _), (1, _), (2, _), (3, _), (4, _)]) C dX5_findSet_94 5 rfl hx (by decide) rfl ?_
                refine s_goto C 6 (by decide) dX5_findSet_97 ?_
                exact sg_T.to (hk6 _ _ h hq0 hq1 hq3) [1, 2, 3, 4, 5, 0] rfl
              · exact sg_T.to (tX5_findSet_79 C E hk6 _ _ _ _ _ _ h hq0 hq1 hq3) [0, 1, 2, 3, 5] rfl
          · refine z_iinc (n := 1) (c9 := (1 : Int32)) (by decide) h (fun x10 hx h => ?_)
            refine i_iinc (lv9 := [(5, _), (0, _), (1, _), (2, _), (3, _), (4, _)]) C dX5_findSet_94 5 rfl hx (by decide) rfl ?_
            refine s_goto C 6 (by decide) dX5_findSet_97 ?_
            exact sg_T.to (hk6 _ _ h hq0 hq1 hq3) [1, 2, 3, 4, 5, 0] rfl
        · refine z_iinc (n := 1) (c9 := (1 : Int32)) (by decide) h (fun x11 hx h => ?_)
          refine i_iinc (lv9 := [(5, _), (0, _), (1, _), (2, _), (3, _), (4, _)]) C dX5_findSet_94 5 rfl hx (by decide) rfl ?_
          refine s_goto C 6 (by decide) dX5_findSet_97 ?_
          exact sg_T.to (hk6 _ _ h hq0 hq1 hq3) [1, 2, 3, 4, 5, 0] rfl
  exact key N
def fX5_findSet (N : Nat) (a0_ : Nat) (a1_ : Nat) (x2_ : Int32) (a3_ : Nat) (M : sg_M) : Option (Int32 × sg_M) :=
  sg_m (-1 : Int32) (fun x12 : Int32 =>
  sg_m (0 : Int32) (fun x13 : Int32 =>
  gX5_findSet_6 N (a0_, a1_, x2_, a3_, x12, x13) M))
set_option maxHeartbeats 4000000 in
set_option maxRecDepth 100000 in
theorem tX5_findSet {ad : Nat → Nat} {X : sg_X} {N : Nat} {r : Int32 × sg_M} (C : sg_C Yc ad X cX5_findSet RX5 6 3) (E : sg_eI Yc ad X cX5_findSet .int r) : ∀ (a0_ : Nat) (a1_ : Nat) (x2_ : Int32) (a3_ : Nat) (M : sg_M), sg_K Yc a0_ 5 → sg_K Yc a1_ 4 → sg_K Yc a3_ 7 → fX5_findSet N a0_ a1_ x2_ a3_ M = some r → sg_T Yc ad X 6 0 [(0, .ref (ad a0_)), (1, .ref (ad a1_)), (2, .int x2_), (3, .ref (ad a3_))] [] M := by
  intro a0_ a1_ x2_ a3_ M hq0 hq1 hq3 h
  unfold fX5_findSet at h
  refine s_iconst C (-1 : Int32) dX5_findSet_0 (by decide) ?_
  refine z_gi h (fun x12 h => ?_)
  refine i_istore (lv9 := [(4, _), (0, _), (1, _), (2, _), (3, _)]) C dX5_findSet_1 (by decide) rfl ?_
  refine s_iconst C (0 : Int32) dX5_findSet_3 (by decide) ?_
  refine z_gi h (fun x13 h => ?_)
  refine i_istore (lv9 := [(5, _), (4, _), (0, _), (1, _), (2, _), (3, _)]) C dX5_findSet_4 (by decide) rfl ?_
  exact sg_T.to (tX5_findSet_6 C E _ _ h hq0 hq1 hq3) [2, 3, 4, 5, 1, 0] rfl
theorem ctX5_findSet {ad : Nat → Nat} {V : sg_V} {N : Nat} (hi : sg_inj Yc ad) {a0_ : Nat} {a1_ : Nat} {x2_ : Int32} {a3_ : Nat} {M : sg_M} (hq0 : sg_K Yc a0_ 5) (hq1 : sg_K Yc a1_ 4) (hq3 : sg_K Yc a3_ 7) : ∀ res, fX5_findSet N a0_ a1_ x2_ a3_ M = some res → sg_cI Yc ad V yX5_findSet cX5_findSet 6 .int 3 [.ref (ad a0_), .ref (ad a1_), .int x2_, .ref (ad a3_)] M res := fun res h => sg_bodyI (by decide) hi (Nat.le_of_ble_eq_true rfl) (fun X hX C E => by subst hX; exact tX5_findSet C E _ _ _ _  _ hq0 hq1 hq3 h)
def fX5_bestSet (N : Nat) (a0_ : Nat) (a1_ : Nat) (x2_ : Int32) (M : sg_M) : Option (Int32 × sg_M) :=
  if sg_ib x2_ (Yc.2.2.1 (Yc.2.2.2 a0_ 4)) = true then
  if (M.1 (Yc.2.2.2 a0_ 4) (x2_).toNatClampNeg) = 0 then (
  if sg_ib x2_ (Yc.2.2.1 (Yc.2.2.2 a0_ 4)) = true then
  sg_m (sg_uI M (Yc.2.2.2 a0_ 4) (x2_).toNatClampNeg (vp_nar .boolean (1 : Int32))) (fun M1 : sg_M =>
  if sg_ib x2_ (Yc.2.2.1 (Yc.2.2.2 a0_ 2)) = true then
  sg_b (fX5_findSet N a0_ a1_ x2_ (Yc.2.2.2 (Yc.2.2.2 a0_ 2) (x2_).toNatClampNeg) M1) (fun (x4 : Int32) (M3 : sg_M) =>
  if sg_ib x2_ (Yc.2.2.1 (Yc.2.2.2 a0_ 5)) = true then
  sg_m (sg_uI M3 (Yc.2.2.2 a0_ 5) (x2_).toNatClampNeg x4) (fun M5 : sg_M =>
  if sg_ib x2_ (Yc.2.2.1 (Yc.2.2.2 a0_ 5)) = true then
  some ((M5.1 (Yc.2.2.2 a0_ 5) (x2_).toNatClampNeg), M5)
  else none)
  else none)
  else none)
  else none) else (
  if sg_ib x2_ (Yc.2.2.1 (Yc.2.2.2 a0_ 5)) = true then
  some ((M.1 (Yc.2.2.2 a0_ 5) (x2_).toNatClampNeg), M)
  else none)
  else none
set_option maxHeartbeats 4000000 in
set_option maxRecDepth 100000 in
theorem tX5_bestSet {ad : Nat → Nat} {X : sg_X} {N : Nat} {r : Int32 × sg_M} (C : sg_C Yc ad X cX5_bestSet RX5 3 4) (E : sg_eI Yc ad X cX5_bestSet .int r) : ∀ (a0_ : Nat) (a1_ : Nat) (x2_ : Int32) (M : sg_M), sg_K Yc a0_ 5 → sg_K Yc a1_ 4 → fX5_bestSet N a0_ a1_ x2_ M = some r → sg_T Yc ad X 3 0 [(0, .ref (ad a0_)), (1, .ref (ad a1_)), (2, .int x2_)] [] M := by
  intro a0_ a1_ x2_ M hq0 hq1 h
  unfold fX5_bestSet at h
  refine i_aload_n C dX5_bestSet_0 0 rfl ?_
  refine gf5_29 C hq0 dX5_bestSet_1 ?_
  refine i_iload_n C dX5_bestSet_4 2 rfl ?_
  refine s_zald C (ky5_4 hq0) dX5_bestSet_5 h (fun h => ?_)
  refine s_if_ne C 34 (by decide) dX5_bestSet_6 h (fun _ h => ?_) (fun _ h => ?_)
  · refine i_aload_n C dX5_bestSet_9 0 rfl ?_
    refine gf5_29 C hq0 dX5_bestSet_10 ?_
    refine i_iload_n C dX5_bestSet_13 2 rfl ?_
    refine s_iconst C (1 : Int32) dX5_bestSet_14 (by decide) ?_
    refine s_zast C (ky5_4 hq0) dX5_bestSet_15 h (fun h => ?_)
    refine z_gM h (fun M1 h => ?_)
    refine i_aload_n C dX5_bestSet_16 0 rfl ?_
    refine gf5_33 C hq0 dX5_bestSet_17 ?_
    refine i_iload_n C dX5_bestSet_20 2 rfl ?_
    refine i_aload_n C dX5_bestSet_21 0 rfl ?_
    refine i_aload_n C dX5_bestSet_22 1 rfl ?_
    refine i_iload_n C dX5_bestSet_23 2 rfl ?_
    refine i_aload_n C dX5_bestSet_24 0 rfl ?_
    refine gf5_21 C hq0 dX5_bestSet_25 ?_
    refine i_iload_n C dX5_bestSet_28 2 rfl ?_
    have hb2 := (sg_if h).1
    refine s_aaldP C (ky5_2 hq0) dX5_bestSet_29 h (fun h => ?_)
    refine s_vcI C [_, _, _] vmX5_findSet lkX5_81 rfl rfl (by decide) hq0 (by decide) rfl rfl (Nat.le_of_ble_eq_true rfl) dX5_bestSet_30 (ctX5_findSet C.inj hq0 hq1 (ke17 (ky5_2 hq0) hb2)) h (fun x4 M3 h => ?_)
    refine s_iast C (ky5_5 hq0) dX5_bestSet_33 h (fun h => ?_)
    refine z_gM h (fun M5 h => ?_)
    refine i_aload_n C dX5_bestSet_34 0 rfl ?_
    refine gf5_33 C hq0 dX5_bestSet_35 ?_
    refine i_iload_n C dX5_bestSet_38 2 rfl ?_
    refine s_iald C (ky5_5 hq0) dX5_bestSet_39 h (fun h => ?_)
    exact s_iret C E dX5_bestSet_40 h
  · refine i_aload_n C dX5_bestSet_34 0 rfl ?_
    refine gf5_33 C hq0 dX5_bestSet_35 ?_
    refine i_iload_n C dX5_bestSet_38 2 rfl ?_
    refine s_iald C (ky5_5 hq0) dX5_bestSet_39 h (fun h => ?_)
    exact s_iret C E dX5_bestSet_40 h
theorem ctX5_bestSet {ad : Nat → Nat} {V : sg_V} {N : Nat} (hi : sg_inj Yc ad) {a0_ : Nat} {a1_ : Nat} {x2_ : Int32} {M : sg_M} (hq0 : sg_K Yc a0_ 5) (hq1 : sg_K Yc a1_ 4) : ∀ res, fX5_bestSet N a0_ a1_ x2_ M = some res → sg_cI Yc ad V yX5_bestSet cX5_bestSet 3 .int 4 [.ref (ad a0_), .ref (ad a1_), .int x2_] M res := fun res h => sg_bodyI (by decide) hi (Nat.le_of_ble_eq_true rfl) (fun X hX C E => by subst hX; exact tX5_bestSet C E _ _ _  _ hq0 hq1 h)
def fX8_forgetAll (N : Nat) (a0_ : Nat) (M : sg_M) : Option (sg_M) :=
  sg_m (sg_uI M a0_ 7 (0 : Int32)) (fun M1 : sg_M =>
  sg_m (sg_uI M1 a0_ 8 (0 : Int32)) (fun M2 : sg_M =>
  sg_m (sg_uI M2 a0_ 9 (0 : Int32)) (fun M3 : sg_M =>
  some M3)))
set_option maxHeartbeats 4000000 in
set_option maxRecDepth 100000 in
theorem tX8_forgetAll {ad : Nat → Nat} {X : sg_X} {N : Nat} {r : sg_M} (C : sg_C Yc ad X cX8_forgetAll RX8 1 0) (E : sg_eV Yc ad X cX8_forgetAll r) : ∀ (a0_ : Nat) (M : sg_M), sg_K Yc a0_ 8 → fX8_forgetAll N a0_ M = some r → sg_T Yc ad X 1 0 [(0, .ref (ad a0_))] [] M := by
  intro a0_ M hq0 h
  unfold fX8_forgetAll at h
  refine i_aload_n C dX8_forgetAll_0 0 rfl ?_
  refine s_iconst C (0 : Int32) dX8_forgetAll_1 (by decide) ?_
  refine pf8_35 C hq0 (by decide) dX8_forgetAll_2 ?_
  refine z_gM h (fun M1 h => ?_)
  refine i_aload_n C dX8_forgetAll_5 0 rfl ?_
  refine s_iconst C (0 : Int32) dX8_forgetAll_6 (by decide) ?_
  refine pf8_38 C hq0 (by decide) dX8_forgetAll_7 ?_
  refine z_gM h (fun M2 h => ?_)
  refine i_aload_n C dX8_forgetAll_10 0 rfl ?_
  refine s_iconst C (0 : Int32) dX8_forgetAll_11 (by decide) ?_
  refine pf8_41 C hq0 (by decide) dX8_forgetAll_12 ?_
  refine z_gM h (fun M3 h => ?_)
  exact s_vret C E dX8_forgetAll_15 h
theorem ctX8_forgetAll {ad : Nat → Nat} {V : sg_V} {N : Nat} (hi : sg_inj Yc ad) {a0_ : Nat} {M : sg_M} (hq0 : sg_K Yc a0_ 8) : ∀ res, fX8_forgetAll N a0_ M = some res → sg_cV Yc ad V yX8_forgetAll cX8_forgetAll 1 0 [.ref (ad a0_)] M res := fun res h => sg_bodyV (by decide) hi (Nat.le_of_ble_eq_true rfl) (fun X hX C E => by subst hX; exact tX8_forgetAll C E _  _ hq0 h)
def fX8_start (N : Nat) (a0_ : Nat) (a1_ : Nat) (M : sg_M) : Option (sg_M) :=
  if sg_cb (0 : Int32) (0 : Int32) (12 : Int32) (Yc.2.2.1 (Yc.2.2.2 a1_ 11)) (Yc.2.2.1 (Yc.2.2.2 a0_ 10)) = true then
  sg_m (sg_cpy M (Yc.2.2.2 a1_ 11) (Yc.2.2.2 a0_ 10) ((0 : Int32)).toNatClampNeg ((0 : Int32)).toNatClampNeg ((12 : Int32)).toNatClampNeg) (fun M1 : sg_M =>
  sg_bv (fX1_settle N (Yc.2.2.2 a0_ 13) a1_ (Yc.2.2.2 a0_ 10) (M1.1 a1_ 7) (Yc.2.2.2 a1_ 12) M1) (fun M2 : sg_M =>
  some M2))
  else none
set_option maxHeartbeats 4000000 in
set_option maxRecDepth 100000 in
theorem tX8_start {ad : Nat → Nat} {X : sg_X} {N : Nat} {r : sg_M} (C : sg_C Yc ad X cX8_start RX8 2 3) (E : sg_eV Yc ad X cX8_start r) : ∀ (a0_ : Nat) (a1_ : Nat) (M : sg_M), sg_K Yc a0_ 8 → sg_K Yc a1_ 4 → fX8_start N a0_ a1_ M = some r → sg_T Yc ad X 2 0 [(0, .ref (ad a0_)), (1, .ref (ad a1_))] [] M := by
  intro a0_ a1_ M hq0 hq1 h
  unfold fX8_start at h
  refine i_aload_n C dX8_start_0 1 rfl ?_
  refine gf8_98 C hq1 dX8_start_1 ?_
  refine s_iconst C (0 : Int32) dX8_start_4 (by decide) ?_
  refine i_aload_n C dX8_start_5 0 rfl ?_
  refine gf8_44 C hq0 dX8_start_6 ?_
  refine s_iconst C (0 : Int32) dX8_start_9 (by decide) ?_
  refine s_bipush C (12 : Int32) dX8_start_10 (by decide) ?_
  refine s_copy C (by decide) (ky4_11 hq1) (ky8_10 hq0) copy_X8_92 copy_1 copy_2 copy_3 (Nat.le_of_ble_eq_true rfl) dX8_start_12 h (fun h => ?_)
  refine z_gM h (fun M1 h => ?_)
  refine i_aload_n C dX8_start_15 0 rfl ?_
  refine gf8_60 C hq0 dX8_start_16 ?_
  refine i_aload_n C dX8_start_19 1 rfl ?_
  refine i_aload_n C dX8_start_20 0 rfl ?_
  refine gf8_44 C hq0 dX8_start_21 ?_
  refine i_aload_n C dX8_start_24 1 rfl ?_
  refine gf8_99 C hq1 dX8_start_25 ?_
  refine i_aload_n C dX8_start_28 1 rfl ?_
  refine gf8_102 C hq1 dX8_start_29 ?_
  refine s_vcV C [_, _, _, _] vmX1_settle lkX8_105 rfl rfl (by decide) (ky8_13 hq0) (by decide) rfl rfl (Nat.le_of_ble_eq_true rfl) dX8_start_32 (ctX1_settle C.inj (ky8_13 hq0) hq1 (ky8_10 hq0) (ky4_12 hq1)) h (fun M2 h => ?_)
  exact s_vret C E dX8_start_35 h
theorem ctX8_start {ad : Nat → Nat} {V : sg_V} {N : Nat} (hi : sg_inj Yc ad) {a0_ : Nat} {a1_ : Nat} {M : sg_M} (hq0 : sg_K Yc a0_ 8) (hq1 : sg_K Yc a1_ 4) : ∀ res, fX8_start N a0_ a1_ M = some res → sg_cV Yc ad V yX8_start cX8_start 2 3 [.ref (ad a0_), .ref (ad a1_)] M res := fun res h => sg_bodyV (by decide) hi (Nat.le_of_ble_eq_true rfl) (fun X hX C E => by subst hX; exact tX8_start C E _ _  _ hq0 hq1 h)
def gX8_bestChange_98 (N : Nat) (k5 : (Nat × Nat × Int32 × Int32 × Int32) → sg_M → Option (Int32 × sg_M)) (a0_ : Nat) (a1_ : Nat) (x2_ : Int32) (x4_ : Int32) (M : sg_M) : Option (Int32 × sg_M) :=
  sg_m x4_ (fun x1 : Int32 =>
  sg_bv (fX7_copyFrom N (Yc.2.2.2 a0_ 11) (Yc.2.2.2 (Yc.2.2.2 a0_ 13) 3) M) (fun M2 : sg_M =>
  sg_m (x4_ + (1 : Int32)) (fun x3 : Int32 =>
  k5 (a0_, a1_, x2_, x1, x3) M2)))
set_option maxHeartbeats 4000000 in
set_option maxRecDepth 100000 in
theorem tX8_bestChange_98 {ad : Nat → Nat} {X : sg_X} {N : Nat} {r : Int32 × sg_M} (C : sg_C Yc ad X cX8_bestChange RX8 6 3) (E : sg_eI Yc ad X cX8_bestChange .int r) {k5 : (Nat × Nat × Int32 × Int32 × Int32) → sg_M → Option (Int32 × sg_M)} (hk5 : ∀ (s : Nat × Nat × Int32 × Int32 × Int32) (M : sg_M), k5 s M = some r → sg_K Yc s.1 8 → sg_K Yc s.2.1 4 → sg_T Yc ad X 6 5 [(0, .ref (ad (s.1))), (1, .ref (ad (s.2.1))), (2, .int (s.2.2.1)), (3, .int (s.2.2.2.1)), (4, .int (s.2.2.2.2))] [] M) : ∀ (a0_ : Nat) (a1_ : Nat) (x2_ : Int32) (x4_ : Int32) (M : sg_M), gX8_bestChange_98 N k5 a0_ a1_ x2_ x4_ M = some r → sg_K Yc a0_ 8 → sg_K Yc a1_ 4 → sg_T Yc ad X 6 98 [(0, .ref (ad a0_)), (1, .ref (ad a1_)), (2, .int x2_), (4, .int x4_)] [] M := by
  intro a0_ a1_ x2_ x4_ M h hq0 hq1
  unfold gX8_bestChange_98 at h
  refine i_iload C dX8_bestChange_98 3 rfl ?_
  refine z_gi h (fun x1 h => ?_)
  refine i_istore_n (lv9 := [(3, _), (0, _), (1, _), (2, _), (4, _)]) C 3 dX8_bestChange_100 rfl (by decide) rfl ?_
  refine i_aload_n C dX8_bestChange_101 1 rfl ?_
  refine gf8_50 C hq0 dX8_bestChange_102 ?_
  refine i_aload_n C dX8_bestChange_105 1 rfl ?_
  refine gf8_60 C hq0 dX8_bestChange_106 ?_
  refine gf8_68 C (ky8_13 hq0) dX8_bestChange_109 ?_
  refine s_vcV C [_] vmX7_copyFrom lkX8_71 rfl rfl (by decide) (ky8_11 hq0) (by decide) rfl rfl (Nat.le_of_ble_eq_true rfl) dX8_bestChange_112 (ctX7_copyFrom C.inj (ky8_11 hq0) (ky1_3 (ky8_13 hq0))) h (fun M2 h => ?_)
  refine z_iinc (n := 1) (c9 := (1 : Int32)) (by decide) h (fun x3 hx h => ?_)
  refine i_iinc (lv9 := [(4, _), (3, _), (0, _), (1, _), (2, _)]) C dX8_bestChange_115 4 rfl hx (by decide) rfl ?_
  refine s_goto C 5 (by decide) dX8_bestChange_118 ?_
  exact sg_T.to (hk5 _ _ h hq0 hq1) [2, 3, 4, 1, 0] rfl
def bX8_bestChange_5 (N : Nat)  (k5 : (Nat × Nat × Int32 × Int32 × Int32) → sg_M → Option (Int32 × sg_M)) (s : Nat × Nat × Int32 × Int32 × Int32) (M : sg_M) : Option (Int32 × sg_M) :=
  if (M.1 s.2.1 6) ≤ s.2.2.2.2 then (
  some (s.2.2.2.1, M)) else (
  if sg_ib s.2.2.2.2 (Yc.2.2.1 (Yc.2.2.2 s.1 10)) = true then
  sg_m ((M.1 (Yc.2.2.2 s.1 10) (s.2.2.2.2).toNatClampNeg) + s.2.2.1) (fun x4 : Int32 =>
  if x4 < 0 then (
  sg_m (s.2.2.2.2 + (1 : Int32)) (fun x5 : Int32 =>
  k5 (s.1, s.2.1, s.2.2.1, s.2.2.2.1, x5) M)) else (
  if (4 : Int32) < x4 then (
  sg_m (s.2.2.2.2 + (1 : Int32)) (fun x6 : Int32 =>
  k5 (s.1, s.2.1, s.2.2.1, s.2.2.2.1, x6) M)) else (
  if sg_ib s.2.2.2.2 (Yc.2.2.1 (Yc.2.2.2 s.1 10)) = true then
  sg_m (sg_uI M (Yc.2.2.2 s.1 10) (s.2.2.2.2).toNatClampNeg x4) (fun M7 : sg_M =>
  sg_bv (fX1_settle N (Yc.2.2.2 s.1 13) s.2.1 (Yc.2.2.2 s.1 10) (M7.1 s.2.1 7) (Yc.2.2.2 s.2.1 12) M7) (fun M8 : sg_M =>
  if sg_ib s.2.2.2.2 (Yc.2.2.1 (Yc.2.2.2 s.1 10)) = true then
  sg_m (sg_uI M8 (Yc.2.2.2 s.1 10) (s.2.2.2.2).toNatClampNeg (x4 - s.2.2.1)) (fun M9 : sg_M =>
  if s.2.2.2.1 = (-1 : Int32) then (
  gX8_bestChange_98 N k5 s.1 s.2.1 s.2.2.1 s.2.2.2.2 M9) else (
  sg_b (fX7_isBetterThan N (Yc.2.2.2 (Yc.2.2.2 s.1 13) 3) (Yc.2.2.2 s.1 11) M9) (fun (x11 : Int32) (M10 : sg_M) =>
  if x11 = 0 then (
  sg_m (s.2.2.2.2 + (1 : Int32)) (fun x12 : Int32 =>
  k5 (s.1, s.2.1, s.2.2.1, s.2.2.2.1, x12) M10)) else (
  gX8_bestChange_98 N k5 s.1 s.2.1 s.2.2.1 s.2.2.2.2 M10))))
  else none))
  else none)))
  else none)
def gX8_bestChange_5 (N : Nat)  : (Nat × Nat × Int32 × Int32 × Int32) → sg_M → Option (Int32 × sg_M) := sg_lp (bX8_bestChange_5 N ) N
set_option maxHeartbeats 4000000 in
set_option maxRecDepth 100000 in
theorem tX8_bestChange_5 {ad : Nat → Nat} {X : sg_X} {N : Nat} {r : Int32 × sg_M} (C : sg_C Yc ad X cX8_bestChange RX8 6 3) (E : sg_eI Yc ad X cX8_bestChange .int r)  : ∀ (s : Nat × Nat × Int32 × Int32 × Int32) (M : sg_M), gX8_bestChange_5 N s M = some r → sg_K Yc s.1 8 → sg_K Yc s.2.1 4 → sg_T Yc ad X 6 5 [(0, .ref (ad (s.1))), (1, .ref (ad (s.2.1))), (2, .int (s.2.2.1)), (3, .int (s.2.2.2.1)), (4, .int (s.2.2.2.2))] [] M := by
  have key : ∀ n : Nat, ∀ (s : Nat × Nat × Int32 × Int32 × Int32) (M : sg_M), sg_lp (bX8_bestChange_5 N) n s M = some r → sg_K Yc s.1 8 → sg_K Yc s.2.1 4 → sg_T Yc ad X 6 5 [(0, .ref (ad (s.1))), (1, .ref (ad (s.2.1))), (2, .int (s.2.2.1)), (3, .int (s.2.2.2.1)), (4, .int (s.2.2.2.2))] [] M := by
    intro n
    induction n with
    | zero => intro s M h; cases h
    | succ n ih =>
      intro s M h hq0 hq1
      have h : bX8_bestChange_5 N (sg_lp (bX8_bestChange_5 N) n) s M = some r := h
      generalize sg_lp (bX8_bestChange_5 N) n = k5 at h ih
      have hk5 := ih
      unfold bX8_bestChange_5 at h
      refine i_iload C dX8_bestChange_5 4 rfl ?_
      refine i_aload_n C dX8_bestChange_7 1 rfl ?_
      refine gf8_109 C hq1 dX8_bestChange_8 ?_
      refine s_icmp_ge C 121 (by decide) dX8_bestChange_11 h (fun _ h => ?_) (fun _ h => ?_)
      · refine i_iload_n C dX8_bestChange_121 3 rfl ?_
        exact s_iret C E dX8_bestChange_122 h
      · refine i_aload_n C dX8_bestChange_14 0 rfl ?_
        refine gf8_44 C hq0 dX8_bestChange_15 ?_
        refine i_iload C dX8_bestChange_18 4 rfl ?_
        refine s_iald C (ky8_10 hq0) dX8_bestChange_20 h (fun h => ?_)
        refine i_iload_n C dX8_bestChange_21 2 rfl ?_
        refine s_iadd C dX8_bestChange_22 ?_
        refine z_gi h (fun x4 h => ?_)
        refine i_istore (lv9 := [(5, _), (0, _), (1, _), (2, _), (3, _), (4, _)]) C dX8_bestChange_23 (by decide) rfl ?_
        refine i_iload C dX8_bestChange_25 0 rfl ?_
        refine s_if_lt C 115 (by decide) dX8_bestChange_27 h (fun _ h => ?_) (fun _ h => ?_)
        · refine z_iinc (n := 1) (c9 := (1 : Int32)) (by decide) h (fun x5 hx h => ?_)
          refine i_iinc (lv9 := [(4, _), (5, _), (0, _), (1, _), (2, _), (3, _)]) C dX8_bestChange_115 5 rfl hx (by decide) rfl ?_
          refine s_goto C 5 (by decide) dX8_bestChange_118 ?_
          exact sg_T.to (hk5 _ _ h hq0 hq1) [2, 3, 4, 5, 0] rfl
        · refine i_iload C dX8_bestChange_30 0 rfl ?_
          refine s_iconst C (4 : Int32) dX8_bestChange_32 (by decide) ?_
          refine s_icmp_gt C 115 (by decide) dX8_bestChange_33 h (fun _ h => ?_) (fun _ h => ?_)
          · refine z_iinc (n := 1) (c9 := (1 : Int32)) (by decide) h (fun x6 hx h => ?_)
            refine i_iinc (lv9 := [(4, _), (5, _), (0, _), (1, _), (2, _), (3, _)]) C dX8_bestChange_115 5 rfl hx (by decide) rfl ?_
            refine s_goto C 5 (by decide) dX8_bestChange_118 ?_
            exact sg_T.to (hk5 _ _ h hq0 hq1) [2, 3, 4, 5, 0] rfl
          · refine i_aload_n C dX8_bestChange_36 1 rfl ?_
            refine gf8_44 C hq0 dX8_bestChange_37 ?_
            refine i_iload C dX8_bestChange_40 5 rfl ?_
            refine i_iload C dX8_bestChange_42 0 rfl ?_
            refine s_iast C (ky8_10 hq0) dX8_bestChange_44 h (fun h => ?_)
            refine z_gM h (fun M7 h => ?_)
            refine i_aload_n C dX8_bestChange_45 1 rfl ?_
            refine gf8_60 C hq0 dX8_bestChange_46 ?_
            refine i_aload_n C dX8_bestChange_49 2 rfl ?_
            refine i_aload_n C dX8_bestChange_50 1 rfl ?_
            refine gf8_44 C hq0 dX8_bestChange_51 ?_
            refine i_aload_n C dX8_bestChange_54 2 rfl ?_
            refine gf8_99 C hq1 dX8_bestChange_55 ?_
            refine i_aload_n C dX8_bestChange_58 2 rfl ?_
            refine gf8_102 C hq1 dX8_bestChange_59 ?_
            refine s_vcV C [_, _, _, _] vmX1_settle lkX8_105 rfl rfl (by decide) (ky8_13 hq0) (by decide) rfl rfl (Nat.le_of_ble_eq_true rfl) dX8_bestChange_62 (ctX1_settle C.inj (ky8_13 hq0) hq1 (ky8_10 hq0) (ky4_12 hq1)) h (fun M8 h => ?_)
            refine i_aload_n C dX8_bestChange_65 1 rfl ?_
            refine gf8_44 C hq0 dX8_bestChange_66 ?_
            refine i_iload C dX8_bestChange_69 5 rfl ?_
            refine i_iload C dX8_bestChange_71 0 rfl ?_
            refine i_iload_n C dX8_bestChange_73 3 rfl ?_
            refine s_isub C dX8_bestChange_74 ?_
            refine s_iast C (ky8_10 hq0) dX8_bestChange_75 h (fun h => ?_)
            refine z_gM h (fun M9 h => ?_)
            refine i_iload_n C dX8_bestChange_76 4 rfl ?_
            refine s_iconst C (-1 : Int32) dX8_bestChange_77 (by decide) ?_
            refine s_icmp_eq C 98 (by decide) dX8_bestChange_78 h (fun _ h => ?_) (fun _ h => ?_)
            · exact sg_T.to (tX8_bestChange_98 C E hk5 _ _ _ _ _ h hq0 hq1) [1, 2, 3, 5] rfl
            · refine i_aload_n C dX8_bestChange_81 1 rfl ?_
              refine gf8_60 C hq0 dX8_bestChange_82 ?_
              refine gf8_68 C (ky8_13 hq0) dX8_bestChange_85 ?_
              refine i_aload_n C dX8_bestChange_88 1 rfl ?_
              refine gf8_50 C hq0 dX8_bestChange_89 ?_
              refine s_vcI C [_] vmX7_isBetterThan lkX8_88 rfl rfl (by decide) (ky1_3 (ky8_13 hq0)) (by decide) rfl rfl (Nat.le_of_ble_eq_true rfl) dX8_bestChange_92 (ctX7_isBetterThan C.inj (ky1_3 (ky8_13 hq0)) (ky8_11 hq0)) h (fun x11 M10 h => ?_)
              refine s_if_eq C 115 (by decide) dX8_bestChange_95 h (fun _ h => ?_) (fun _ h => ?_)
              · refine z_iinc (n := 1) (c9 := (1 : Int32)) (by decide) h (fun x12 hx h => ?_)
                refine i_iinc (lv9 := [(4, _), (5, _), (0, _), (1, _), (2, _), (3, _)]) C dX8_bestChange_115 5 rfl hx (by decide) rfl ?_
                refine s_goto C 5 (by decide) dX8_bestChange_118 ?_
                exact sg_T.to (hk5 _ _ h hq0 hq1) [2, 3, 4, 5, 0] rfl
              · exact sg_T.to (tX8_bestChange_98 C E hk5 _ _ _ _ _ h hq0 hq1) [1, 2, 3, 5] rfl
  exact key N
def fX8_bestChange (N : Nat) (a0_ : Nat) (a1_ : Nat) (x2_ : Int32) (M : sg_M) : Option (Int32 × sg_M) :=
  sg_m (-1 : Int32) (fun x13 : Int32 =>
  sg_m (0 : Int32) (fun x14 : Int32 =>
  gX8_bestChange_5 N (a0_, a1_, x2_, x13, x14) M))
set_option maxHeartbeats 4000000 in
set_option maxRecDepth 100000 in
theorem tX8_bestChange {ad : Nat → Nat} {X : sg_X} {N : Nat} {r : Int32 × sg_M} (C : sg_C Yc ad X cX8_bestChange RX8 6 3) (E : sg_eI Yc ad X cX8_bestChange .int r) : ∀ (a0_ : Nat) (a1_ : Nat) (x2_ : Int32) (M : sg_M), sg_K Yc a0_ 8 → sg_K Yc a1_ 4 → fX8_bestChange N a0_ a1_ x2_ M = some r → sg_T Yc ad X 6 0 [(0, .ref (ad a0_)), (1, .ref (ad a1_)), (2, .int x2_)] [] M := by
  intro a0_ a1_ x2_ M hq0 hq1 h
  unfold fX8_bestChange at h
  refine s_iconst C (-1 : Int32) dX8_bestChange_0 (by decide) ?_
  refine z_gi h (fun x13 h => ?_)
  refine i_istore_n (lv9 := [(3, _), (0, _), (1, _), (2, _)]) C 3 dX8_bestChange_1 rfl (by decide) rfl ?_
  refine s_iconst C (0 : Int32) dX8_bestChange_2 (by decide) ?_
  refine z_gi h (fun x14 h => ?_)
  refine i_istore (lv9 := [(4, _), (3, _), (0, _), (1, _), (2, _)]) C dX8_bestChange_3 (by decide) rfl ?_
  exact sg_T.to (tX8_bestChange_5 C E _ _ h hq0 hq1) [2, 3, 4, 1, 0] rfl
theorem ctX8_bestChange {ad : Nat → Nat} {V : sg_V} {N : Nat} (hi : sg_inj Yc ad) {a0_ : Nat} {a1_ : Nat} {x2_ : Int32} {M : sg_M} (hq0 : sg_K Yc a0_ 8) (hq1 : sg_K Yc a1_ 4) : ∀ res, fX8_bestChange N a0_ a1_ x2_ M = some res → sg_cI Yc ad V yX8_bestChange cX8_bestChange 6 .int 3 [.ref (ad a0_), .ref (ad a1_), .int x2_] M res := fun res h => sg_bodyI (by decide) hi (Nat.le_of_ble_eq_true rfl) (fun X hX C E => by subst hX; exact tX8_bestChange C E _ _ _  _ hq0 hq1 h)
def gX8_lookGreedy_135 (N : Nat)  (a0_ : Nat) (a1_ : Nat) (M : sg_M) : Option (sg_M) :=
  sg_b (fX7_isWithin N (Yc.2.2.2 a0_ 12) (M.1 a1_ 2) M) (fun (x2 : Int32) (M1 : sg_M) =>
  if sg_bz x2 = true then
  sg_m (sg_uI M1 a0_ 1 x2) (fun M3 : sg_M =>
  some M3)
  else none)
set_option maxHeartbeats 4000000 in
set_option maxRecDepth 100000 in
theorem tX8_lookGreedy_135 {ad : Nat → Nat} {X : sg_X} {N : Nat} {r : sg_M} (C : sg_C Yc ad X cX8_lookGreedy RX8 4 4) (E : sg_eV Yc ad X cX8_lookGreedy r)  : ∀ (a0_ : Nat) (a1_ : Nat) (M : sg_M), gX8_lookGreedy_135 N a0_ a1_ M = some r → sg_K Yc a0_ 8 → sg_K Yc a1_ 4 → sg_T Yc ad X 4 135 [(0, .ref (ad a0_)), (1, .ref (ad a1_))] [] M := by
  intro a0_ a1_ M h hq0 hq1
  unfold gX8_lookGreedy_135 at h
  refine i_aload_n C dX8_lookGreedy_135 0 rfl ?_
  refine i_aload_n C dX8_lookGreedy_136 0 rfl ?_
  refine gf8_54 C hq0 dX8_lookGreedy_137 ?_
  refine i_aload_n C dX8_lookGreedy_140 1 rfl ?_
  refine gf8_75 C hq1 dX8_lookGreedy_141 ?_
  refine s_vcI C [_] vmX7_isWithin lkX8_80 rfl rfl (by decide) (ky8_12 hq0) (by decide) rfl rfl (Nat.le_of_ble_eq_true rfl) dX8_lookGreedy_144 (ctX7_isWithin C.inj (ky8_12 hq0)) h (fun x2 M1 h => ?_)
  obtain ⟨hz, h⟩ := z_bz h
  refine pf8_15 C hq0 hz dX8_lookGreedy_147 ?_
  refine z_gM h (fun M3 h => ?_)
  exact s_vret C E dX8_lookGreedy_150 h
def bX8_lookGreedy_39 (N : Nat)  (k39 : (Nat × Nat × Int32) → sg_M → Option (sg_M)) (s : Nat × Nat × Int32) (M : sg_M) : Option (sg_M) :=
  if (20 : Int32) ≤ s.2.2 then (
  gX8_lookGreedy_135 N s.1 s.2.1 M) else (
  sg_b (fX7_isWithin N (Yc.2.2.2 s.1 12) (M.1 s.2.1 2) M) (fun (x5 : Int32) (M4 : sg_M) =>
  if x5 = 0 then (
  sg_b (fX8_bestChange N s.1 s.2.1 (1 : Int32) M4) (fun (x7 : Int32) (M6 : sg_M) =>
  sg_m x7 (fun x8 : Int32 =>
  if x8 = (-1 : Int32) then (
  gX8_lookGreedy_135 N s.1 s.2.1 M6) else (
  sg_b (fX7_isBetterThan N (Yc.2.2.2 s.1 11) (Yc.2.2.2 s.1 12) M6) (fun (x10 : Int32) (M9 : sg_M) =>
  if x10 = 0 then (
  gX8_lookGreedy_135 N s.1 s.2.1 M9) else (
  if sg_ib x8 (Yc.2.2.1 (Yc.2.2.2 s.1 10)) = true then
  if sg_ib x8 (Yc.2.2.1 (Yc.2.2.2 s.1 10)) = true then
  sg_m (sg_uI M9 (Yc.2.2.2 s.1 10) (x8).toNatClampNeg ((M9.1 (Yc.2.2.2 s.1 10) (x8).toNatClampNeg) + (1 : Int32))) (fun M11 : sg_M =>
  sg_bv (fX7_copyFrom N (Yc.2.2.2 s.1 12) (Yc.2.2.2 s.1 11) M11) (fun M12 : sg_M =>
  if sg_ib (M12.1 s.1 0) (Yc.2.2.1 (Yc.2.2.2 s.1 2)) = true then
  sg_m (sg_uI M12 (Yc.2.2.2 s.1 2) ((M12.1 s.1 0)).toNatClampNeg x8) (fun M13 : sg_M =>
  sg_m (sg_uI M13 s.1 0 ((M13.1 s.1 0) + (1 : Int32))) (fun M14 : sg_M =>
  sg_m (s.2.2 + (1 : Int32)) (fun x15 : Int32 =>
  k39 (s.1, s.2.1, x15) M14)))
  else none))
  else none
  else none)))))) else (
  gX8_lookGreedy_135 N s.1 s.2.1 M4)))
def gX8_lookGreedy_39 (N : Nat)  : (Nat × Nat × Int32) → sg_M → Option (sg_M) := sg_lp (bX8_lookGreedy_39 N ) N
set_option maxHeartbeats 4000000 in
set_option maxRecDepth 100000 in
theorem tX8_lookGreedy_39 {ad : Nat → Nat} {X : sg_X} {N : Nat} {r : sg_M} (C : sg_C Yc ad X cX8_lookGreedy RX8 4 4) (E : sg_eV Yc ad X cX8_lookGreedy r)  : ∀ (s : Nat × Nat × Int32) (M : sg_M), gX8_lookGreedy_39 N s M = some r → sg_K Yc s.1 8 → sg_K Yc s.2.1 4 → sg_T Yc ad X 4 39 [(0, .ref (ad (s.1))), (1, .ref (ad (s.2.1))), (2, .int (s.2.2))] [] M := by
  have key : ∀ n : Nat, ∀ (s : Nat × Nat × Int32) (M : sg_M), sg_lp (bX8_lookGreedy_39 N) n s M = some r → sg_K Yc s.1 8 → sg_K Yc s.2.1 4 → sg_T Yc ad X 4 39 [(0, .ref (ad (s.1))), (1, .ref (ad (s.2.1))), (2, .int (s.2.2))] [] M := by
    intro n
    induction n with
    | zero => intro s M h; cases h
    | succ n ih =>
      intro s M h hq0 hq1
      have h : bX8_lookGreedy_39 N (sg_lp (bX8_lookGreedy_39 N) n) s M = some r := h
      generalize sg_lp (bX8_lookGreedy_39 N) n = k39 at h ih
      have hk39 := ih
      unfold bX8_lookGreedy_39 at h
      refine i_iload_n C dX8_lookGreedy_39 2 rfl ?_
      refine s_bipush C (20 : Int32) dX8_lookGreedy_40 (by decide) ?_
      refine s_icmp_ge C 135 (by decide) dX8_lookGreedy_42 h (fun _ h => ?_) (fun _ h => ?_)
      · exact sg_T.to (tX8_lookGreedy_135 C E _ _ _ h hq0 hq1) [0, 1] rfl
      · refine i_aload_n C dX8_lookGreedy_45 0 rfl ?_
        refine gf8_54 C hq0 dX8_lookGreedy_46 ?_
        refine i_aload_n C dX8_lookGreedy_49 1 rfl ?_
        refine gf8_75 C hq1 dX8_lookGreedy_50 ?_
        refine s_vcI C [_] vmX7_isWithin lkX8_80 rfl rfl (by decide) (ky8_12 hq0) (by decide) rfl rfl (Nat.le_of_ble_eq_true rfl) dX8_lookGreedy_53 (ctX7_isWithin C.inj (ky8_12 hq0)) h (fun x5 M4 h => ?_)
        refine s_if_ne C 135 (by decide) dX8_lookGreedy_56 h (fun _ h => ?_) (fun _ h => ?_)
        · refine i_aload_n C dX8_lookGreedy_59 0 rfl ?_
          refine i_aload_n C dX8_lookGreedy_60 1 rfl ?_
          refine s_iconst C (1 : Int32) dX8_lookGreedy_61 (by decide) ?_
          refine s_vcI C [_, _] vmX8_bestChange lkX8_84 rfl rfl (by decide) hq0 (by decide) rfl rfl (Nat.le_of_ble_eq_true rfl) dX8_lookGreedy_62 (ctX8_bestChange C.inj hq0 hq1) h (fun x7 M6 h => ?_)
          refine z_gi h (fun x8 h => ?_)
          refine i_istore_n (lv9 := [(3, _), (0, _), (1, _), (2, _)]) C 3 dX8_lookGreedy_65 rfl (by decide) rfl ?_
          refine i_iload_n C dX8_lookGreedy_66 0 rfl ?_
          refine s_iconst C (-1 : Int32) dX8_lookGreedy_67 (by decide) ?_
          refine s_icmp_eq C 135 (by decide) dX8_lookGreedy_68 h (fun _ h => ?_) (fun _ h => ?_)
          · exact sg_T.to (tX8_lookGreedy_135 C E _ _ _ h hq0 hq1) [1, 2] rfl
          · refine i_aload_n C dX8_lookGreedy_71 1 rfl ?_
            refine gf8_50 C hq0 dX8_lookGreedy_72 ?_
            refine i_aload_n C dX8_lookGreedy_75 1 rfl ?_
            refine gf8_54 C hq0 dX8_lookGreedy_76 ?_
            refine s_vcI C [_] vmX7_isBetterThan lkX8_88 rfl rfl (by decide) (ky8_11 hq0) (by decide) rfl rfl (Nat.le_of_ble_eq_true rfl) dX8_lookGreedy_79 (ctX7_isBetterThan C.inj (ky8_11 hq0) (ky8_12 hq0)) h (fun x10 M9 h => ?_)
            refine s_if_ne C 88 (by decide) dX8_lookGreedy_82 h (fun _ h => ?_) (fun _ h => ?_)
            · refine s_goto C 135 (by decide) dX8_lookGreedy_85 ?_
              exact sg_T.to (tX8_lookGreedy_135 C E _ _ _ h hq0 hq1) [1, 2] rfl
            · refine i_aload_n C dX8_lookGreedy_88 1 rfl ?_
              refine gf8_44 C hq0 dX8_lookGreedy_89 ?_
              refine i_iload_n C dX8_lookGreedy_92 0 rfl ?_
              refine s_dup2 C dX8_lookGreedy_93 rfl rfl ?_
              refine s_iald C (ky8_10 hq0) dX8_lookGreedy_94 h (fun h => ?_)
              refine s_iconst C (1 : Int32) dX8_lookGreedy_95 (by decide) ?_
              refine s_iadd C dX8_lookGreedy_96 ?_
              refine s_iast C (ky8_10 hq0) dX8_lookGreedy_97 h (fun h => ?_)
              refine z_gM h (fun M11 h => ?_)
              refine i_aload_n C dX8_lookGreedy_98 1 rfl ?_
              refine gf8_54 C hq0 dX8_lookGreedy_99 ?_
              refine i_aload_n C dX8_lookGreedy_102 1 rfl ?_
              refine gf8_50 C hq0 dX8_lookGreedy_103 ?_
              refine s_vcV C [_] vmX7_copyFrom lkX8_71 rfl rfl (by decide) (ky8_12 hq0) (by decide) rfl rfl (Nat.le_of_ble_eq_true rfl) dX8_lookGreedy_106 (ctX7_copyFrom C.inj (ky8_12 hq0) (ky8_11 hq0)) h (fun M12 h => ?_)
              refine i_aload_n C dX8_lookGreedy_109 1 rfl ?_
              refine gf8_19 C hq0 dX8_lookGreedy_110 ?_
              refine i_aload_n C dX8_lookGreedy_113 1 rfl ?_
              refine gf8_9 C hq0 dX8_lookGreedy_114 ?_
              refine i_iload_n C dX8_lookGreedy_117 0 rfl ?_
              refine s_iast C (ky8_2 hq0) dX8_lookGreedy_118 h (fun h => ?_)
              refine z_gM h (fun M13 h => ?_)
              refine i_aload_n C dX8_lookGreedy_119 1 rfl ?_
              refine s_dup C dX8_lookGreedy_120 rfl ?_
              refine gf8_9 C hq0 dX8_lookGreedy_121 ?_
              refine s_iconst C (1 : Int32) dX8_lookGreedy_124 (by decide) ?_
              refine s_iadd C dX8_lookGreedy_125 ?_
              refine pf8_9 C hq0 dX8_lookGreedy_126 ?_
              refine z_gM h (fun M14 h => ?_)
              refine z_iinc (n := 1) (c9 := (1 : Int32)) (by decide) h (fun x15 hx h => ?_)
              refine i_iinc (lv9 := [(2, _), (3, _), (0, _), (1, _)]) C dX8_lookGreedy_129 3 rfl hx (by decide) rfl ?_
              refine s_goto C 39 (by decide) dX8_lookGreedy_132 ?_
              exact sg_T.to (hk39 _ _ h hq0 hq1) [2, 3, 0] rfl
        · exact sg_T.to (tX8_lookGreedy_135 C E _ _ _ h hq0 hq1) [0, 1] rfl
  exact key N
def fX8_lookGreedy (N : Nat) (a0_ : Nat) (a1_ : Nat) (M : sg_M) : Option (sg_M) :=
  if (M.1 a0_ 7) = 0 then (
  sg_m (sg_uI M a0_ 7 (1 : Int32)) (fun M16 : sg_M =>
  sg_m (sg_uI M16 a0_ 0 (0 : Int32)) (fun M17 : sg_M =>
  sg_bv (fX8_start N a0_ a1_ M17) (fun M18 : sg_M =>
  sg_bv (fX7_copyFrom N (Yc.2.2.2 a0_ 12) (Yc.2.2.2 (Yc.2.2.2 a0_ 13) 3) M18) (fun M19 : sg_M =>
  sg_m (0 : Int32) (fun x20 : Int32 =>
  gX8_lookGreedy_39 N (a0_, a1_, x20) M19)))))) else (
  some M)
set_option maxHeartbeats 4000000 in
set_option maxRecDepth 100000 in
theorem tX8_lookGreedy {ad : Nat → Nat} {X : sg_X} {N : Nat} {r : sg_M} (C : sg_C Yc ad X cX8_lookGreedy RX8 4 4) (E : sg_eV Yc ad X cX8_lookGreedy r) : ∀ (a0_ : Nat) (a1_ : Nat) (M : sg_M), sg_K Yc a0_ 8 → sg_K Yc a1_ 4 → fX8_lookGreedy N a0_ a1_ M = some r → sg_T Yc ad X 4 0 [(0, .ref (ad a0_)), (1, .ref (ad a1_))] [] M := by
  intro a0_ a1_ M hq0 hq1 h
  unfold fX8_lookGreedy at h
  refine i_aload_n C dX8_lookGreedy_0 0 rfl ?_
  refine gf8_35 C hq0 dX8_lookGreedy_1 ?_
  refine s_if_eq C 8 (by decide) dX8_lookGreedy_4 h (fun _ h => ?_) (fun _ h => ?_)
  · refine i_aload_n C dX8_lookGreedy_8 0 rfl ?_
    refine s_iconst C (1 : Int32) dX8_lookGreedy_9 (by decide) ?_
    refine pf8_35 C hq0 (by decide) dX8_lookGreedy_10 ?_
    refine z_gM h (fun M16 h => ?_)
    refine i_aload_n C dX8_lookGreedy_13 0 rfl ?_
    refine s_iconst C (0 : Int32) dX8_lookGreedy_14 (by decide) ?_
    refine pf8_9 C hq0 dX8_lookGreedy_15 ?_
    refine z_gM h (fun M17 h => ?_)
    refine i_aload_n C dX8_lookGreedy_18 0 rfl ?_
    refine i_aload_n C dX8_lookGreedy_19 1 rfl ?_
    refine s_vcV C [_] vmX8_start lkX8_64 rfl rfl (by decide) hq0 (by decide) rfl rfl (Nat.le_of_ble_eq_true rfl) dX8_lookGreedy_20 (ctX8_start C.inj hq0 hq1) h (fun M18 h => ?_)
    refine i_aload_n C dX8_lookGreedy_23 0 rfl ?_
    refine gf8_54 C hq0 dX8_lookGreedy_24 ?_
    refine i_aload_n C dX8_lookGreedy_27 0 rfl ?_
    refine gf8_60 C hq0 dX8_lookGreedy_28 ?_
    refine gf8_68 C (ky8_13 hq0) dX8_lookGreedy_31 ?_
    refine s_vcV C [_] vmX7_copyFrom lkX8_71 rfl rfl (by decide) (ky8_12 hq0) (by decide) rfl rfl (Nat.le_of_ble_eq_true rfl) dX8_lookGreedy_34 (ctX7_copyFrom C.inj (ky8_12 hq0) (ky1_3 (ky8_13 hq0))) h (fun M19 h => ?_)
    refine s_iconst C (0 : Int32) dX8_lookGreedy_37 (by decide) ?_
    refine z_gi h (fun x20 h => ?_)
    refine i_istore_n (lv9 := [(2, _), (0, _), (1, _)]) C 2 dX8_lookGreedy_38 rfl (by decide) rfl ?_
    exact sg_T.to (tX8_lookGreedy_39 C E _ _ h hq0 hq1) [1, 2, 0] rfl
  · exact s_vret C E dX8_lookGreedy_7 h
theorem ctX8_lookGreedy {ad : Nat → Nat} {V : sg_V} {N : Nat} (hi : sg_inj Yc ad) {a0_ : Nat} {a1_ : Nat} {M : sg_M} (hq0 : sg_K Yc a0_ 8) (hq1 : sg_K Yc a1_ 4) : ∀ res, fX8_lookGreedy N a0_ a1_ M = some res → sg_cV Yc ad V yX8_lookGreedy cX8_lookGreedy 4 4 [.ref (ad a0_), .ref (ad a1_)] M res := fun res h => sg_bodyV (by decide) hi (Nat.le_of_ble_eq_true rfl) (fun X hX C E => by subst hX; exact tX8_lookGreedy C E _ _  _ hq0 hq1 h)
def gX8_lookSlim_109 (N : Nat)  (a0_ : Nat) (M : sg_M) : Option (sg_M) :=
  if sg_cb (0 : Int32) (0 : Int32) (12 : Int32) (Yc.2.2.1 (Yc.2.2.2 a0_ 10)) (Yc.2.2.1 (Yc.2.2.2 a0_ 6)) = true then
  sg_m (sg_cpy M (Yc.2.2.2 a0_ 10) (Yc.2.2.2 a0_ 6) ((0 : Int32)).toNatClampNeg ((0 : Int32)).toNatClampNeg ((12 : Int32)).toNatClampNeg) (fun M1 : sg_M =>
  some M1)
  else none
set_option maxHeartbeats 4000000 in
set_option maxRecDepth 100000 in
theorem tX8_lookSlim_109 {ad : Nat → Nat} {X : sg_X} {N : Nat} {r : sg_M} (C : sg_C Yc ad X cX8_lookSlim RX8 4 4) (E : sg_eV Yc ad X cX8_lookSlim r)  : ∀ (a0_ : Nat) (M : sg_M), gX8_lookSlim_109 N a0_ M = some r → sg_K Yc a0_ 8 → sg_T Yc ad X 4 109 [(0, .ref (ad a0_))] [] M := by
  intro a0_ M h hq0
  unfold gX8_lookSlim_109 at h
  refine i_aload_n C dX8_lookSlim_109 0 rfl ?_
  refine gf8_44 C hq0 dX8_lookSlim_110 ?_
  refine s_iconst C (0 : Int32) dX8_lookSlim_113 (by decide) ?_
  refine i_aload_n C dX8_lookSlim_114 0 rfl ?_
  refine gf8_32 C hq0 dX8_lookSlim_115 ?_
  refine s_iconst C (0 : Int32) dX8_lookSlim_118 (by decide) ?_
  refine s_bipush C (12 : Int32) dX8_lookSlim_119 (by decide) ?_
  refine s_copy C (by decide) (ky8_10 hq0) (ky8_6 hq0) copy_X8_92 copy_1 copy_2 copy_3 (Nat.le_of_ble_eq_true rfl) dX8_lookSlim_121 h (fun h => ?_)
  refine z_gM h (fun M1 h => ?_)
  exact s_vret C E dX8_lookSlim_124 h
def bX8_lookSlim_48 (N : Nat)  (k48 : (Nat × Nat × Int32) → sg_M → Option (sg_M)) (s : Nat × Nat × Int32) (M : sg_M) : Option (sg_M) :=
  if (48 : Int32) ≤ s.2.2 then (
  gX8_lookSlim_109 N s.1 M) else (
  sg_b (fX8_bestChange N s.1 s.2.1 (-1 : Int32) M) (fun (x3 : Int32) (M2 : sg_M) =>
  sg_m x3 (fun x4 : Int32 =>
  if x4 = (-1 : Int32) then (
  gX8_lookSlim_109 N s.1 M2) else (
  sg_b (fX7_isWithin N (Yc.2.2.2 s.1 11) (M2.1 s.2.1 2) M2) (fun (x6 : Int32) (M5 : sg_M) =>
  if x6 = 0 then (
  gX8_lookSlim_109 N s.1 M5) else (
  if sg_ib x4 (Yc.2.2.1 (Yc.2.2.2 s.1 10)) = true then
  if sg_ib x4 (Yc.2.2.1 (Yc.2.2.2 s.1 10)) = true then
  sg_m (sg_uI M5 (Yc.2.2.2 s.1 10) (x4).toNatClampNeg ((M5.1 (Yc.2.2.2 s.1 10) (x4).toNatClampNeg) - (1 : Int32))) (fun M7 : sg_M =>
  sg_m (sg_uI M7 s.1 5 ((M7.1 s.1 5) + (1 : Int32))) (fun M8 : sg_M =>
  sg_m (s.2.2 + (1 : Int32)) (fun x9 : Int32 =>
  k48 (s.1, s.2.1, x9) M8)))
  else none
  else none))))))
def gX8_lookSlim_48 (N : Nat)  : (Nat × Nat × Int32) → sg_M → Option (sg_M) := sg_lp (bX8_lookSlim_48 N ) N
set_option maxHeartbeats 4000000 in
set_option maxRecDepth 100000 in
theorem tX8_lookSlim_48 {ad : Nat → Nat} {X : sg_X} {N : Nat} {r : sg_M} (C : sg_C Yc ad X cX8_lookSlim RX8 4 4) (E : sg_eV Yc ad X cX8_lookSlim r)  : ∀ (s : Nat × Nat × Int32) (M : sg_M), gX8_lookSlim_48 N s M = some r → sg_K Yc s.1 8 → sg_K Yc s.2.1 4 → sg_T Yc ad X 4 48 [(0, .ref (ad (s.1))), (1, .ref (ad (s.2.1))), (2, .int (s.2.2))] [] M := by
  have key : ∀ n : Nat, ∀ (s : Nat × Nat × Int32) (M : sg_M), sg_lp (bX8_lookSlim_48 N) n s M = some r → sg_K Yc s.1 8 → sg_K Yc s.2.1 4 → sg_T Yc ad X 4 48 [(0, .ref (ad (s.1))), (1, .ref (ad (s.2.1))), (2, .int (s.2.2))] [] M := by
    intro n
    induction n with
    | zero => intro s M h; cases h
    | succ n ih =>
      intro s M h hq0 hq1
      have h : bX8_lookSlim_48 N (sg_lp (bX8_lookSlim_48 N) n) s M = some r := h
      generalize sg_lp (bX8_lookSlim_48 N) n = k48 at h ih
      have hk48 := ih
      unfold bX8_lookSlim_48 at h
      refine i_iload_n C dX8_lookSlim_48 2 rfl ?_
      refine s_bipush C (48 : Int32) dX8_lookSlim_49 (by decide) ?_
      refine s_icmp_ge C 109 (by decide) dX8_lookSlim_51 h (fun _ h => ?_) (fun _ h => ?_)
      · exact sg_T.to (tX8_lookSlim_109 C E _ _ h hq0) [0] rfl
      · refine i_aload_n C dX8_lookSlim_54 0 rfl ?_
        refine i_aload_n C dX8_lookSlim_55 1 rfl ?_
        refine s_iconst C (-1 : Int32) dX8_lookSlim_56 (by decide) ?_
        refine s_vcI C [_, _] vmX8_bestChange lkX8_84 rfl rfl (by decide) hq0 (by decide) rfl rfl (Nat.le_of_ble_eq_true rfl) dX8_lookSlim_57 (ctX8_bestChange C.inj hq0 hq1) h (fun x3 M2 h => ?_)
        refine z_gi h (fun x4 h => ?_)
        refine i_istore_n (lv9 := [(3, _), (0, _), (1, _), (2, _)]) C 3 dX8_lookSlim_60 rfl (by decide) rfl ?_
        refine i_iload_n C dX8_lookSlim_61 0 rfl ?_
        refine s_iconst C (-1 : Int32) dX8_lookSlim_62 (by decide) ?_
        refine s_icmp_eq C 109 (by decide) dX8_lookSlim_63 h (fun _ h => ?_) (fun _ h => ?_)
        · exact sg_T.to (tX8_lookSlim_109 C E _ _ h hq0) [1] rfl
        · refine i_aload_n C dX8_lookSlim_66 1 rfl ?_
          refine gf8_50 C hq0 dX8_lookSlim_67 ?_
          refine i_aload_n C dX8_lookSlim_70 2 rfl ?_
          refine gf8_75 C hq1 dX8_lookSlim_71 ?_
          refine s_vcI C [_] vmX7_isWithin lkX8_80 rfl rfl (by decide) (ky8_11 hq0) (by decide) rfl rfl (Nat.le_of_ble_eq_true rfl) dX8_lookSlim_74 (ctX7_isWithin C.inj (ky8_11 hq0)) h (fun x6 M5 h => ?_)
          refine s_if_ne C 83 (by decide) dX8_lookSlim_77 h (fun _ h => ?_) (fun _ h => ?_)
          · refine s_goto C 109 (by decide) dX8_lookSlim_80 ?_
            exact sg_T.to (tX8_lookSlim_109 C E _ _ h hq0) [1] rfl
          · refine i_aload_n C dX8_lookSlim_83 1 rfl ?_
            refine gf8_44 C hq0 dX8_lookSlim_84 ?_
            refine i_iload_n C dX8_lookSlim_87 0 rfl ?_
            refine s_dup2 C dX8_lookSlim_88 rfl rfl ?_
            refine s_iald C (ky8_10 hq0) dX8_lookSlim_89 h (fun h => ?_)
            refine s_iconst C (1 : Int32) dX8_lookSlim_90 (by decide) ?_
            refine s_isub C dX8_lookSlim_91 ?_
            refine s_iast C (ky8_10 hq0) dX8_lookSlim_92 h (fun h => ?_)
            refine z_gM h (fun M7 h => ?_)
            refine i_aload_n C dX8_lookSlim_93 1 rfl ?_
            refine s_dup C dX8_lookSlim_94 rfl ?_
            refine gf8_29 C hq0 dX8_lookSlim_95 ?_
            refine s_iconst C (1 : Int32) dX8_lookSlim_98 (by decide) ?_
            refine s_iadd C dX8_lookSlim_99 ?_
            refine pf8_29 C hq0 dX8_lookSlim_100 ?_
            refine z_gM h (fun M8 h => ?_)
            refine z_iinc (n := 1) (c9 := (1 : Int32)) (by decide) h (fun x9 hx h => ?_)
            refine i_iinc (lv9 := [(2, _), (3, _), (0, _), (1, _)]) C dX8_lookSlim_103 3 rfl hx (by decide) rfl ?_
            refine s_goto C 48 (by decide) dX8_lookSlim_106 ?_
            exact sg_T.to (hk48 _ _ h hq0 hq1) [2, 3, 0] rfl
  exact key N
def fX8_lookSlim (N : Nat) (a0_ : Nat) (a1_ : Nat) (M : sg_M) : Option (sg_M) :=
  if (M.1 a0_ 9) = 0 then (
  sg_m (sg_uI M a0_ 9 (1 : Int32)) (fun M10 : sg_M =>
  sg_bv (fX8_start N a0_ a1_ M10) (fun M11 : sg_M =>
  sg_m (sg_uI M11 a0_ 5 (-1 : Int32)) (fun M12 : sg_M =>
  sg_b (fX7_isWithin N (Yc.2.2.2 (Yc.2.2.2 a0_ 13) 3) (M12.1 a1_ 2) M12) (fun (x14 : Int32) (M13 : sg_M) =>
  if x14 = 0 then (
  some M13) else (
  sg_m (sg_uI M13 a0_ 5 (0 : Int32)) (fun M15 : sg_M =>
  sg_m (0 : Int32) (fun x16 : Int32 =>
  gX8_lookSlim_48 N (a0_, a1_, x16) M15)))))))) else (
  some M)
set_option maxHeartbeats 4000000 in
set_option maxRecDepth 100000 in
theorem tX8_lookSlim {ad : Nat → Nat} {X : sg_X} {N : Nat} {r : sg_M} (C : sg_C Yc ad X cX8_lookSlim RX8 4 4) (E : sg_eV Yc ad X cX8_lookSlim r) : ∀ (a0_ : Nat) (a1_ : Nat) (M : sg_M), sg_K Yc a0_ 8 → sg_K Yc a1_ 4 → fX8_lookSlim N a0_ a1_ M = some r → sg_T Yc ad X 4 0 [(0, .ref (ad a0_)), (1, .ref (ad a1_))] [] M := by
  intro a0_ a1_ M hq0 hq1 h
  unfold fX8_lookSlim at h
  refine i_aload_n C dX8_lookSlim_0 0 rfl ?_
  refine gf8_41 C hq0 dX8_lookSlim_1 ?_
  refine s_if_eq C 8 (by decide) dX8_lookSlim_4 h (fun _ h => ?_) (fun _ h => ?_)
  · refine i_aload_n C dX8_lookSlim_8 0 rfl ?_
    refine s_iconst C (1 : Int32) dX8_lookSlim_9 (by decide) ?_
    refine pf8_41 C hq0 (by decide) dX8_lookSlim_10 ?_
    refine z_gM h (fun M10 h => ?_)
    refine i_aload_n C dX8_lookSlim_13 0 rfl ?_
    refine i_aload_n C dX8_lookSlim_14 1 rfl ?_
    refine s_vcV C [_] vmX8_start lkX8_64 rfl rfl (by decide) hq0 (by decide) rfl rfl (Nat.le_of_ble_eq_true rfl) dX8_lookSlim_15 (ctX8_start C.inj hq0 hq1) h (fun M11 h => ?_)
    refine i_aload_n C dX8_lookSlim_18 0 rfl ?_
    refine s_iconst C (-1 : Int32) dX8_lookSlim_19 (by decide) ?_
    refine pf8_29 C hq0 dX8_lookSlim_20 ?_
    refine z_gM h (fun M12 h => ?_)
    refine i_aload_n C dX8_lookSlim_23 0 rfl ?_
    refine gf8_60 C hq0 dX8_lookSlim_24 ?_
    refine gf8_68 C (ky8_13 hq0) dX8_lookSlim_27 ?_
    refine i_aload_n C dX8_lookSlim_30 1 rfl ?_
    refine gf8_75 C hq1 dX8_lookSlim_31 ?_
    refine s_vcI C [_] vmX7_isWithin lkX8_80 rfl rfl (by decide) (ky1_3 (ky8_13 hq0)) (by decide) rfl rfl (Nat.le_of_ble_eq_true rfl) dX8_lookSlim_34 (ctX7_isWithin C.inj (ky1_3 (ky8_13 hq0))) h (fun x14 M13 h => ?_)
    refine s_if_ne C 41 (by decide) dX8_lookSlim_37 h (fun _ h => ?_) (fun _ h => ?_)
    · exact s_vret C E dX8_lookSlim_40 h
    · refine i_aload_n C dX8_lookSlim_41 0 rfl ?_
      refine s_iconst C (0 : Int32) dX8_lookSlim_42 (by decide) ?_
      refine pf8_29 C hq0 dX8_lookSlim_43 ?_
      refine z_gM h (fun M15 h => ?_)
      refine s_iconst C (0 : Int32) dX8_lookSlim_46 (by decide) ?_
      refine z_gi h (fun x16 h => ?_)
      refine i_istore_n (lv9 := [(2, _), (0, _), (1, _)]) C 2 dX8_lookSlim_47 rfl (by decide) rfl ?_
      exact sg_T.to (tX8_lookSlim_48 C E _ _ h hq0 hq1) [1, 2, 0] rfl
  · exact s_vret C E dX8_lookSlim_7 h
theorem ctX8_lookSlim {ad : Nat → Nat} {V : sg_V} {N : Nat} (hi : sg_inj Yc ad) {a0_ : Nat} {a1_ : Nat} {M : sg_M} (hq0 : sg_K Yc a0_ 8) (hq1 : sg_K Yc a1_ 4) : ∀ res, fX8_lookSlim N a0_ a1_ M = some res → sg_cV Yc ad V yX8_lookSlim cX8_lookSlim 4 4 [.ref (ad a0_), .ref (ad a1_)] M res := fun res h => sg_bodyV (by decide) hi (Nat.le_of_ble_eq_true rfl) (fun X hX C E => by subst hX; exact tX8_lookSlim C E _ _  _ hq0 hq1 h)
def bX8_holdsWider_17 (N : Nat)  (k17 : (Nat × Nat × Int32 × Int32) → sg_M → Option (Int32 × sg_M)) (s : Nat × Nat × Int32 × Int32) (M : sg_M) : Option (Int32 × sg_M) :=
  if s.2.2.1 ≤ s.2.2.2 then (
  sg_bv (fX1_settle N (Yc.2.2.2 s.1 13) s.2.1 (Yc.2.2.2 s.1 10) (M.1 s.2.1 7) (Yc.2.2.2 s.2.1 12) M) (fun M1 : sg_M =>
  sg_b (fX7_isWithin N (Yc.2.2.2 (Yc.2.2.2 s.1 13) 3) (M1.1 s.2.1 2) M1) (fun (x3 : Int32) (M2 : sg_M) =>
  if sg_bz x3 = true then some (x3, M2) else none))) else (
  if sg_ib s.2.2.2 (Yc.2.2.1 (Yc.2.2.2 s.1 4)) = true then
  sg_m (M.1 (Yc.2.2.2 s.1 4) (s.2.2.2).toNatClampNeg) (fun x4 : Int32 =>
  if sg_ib x4 (Yc.2.2.1 (Yc.2.2.2 s.1 10)) = true then
  if sg_ib x4 (Yc.2.2.1 (Yc.2.2.2 s.1 10)) = true then
  sg_m (sg_uI M (Yc.2.2.2 s.1 10) (x4).toNatClampNeg ((M.1 (Yc.2.2.2 s.1 10) (x4).toNatClampNeg) + (1 : Int32))) (fun M5 : sg_M =>
  if sg_ib x4 (Yc.2.2.1 (Yc.2.2.2 s.1 10)) = true then
  if (M5.1 (Yc.2.2.2 s.1 10) (x4).toNatClampNeg) ≤ (4 : Int32) then (
  sg_m (s.2.2.2 + (1 : Int32)) (fun x6 : Int32 =>
  k17 (s.1, s.2.1, s.2.2.1, x6) M5)) else (
  some ((0 : Int32), M5))
  else none)
  else none
  else none)
  else none)
def gX8_holdsWider_17 (N : Nat)  : (Nat × Nat × Int32 × Int32) → sg_M → Option (Int32 × sg_M) := sg_lp (bX8_holdsWider_17 N ) N
set_option maxHeartbeats 4000000 in
set_option maxRecDepth 100000 in
theorem tX8_holdsWider_17 {ad : Nat → Nat} {X : sg_X} {N : Nat} {r : Int32 × sg_M} (C : sg_C Yc ad X cX8_holdsWider RX8 5 3) (E : sg_eI Yc ad X cX8_holdsWider .boolean r)  : ∀ (s : Nat × Nat × Int32 × Int32) (M : sg_M), gX8_holdsWider_17 N s M = some r → sg_K Yc s.1 8 → sg_K Yc s.2.1 4 → sg_T Yc ad X 5 17 [(0, .ref (ad (s.1))), (1, .ref (ad (s.2.1))), (2, .int (s.2.2.1)), (3, .int (s.2.2.2))] [] M := by
  have key : ∀ n : Nat, ∀ (s : Nat × Nat × Int32 × Int32) (M : sg_M), sg_lp (bX8_holdsWider_17 N) n s M = some r → sg_K Yc s.1 8 → sg_K Yc s.2.1 4 → sg_T Yc ad X 5 17 [(0, .ref (ad (s.1))), (1, .ref (ad (s.2.1))), (2, .int (s.2.2.1)), (3, .int (s.2.2.2))] [] M := by
    intro n
    induction n with
    | zero => intro s M h; cases h
    | succ n ih =>
      intro s M h hq0 hq1
      have h : bX8_holdsWider_17 N (sg_lp (bX8_holdsWider_17 N) n) s M = some r := h
      generalize sg_lp (bX8_holdsWider_17 N) n = k17 at h ih
      have hk17 := ih
      unfold bX8_holdsWider_17 at h
      refine i_iload_n C dX8_holdsWider_17 3 rfl ?_
      refine i_iload_n C dX8_holdsWider_18 2 rfl ?_
      refine s_icmp_ge C 60 (by decide) dX8_holdsWider_19 h (fun _ h => ?_) (fun _ h => ?_)
      · refine i_aload_n C dX8_holdsWider_60 0 rfl ?_
        refine gf8_60 C hq0 dX8_holdsWider_61 ?_
        refine i_aload_n C dX8_holdsWider_64 1 rfl ?_
        refine i_aload_n C dX8_holdsWider_65 0 rfl ?_
        refine gf8_44 C hq0 dX8_holdsWider_66 ?_
        refine i_aload_n C dX8_holdsWider_69 1 rfl ?_
        refine gf8_99 C hq1 dX8_holdsWider_70 ?_
        refine i_aload_n C dX8_holdsWider_73 1 rfl ?_
        refine gf8_102 C hq1 dX8_holdsWider_74 ?_
        refine s_vcV C [_, _, _, _] vmX1_settle lkX8_105 rfl rfl (by decide) (ky8_13 hq0) (by decide) rfl rfl (Nat.le_of_ble_eq_true rfl) dX8_holdsWider_77 (ctX1_settle C.inj (ky8_13 hq0) hq1 (ky8_10 hq0) (ky4_12 hq1)) h (fun M1 h => ?_)
        refine i_aload_n C dX8_holdsWider_80 0 rfl ?_
        refine gf8_60 C hq0 dX8_holdsWider_81 ?_
        refine gf8_68 C (ky8_13 hq0) dX8_holdsWider_84 ?_
        refine i_aload_n C dX8_holdsWider_87 1 rfl ?_
        refine gf8_75 C hq1 dX8_holdsWider_88 ?_
        refine s_vcI C [_] vmX7_isWithin lkX8_80 rfl rfl (by decide) (ky1_3 (ky8_13 hq0)) (by decide) rfl rfl (Nat.le_of_ble_eq_true rfl) dX8_holdsWider_91 (ctX7_isWithin C.inj (ky1_3 (ky8_13 hq0))) h (fun x3 M2 h => ?_)
        exact s_zret C E dX8_holdsWider_94 h
      · refine i_aload_n C dX8_holdsWider_22 0 rfl ?_
        refine gf8_26 C hq0 dX8_holdsWider_23 ?_
        refine i_iload_n C dX8_holdsWider_26 3 rfl ?_
        refine s_iald C (ky8_4 hq0) dX8_holdsWider_27 h (fun h => ?_)
        refine z_gi h (fun x4 h => ?_)
        refine i_istore (lv9 := [(4, _), (0, _), (1, _), (2, _), (3, _)]) C dX8_holdsWider_28 (by decide) rfl ?_
        refine i_aload_n C dX8_holdsWider_30 1 rfl ?_
        refine gf8_44 C hq0 dX8_holdsWider_31 ?_
        refine i_iload C dX8_holdsWider_34 0 rfl ?_
        refine s_dup2 C dX8_holdsWider_36 rfl rfl ?_
        refine s_iald C (ky8_10 hq0) dX8_holdsWider_37 h (fun h => ?_)
        refine s_iconst C (1 : Int32) dX8_holdsWider_38 (by decide) ?_
        refine s_iadd C dX8_holdsWider_39 ?_
        refine s_iast C (ky8_10 hq0) dX8_holdsWider_40 h (fun h => ?_)
        refine z_gM h (fun M5 h => ?_)
        refine i_aload_n C dX8_holdsWider_41 1 rfl ?_
        refine gf8_44 C hq0 dX8_holdsWider_42 ?_
        refine i_iload C dX8_holdsWider_45 0 rfl ?_
        refine s_iald C (ky8_10 hq0) dX8_holdsWider_47 h (fun h => ?_)
        refine s_iconst C (4 : Int32) dX8_holdsWider_48 (by decide) ?_
        refine s_icmp_le C 54 (by decide) dX8_holdsWider_49 h (fun _ h => ?_) (fun _ h => ?_)
        · refine z_iinc (n := 1) (c9 := (1 : Int32)) (by decide) h (fun x6 hx h => ?_)
          refine i_iinc (lv9 := [(3, _), (4, _), (0, _), (1, _), (2, _)]) C dX8_holdsWider_54 4 rfl hx (by decide) rfl ?_
          refine s_goto C 17 (by decide) dX8_holdsWider_57 ?_
          exact sg_T.to (hk17 _ _ h hq0 hq1) [2, 3, 4, 0] rfl
        · refine s_iconst C (0 : Int32) dX8_holdsWider_52 (by decide) ?_
          exact s_zret1 C E (by decide) dX8_holdsWider_53 h
  exact key N
def fX8_holdsWider (N : Nat) (a0_ : Nat) (a1_ : Nat) (x2_ : Int32) (M : sg_M) : Option (Int32 × sg_M) :=
  if sg_cb (0 : Int32) (0 : Int32) (12 : Int32) (Yc.2.2.1 (Yc.2.2.2 a1_ 11)) (Yc.2.2.1 (Yc.2.2.2 a0_ 10)) = true then
  sg_m (sg_cpy M (Yc.2.2.2 a1_ 11) (Yc.2.2.2 a0_ 10) ((0 : Int32)).toNatClampNeg ((0 : Int32)).toNatClampNeg ((12 : Int32)).toNatClampNeg) (fun M7 : sg_M =>
  sg_m (0 : Int32) (fun x8 : Int32 =>
  gX8_holdsWider_17 N (a0_, a1_, x2_, x8) M7))
  else none
set_option maxHeartbeats 4000000 in
set_option maxRecDepth 100000 in
theorem tX8_holdsWider {ad : Nat → Nat} {X : sg_X} {N : Nat} {r : Int32 × sg_M} (C : sg_C Yc ad X cX8_holdsWider RX8 5 3) (E : sg_eI Yc ad X cX8_holdsWider .boolean r) : ∀ (a0_ : Nat) (a1_ : Nat) (x2_ : Int32) (M : sg_M), sg_K Yc a0_ 8 → sg_K Yc a1_ 4 → fX8_holdsWider N a0_ a1_ x2_ M = some r → sg_T Yc ad X 5 0 [(0, .ref (ad a0_)), (1, .ref (ad a1_)), (2, .int x2_)] [] M := by
  intro a0_ a1_ x2_ M hq0 hq1 h
  unfold fX8_holdsWider at h
  refine i_aload_n C dX8_holdsWider_0 1 rfl ?_
  refine gf8_98 C hq1 dX8_holdsWider_1 ?_
  refine s_iconst C (0 : Int32) dX8_holdsWider_4 (by decide) ?_
  refine i_aload_n C dX8_holdsWider_5 0 rfl ?_
  refine gf8_44 C hq0 dX8_holdsWider_6 ?_
  refine s_iconst C (0 : Int32) dX8_holdsWider_9 (by decide) ?_
  refine s_bipush C (12 : Int32) dX8_holdsWider_10 (by decide) ?_
  refine s_copy C (by decide) (ky4_11 hq1) (ky8_10 hq0) copy_X8_92 copy_1 copy_2 copy_3 (Nat.le_of_ble_eq_true rfl) dX8_holdsWider_12 h (fun h => ?_)
  refine z_gM h (fun M7 h => ?_)
  refine s_iconst C (0 : Int32) dX8_holdsWider_15 (by decide) ?_
  refine z_gi h (fun x8 h => ?_)
  refine i_istore_n (lv9 := [(3, _), (0, _), (1, _), (2, _)]) C 3 dX8_holdsWider_16 rfl (by decide) rfl ?_
  exact sg_T.to (tX8_holdsWider_17 C E _ _ h hq0 hq1) [1, 2, 3, 0] rfl
theorem ctX8_holdsWider {ad : Nat → Nat} {V : sg_V} {N : Nat} (hi : sg_inj Yc ad) {a0_ : Nat} {a1_ : Nat} {x2_ : Int32} {M : sg_M} (hq0 : sg_K Yc a0_ 8) (hq1 : sg_K Yc a1_ 4) : ∀ res, fX8_holdsWider N a0_ a1_ x2_ M = some res → sg_cI Yc ad V yX8_holdsWider cX8_holdsWider 5 .boolean 3 [.ref (ad a0_), .ref (ad a1_), .int x2_] M res := fun res h => sg_bodyI (by decide) hi (Nat.le_of_ble_eq_true rfl) (fun X hX C E => by subst hX; exact tX8_holdsWider C E _ _ _  _ hq0 hq1 h)
def bX8_nextRising_36 (N : Nat)  (k36 : (Nat × Int32 × Int32 × Int32) → sg_M → Option (Int32 × sg_M)) (s : Nat × Int32 × Int32 × Int32) (M : sg_M) : Option (Int32 × sg_M) :=
  if s.2.1 ≤ s.2.2.2 then (
  some ((1 : Int32), M)) else (
  if sg_ib s.2.2.2 (Yc.2.2.1 (Yc.2.2.2 s.1 4)) = true then
  sg_m (sg_uI M (Yc.2.2.2 s.1 4) (s.2.2.2).toNatClampNeg s.2.2.1) (fun M1 : sg_M =>
  sg_m (s.2.2.2 + (1 : Int32)) (fun x2 : Int32 =>
  k36 (s.1, s.2.1, s.2.2.1, x2) M1))
  else none)
def gX8_nextRising_36 (N : Nat)  : (Nat × Int32 × Int32 × Int32) → sg_M → Option (Int32 × sg_M) := sg_lp (bX8_nextRising_36 N ) N
set_option maxHeartbeats 4000000 in
set_option maxRecDepth 100000 in
theorem tX8_nextRising_36 {ad : Nat → Nat} {X : sg_X} {N : Nat} {r : Int32 × sg_M} (C : sg_C Yc ad X cX8_nextRising RX8 6 0) (E : sg_eI Yc ad X cX8_nextRising .boolean r)  : ∀ (s : Nat × Int32 × Int32 × Int32) (M : sg_M), gX8_nextRising_36 N s M = some r → sg_K Yc s.1 8 → sg_T Yc ad X 6 36 [(0, .ref (ad (s.1))), (2, .int (s.2.1)), (4, .int (s.2.2.1)), (5, .int (s.2.2.2))] [] M := by
  have key : ∀ n : Nat, ∀ (s : Nat × Int32 × Int32 × Int32) (M : sg_M), sg_lp (bX8_nextRising_36 N) n s M = some r → sg_K Yc s.1 8 → sg_T Yc ad X 6 36 [(0, .ref (ad (s.1))), (2, .int (s.2.1)), (4, .int (s.2.2.1)), (5, .int (s.2.2.2))] [] M := by
    intro n
    induction n with
    | zero => intro s M h; cases h
    | succ n ih =>
      intro s M h hq0
      have h : bX8_nextRising_36 N (sg_lp (bX8_nextRising_36 N) n) s M = some r := h
      generalize sg_lp (bX8_nextRising_36 N) n = k36 at h ih
      have hk36 := ih
      unfold bX8_nextRising_36 at h
      refine i_iload C dX8_nextRising_36 3 rfl ?_
      refine i_iload_n C dX8_nextRising_38 1 rfl ?_
      refine s_icmp_ge C 57 (by decide) dX8_nextRising_39 h (fun _ h => ?_) (fun _ h => ?_)
      · refine s_iconst C (1 : Int32) dX8_nextRising_57 (by decide) ?_
        exact s_zret1 C E (by decide) dX8_nextRising_58 h
      · refine i_aload_n C dX8_nextRising_42 0 rfl ?_
        refine gf8_26 C hq0 dX8_nextRising_43 ?_
        refine i_iload C dX8_nextRising_46 3 rfl ?_
        refine i_iload C dX8_nextRising_48 2 rfl ?_
        refine s_iast C (ky8_4 hq0) dX8_nextRising_50 h (fun h => ?_)
        refine z_gM h (fun M1 h => ?_)
        refine z_iinc (n := 1) (c9 := (1 : Int32)) (by decide) h (fun x2 hx h => ?_)
        refine i_iinc (lv9 := [(5, _), (0, _), (2, _), (4, _)]) C dX8_nextRising_51 3 rfl hx (by decide) rfl ?_
        refine s_goto C 36 (by decide) dX8_nextRising_54 ?_
        exact sg_T.to (hk36 _ _ h hq0) [1, 2, 3, 0] rfl
  exact key N
def bX8_nextRising_4 (N : Nat)  (k4 : (Nat × Nat × Int32 × Int32) → sg_M → Option (Int32 × sg_M)) (s : Nat × Nat × Int32 × Int32) (M : sg_M) : Option (Int32 × sg_M) :=
  if s.2.2.2 < 0 then (
  some ((0 : Int32), M)) else (
  if sg_ib s.2.2.2 (Yc.2.2.1 (Yc.2.2.2 s.1 4)) = true then
  if (M.1 s.2.1 6) ≤ ((M.1 (Yc.2.2.2 s.1 4) (s.2.2.2).toNatClampNeg) + (1 : Int32)) then (
  sg_m (s.2.2.2 + (-1 : Int32)) (fun x3 : Int32 =>
  k4 (s.1, s.2.1, s.2.2.1, x3) M)) else (
  if sg_ib s.2.2.2 (Yc.2.2.1 (Yc.2.2.2 s.1 4)) = true then
  sg_m ((M.1 (Yc.2.2.2 s.1 4) (s.2.2.2).toNatClampNeg) + (1 : Int32)) (fun x4 : Int32 =>
  sg_m s.2.2.2 (fun x5 : Int32 =>
  gX8_nextRising_36 N (s.1, s.2.2.1, x4, x5) M))
  else none)
  else none)
def gX8_nextRising_4 (N : Nat)  : (Nat × Nat × Int32 × Int32) → sg_M → Option (Int32 × sg_M) := sg_lp (bX8_nextRising_4 N ) N
set_option maxHeartbeats 4000000 in
set_option maxRecDepth 100000 in
theorem tX8_nextRising_4 {ad : Nat → Nat} {X : sg_X} {N : Nat} {r : Int32 × sg_M} (C : sg_C Yc ad X cX8_nextRising RX8 6 0) (E : sg_eI Yc ad X cX8_nextRising .boolean r)  : ∀ (s : Nat × Nat × Int32 × Int32) (M : sg_M), gX8_nextRising_4 N s M = some r → sg_K Yc s.1 8 → sg_K Yc s.2.1 4 → sg_T Yc ad X 6 4 [(0, .ref (ad (s.1))), (1, .ref (ad (s.2.1))), (2, .int (s.2.2.1)), (3, .int (s.2.2.2))] [] M := by
  have key : ∀ n : Nat, ∀ (s : Nat × Nat × Int32 × Int32) (M : sg_M), sg_lp (bX8_nextRising_4 N) n s M = some r → sg_K Yc s.1 8 → sg_K Yc s.2.1 4 → sg_T Yc ad X 6 4 [(0, .ref (ad (s.1))), (1, .ref (ad (s.2.1))), (2, .int (s.2.2.1)), (3, .int (s.2.2.2))] [] M := by
    intro n
    induction n with
    | zero => intro s M h; cases h
    | succ n ih =>
      intro s M h hq0 hq1
      have h : bX8_nextRising_4 N (sg_lp (bX8_nextRising_4 N) n) s M = some r := h
      generalize sg_lp (bX8_nextRising_4 N) n = k4 at h ih
      have hk4 := ih
      unfold bX8_nextRising_4 at h
      refine i_iload_n C dX8_nextRising_4 3 rfl ?_
      refine s_if_lt C 65 (by decide) dX8_nextRising_5 h (fun _ h => ?_) (fun _ h => ?_)
      · refine s_iconst C (0 : Int32) dX8_nextRising_65 (by decide) ?_
        exact s_zret1 C E (by decide) dX8_nextRising_66 h
      · refine i_aload_n C dX8_nextRising_8 0 rfl ?_
        refine gf8_26 C hq0 dX8_nextRising_9 ?_
        refine i_iload_n C dX8_nextRising_12 3 rfl ?_
        refine s_iald C (ky8_4 hq0) dX8_nextRising_13 h (fun h => ?_)
        refine s_iconst C (1 : Int32) dX8_nextRising_14 (by decide) ?_
        refine s_iadd C dX8_nextRising_15 ?_
        refine i_aload_n C dX8_nextRising_16 1 rfl ?_
        refine gf8_109 C hq1 dX8_nextRising_17 ?_
        refine s_icmp_ge C 59 (by decide) dX8_nextRising_20 h (fun _ h => ?_) (fun _ h => ?_)
        · refine z_iinc (n := -1) (c9 := (-1 : Int32)) (by decide) h (fun x3 hx h => ?_)
          refine i_iinc (lv9 := [(3, _), (0, _), (1, _), (2, _)]) C dX8_nextRising_59 3 rfl hx (by decide) rfl ?_
          refine s_goto C 4 (by decide) dX8_nextRising_62 ?_
          exact sg_T.to (hk4 _ _ h hq0 hq1) [1, 2, 3, 0] rfl
        · refine i_aload_n C dX8_nextRising_23 0 rfl ?_
          refine gf8_26 C hq0 dX8_nextRising_24 ?_
          refine i_iload_n C dX8_nextRising_27 3 rfl ?_
          refine s_iald C (ky8_4 hq0) dX8_nextRising_28 h (fun h => ?_)
          refine s_iconst C (1 : Int32) dX8_nextRising_29 (by decide) ?_
          refine s_iadd C dX8_nextRising_30 ?_
          refine z_gi h (fun x4 h => ?_)
          refine i_istore (lv9 := [(4, _), (0, _), (1, _), (2, _), (3, _)]) C dX8_nextRising_31 (by decide) rfl ?_
          refine i_iload_n C dX8_nextRising_33 4 rfl ?_
          refine z_gi h (fun x5 h => ?_)
          refine i_istore (lv9 := [(5, _), (4, _), (0, _), (1, _), (2, _), (3, _)]) C dX8_nextRising_34 (by decide) rfl ?_
          exact sg_T.to (tX8_nextRising_36 C E _ _ h hq0) [2, 4, 1, 0] rfl
  exact key N
def fX8_nextRising (N : Nat) (a0_ : Nat) (a1_ : Nat) (x2_ : Int32) (M : sg_M) : Option (Int32 × sg_M) :=
  sg_m (x2_ - (1 : Int32)) (fun x6 : Int32 =>
  gX8_nextRising_4 N (a0_, a1_, x2_, x6) M)
set_option maxHeartbeats 4000000 in
set_option maxRecDepth 100000 in
theorem tX8_nextRising {ad : Nat → Nat} {X : sg_X} {N : Nat} {r : Int32 × sg_M} (C : sg_C Yc ad X cX8_nextRising RX8 6 0) (E : sg_eI Yc ad X cX8_nextRising .boolean r) : ∀ (a0_ : Nat) (a1_ : Nat) (x2_ : Int32) (M : sg_M), sg_K Yc a0_ 8 → sg_K Yc a1_ 4 → fX8_nextRising N a0_ a1_ x2_ M = some r → sg_T Yc ad X 6 0 [(0, .ref (ad a0_)), (1, .ref (ad a1_)), (2, .int x2_)] [] M := by
  intro a0_ a1_ x2_ M hq0 hq1 h
  unfold fX8_nextRising at h
  refine i_iload_n C dX8_nextRising_0 2 rfl ?_
  refine s_iconst C (1 : Int32) dX8_nextRising_1 (by decide) ?_
  refine s_isub C dX8_nextRising_2 ?_
  refine z_gi h (fun x6 h => ?_)
  refine i_istore_n (lv9 := [(3, _), (0, _), (1, _), (2, _)]) C 3 dX8_nextRising_3 rfl (by decide) rfl ?_
  exact sg_T.to (tX8_nextRising_4 C E _ _ h hq0 hq1) [1, 2, 3, 0] rfl
theorem ctX8_nextRising {ad : Nat → Nat} {V : sg_V} {N : Nat} (hi : sg_inj Yc ad) {a0_ : Nat} {a1_ : Nat} {x2_ : Int32} {M : sg_M} (hq0 : sg_K Yc a0_ 8) (hq1 : sg_K Yc a1_ 4) : ∀ res, fX8_nextRising N a0_ a1_ x2_ M = some res → sg_cI Yc ad V yX8_nextRising cX8_nextRising 6 .boolean 0 [.ref (ad a0_), .ref (ad a1_), .int x2_] M res := fun res h => sg_bodyI (by decide) hi (Nat.le_of_ble_eq_true rfl) (fun X hX C E => by subst hX; exact tX8_nextRising C E _ _ _  _ hq0 hq1 h)
def bX8_findLeast_23 (N : Nat)  (k23 : (Nat × Nat × Int32 × Int32) → sg_M → Option (Int32 × sg_M)) (s : Nat × Nat × Int32 × Int32) (M : sg_M) : Option (Int32 × sg_M) :=
  if (400 : Int32) ≤ s.2.2.2 then (
  some ((0 : Int32), M)) else (
  sg_b (fX8_holdsWider N s.1 s.2.1 s.2.2.1 M) (fun (x2 : Int32) (M1 : sg_M) =>
  if x2 = 0 then (
  sg_b (fX8_nextRising N s.1 s.2.1 s.2.2.1 M1) (fun (x4 : Int32) (M3 : sg_M) =>
  if x4 = 0 then (
  some ((0 : Int32), M3)) else (
  sg_m (s.2.2.2 + (1 : Int32)) (fun x5 : Int32 =>
  k23 (s.1, s.2.1, s.2.2.1, x5) M3)))) else (
  some ((1 : Int32), M1))))
def gX8_findLeast_23 (N : Nat)  : (Nat × Nat × Int32 × Int32) → sg_M → Option (Int32 × sg_M) := sg_lp (bX8_findLeast_23 N ) N
set_option maxHeartbeats 4000000 in
set_option maxRecDepth 100000 in
theorem tX8_findLeast_23 {ad : Nat → Nat} {X : sg_X} {N : Nat} {r : Int32 × sg_M} (C : sg_C Yc ad X cX8_findLeast RX8 4 4) (E : sg_eI Yc ad X cX8_findLeast .boolean r)  : ∀ (s : Nat × Nat × Int32 × Int32) (M : sg_M), gX8_findLeast_23 N s M = some r → sg_K Yc s.1 8 → sg_K Yc s.2.1 4 → sg_T Yc ad X 4 23 [(0, .ref (ad (s.1))), (1, .ref (ad (s.2.1))), (2, .int (s.2.2.1)), (3, .int (s.2.2.2))] [] M := by
  have key : ∀ n : Nat, ∀ (s : Nat × Nat × Int32 × Int32) (M : sg_M), sg_lp (bX8_findLeast_23 N) n s M = some r → sg_K Yc s.1 8 → sg_K Yc s.2.1 4 → sg_T Yc ad X 4 23 [(0, .ref (ad (s.1))), (1, .ref (ad (s.2.1))), (2, .int (s.2.2.1)), (3, .int (s.2.2.2))] [] M := by
    intro n
    induction n with
    | zero => intro s M h; cases h
    | succ n ih =>
      intro s M h hq0 hq1
      have h : bX8_findLeast_23 N (sg_lp (bX8_findLeast_23 N) n) s M = some r := h
      generalize sg_lp (bX8_findLeast_23 N) n = k23 at h ih
      have hk23 := ih
      unfold bX8_findLeast_23 at h
      refine i_iload_n C dX8_findLeast_23 3 rfl ?_
      refine s_sipush C (400 : Int32) dX8_findLeast_24 (by decide) ?_
      refine s_icmp_ge C 58 (by decide) dX8_findLeast_27 h (fun _ h => ?_) (fun _ h => ?_)
      · refine s_iconst C (0 : Int32) dX8_findLeast_58 (by decide) ?_
        exact s_zret1 C E (by decide) dX8_findLeast_59 h
      · refine i_aload_n C dX8_findLeast_30 0 rfl ?_
        refine i_aload_n C dX8_findLeast_31 1 rfl ?_
        refine i_iload_n C dX8_findLeast_32 2 rfl ?_
        refine s_vcI C [_, _] vmX8_holdsWider lkX8_122 rfl rfl (by decide) hq0 (by decide) rfl rfl (Nat.le_of_ble_eq_true rfl) dX8_findLeast_33 (ctX8_holdsWider C.inj hq0 hq1) h (fun x2 M1 h => ?_)
        refine s_if_eq C 41 (by decide) dX8_findLeast_36 h (fun _ h => ?_) (fun _ h => ?_)
        · refine i_aload_n C dX8_findLeast_41 0 rfl ?_
          refine i_aload_n C dX8_findLeast_42 1 rfl ?_
          refine i_iload_n C dX8_findLeast_43 2 rfl ?_
          refine s_vcI C [_, _] vmX8_nextRising lkX8_125 rfl rfl (by decide) hq0 (by decide) rfl rfl (Nat.le_of_ble_eq_true rfl) dX8_findLeast_44 (ctX8_nextRising C.inj hq0 hq1) h (fun x4 M3 h => ?_)
          refine s_if_ne C 52 (by decide) dX8_findLeast_47 h (fun _ h => ?_) (fun _ h => ?_)
          · refine s_iconst C (0 : Int32) dX8_findLeast_50 (by decide) ?_
            exact s_zret1 C E (by decide) dX8_findLeast_51 h
          · refine z_iinc (n := 1) (c9 := (1 : Int32)) (by decide) h (fun x5 hx h => ?_)
            refine i_iinc (lv9 := [(3, _), (0, _), (1, _), (2, _)]) C dX8_findLeast_52 3 rfl hx (by decide) rfl ?_
            refine s_goto C 23 (by decide) dX8_findLeast_55 ?_
            exact sg_T.to (hk23 _ _ h hq0 hq1) [1, 2, 3, 0] rfl
        · refine s_iconst C (1 : Int32) dX8_findLeast_39 (by decide) ?_
          exact s_zret1 C E (by decide) dX8_findLeast_40 h
  exact key N
def gX8_findLeast_13 (N : Nat)  (a0_ : Nat) (a1_ : Nat) (x2_ : Int32) (M : sg_M) : Option (Int32 × sg_M) :=
  sg_bv (fJ7_fill_53178 N (Yc.2.2.2 a0_ 4) (0 : Int32) M) (fun M6 : sg_M =>
  sg_m (0 : Int32) (fun x7 : Int32 =>
  gX8_findLeast_23 N (a0_, a1_, x2_, x7) M6))
set_option maxHeartbeats 4000000 in
set_option maxRecDepth 100000 in
theorem tX8_findLeast_13 {ad : Nat → Nat} {X : sg_X} {N : Nat} {r : Int32 × sg_M} (C : sg_C Yc ad X cX8_findLeast RX8 4 4) (E : sg_eI Yc ad X cX8_findLeast .boolean r)  : ∀ (a0_ : Nat) (a1_ : Nat) (x2_ : Int32) (M : sg_M), gX8_findLeast_13 N a0_ a1_ x2_ M = some r → sg_K Yc a0_ 8 → sg_K Yc a1_ 4 → sg_T Yc ad X 4 13 [(0, .ref (ad a0_)), (1, .ref (ad a1_)), (2, .int x2_)] [] M := by
  intro a0_ a1_ x2_ M h hq0 hq1
  unfold gX8_findLeast_13 at h
  refine i_aload_n C dX8_findLeast_13 0 rfl ?_
  refine gf8_26 C hq0 dX8_findLeast_14 ?_
  refine s_iconst C (0 : Int32) dX8_findLeast_17 (by decide) ?_
  refine s_scV C [_, _] smJ7_fill_53178 lkX8_116 (by decide) rfl rfl (Nat.le_of_ble_eq_true rfl) dX8_findLeast_18 (ctJ7_fill_53178 C.inj (ky8_4 hq0)) h (fun M6 h => ?_)
  refine s_iconst C (0 : Int32) dX8_findLeast_21 (by decide) ?_
  refine z_gi h (fun x7 h => ?_)
  refine i_istore_n (lv9 := [(3, _), (0, _), (1, _), (2, _)]) C 3 dX8_findLeast_22 rfl (by decide) rfl ?_
  exact sg_T.to (tX8_findLeast_23 C E _ _ h hq0 hq1) [1, 2, 3, 0] rfl
def fX8_findLeast (N : Nat) (a0_ : Nat) (a1_ : Nat) (x2_ : Int32) (M : sg_M) : Option (Int32 × sg_M) :=
  if x2_ ≤ 0 then (
  gX8_findLeast_13 N a0_ a1_ x2_ M) else (
  if (M.1 a1_ 6) = 0 then (
  some ((0 : Int32), M)) else (
  gX8_findLeast_13 N a0_ a1_ x2_ M))
set_option maxHeartbeats 4000000 in
set_option maxRecDepth 100000 in
theorem tX8_findLeast {ad : Nat → Nat} {X : sg_X} {N : Nat} {r : Int32 × sg_M} (C : sg_C Yc ad X cX8_findLeast RX8 4 4) (E : sg_eI Yc ad X cX8_findLeast .boolean r) : ∀ (a0_ : Nat) (a1_ : Nat) (x2_ : Int32) (M : sg_M), sg_K Yc a0_ 8 → sg_K Yc a1_ 4 → fX8_findLeast N a0_ a1_ x2_ M = some r → sg_T Yc ad X 4 0 [(0, .ref (ad a0_)), (1, .ref (ad a1_)), (2, .int x2_)] [] M := by
  intro a0_ a1_ x2_ M hq0 hq1 h
  unfold fX8_findLeast at h
  refine i_iload_n C dX8_findLeast_0 2 rfl ?_
  refine s_if_le C 13 (by decide) dX8_findLeast_1 h (fun _ h => ?_) (fun _ h => ?_)
  · exact sg_T.to (tX8_findLeast_13 C E _ _ _ _ h hq0 hq1) [0, 1, 2] rfl
  · refine i_aload_n C dX8_findLeast_4 1 rfl ?_
    refine gf8_109 C hq1 dX8_findLeast_5 ?_
    refine s_if_ne C 13 (by decide) dX8_findLeast_8 h (fun _ h => ?_) (fun _ h => ?_)
    · refine s_iconst C (0 : Int32) dX8_findLeast_11 (by decide) ?_
      exact s_zret1 C E (by decide) dX8_findLeast_12 h
    · exact sg_T.to (tX8_findLeast_13 C E _ _ _ _ h hq0 hq1) [0, 1, 2] rfl
theorem ctX8_findLeast {ad : Nat → Nat} {V : sg_V} {N : Nat} (hi : sg_inj Yc ad) {a0_ : Nat} {a1_ : Nat} {x2_ : Int32} {M : sg_M} (hq0 : sg_K Yc a0_ 8) (hq1 : sg_K Yc a1_ 4) : ∀ res, fX8_findLeast N a0_ a1_ x2_ M = some res → sg_cI Yc ad V yX8_findLeast cX8_findLeast 4 .boolean 4 [.ref (ad a0_), .ref (ad a1_), .int x2_] M res := fun res h => sg_bodyI (by decide) hi (Nat.le_of_ble_eq_true rfl) (fun X hX C E => by subst hX; exact tX8_findLeast C E _ _ _  _ hq0 hq1 h)
def bX8_lookLeast_20 (N : Nat)  (k20 : (Nat × Nat × Int32) → sg_M → Option (sg_M)) (s : Nat × Nat × Int32) (M : sg_M) : Option (sg_M) :=
  if (3 : Int32) < s.2.2 then (
  some M) else (
  if (M.1 s.1 3) = (-1 : Int32) then (
  sg_b (fX8_findLeast N s.1 s.2.1 s.2.2 M) (fun (x2 : Int32) (M1 : sg_M) =>
  if x2 = 0 then (
  sg_m (s.2.2 + (1 : Int32)) (fun x3 : Int32 =>
  k20 (s.1, s.2.1, x3) M1)) else (
  sg_m (sg_uI M1 s.1 3 s.2.2) (fun M4 : sg_M =>
  sg_m (s.2.2 + (1 : Int32)) (fun x5 : Int32 =>
  k20 (s.1, s.2.1, x5) M4))))) else (
  some M))
def gX8_lookLeast_20 (N : Nat)  : (Nat × Nat × Int32) → sg_M → Option (sg_M) := sg_lp (bX8_lookLeast_20 N ) N
set_option maxHeartbeats 4000000 in
set_option maxRecDepth 100000 in
theorem tX8_lookLeast_20 {ad : Nat → Nat} {X : sg_X} {N : Nat} {r : sg_M} (C : sg_C Yc ad X cX8_lookLeast RX8 3 5) (E : sg_eV Yc ad X cX8_lookLeast r)  : ∀ (s : Nat × Nat × Int32) (M : sg_M), gX8_lookLeast_20 N s M = some r → sg_K Yc s.1 8 → sg_K Yc s.2.1 4 → sg_T Yc ad X 3 20 [(0, .ref (ad (s.1))), (1, .ref (ad (s.2.1))), (2, .int (s.2.2))] [] M := by
  have key : ∀ n : Nat, ∀ (s : Nat × Nat × Int32) (M : sg_M), sg_lp (bX8_lookLeast_20 N) n s M = some r → sg_K Yc s.1 8 → sg_K Yc s.2.1 4 → sg_T Yc ad X 3 20 [(0, .ref (ad (s.1))), (1, .ref (ad (s.2.1))), (2, .int (s.2.2))] [] M := by
    intro n
    induction n with
    | zero => intro s M h; cases h
    | succ n ih =>
      intro s M h hq0 hq1
      have h : bX8_lookLeast_20 N (sg_lp (bX8_lookLeast_20 N) n) s M = some r := h
      generalize sg_lp (bX8_lookLeast_20 N) n = k20 at h ih
      have hk20 := ih
      unfold bX8_lookLeast_20 at h
      refine i_iload_n C dX8_lookLeast_20 2 rfl ?_
      refine s_iconst C (3 : Int32) dX8_lookLeast_21 (by decide) ?_
      refine s_icmp_gt C 53 (by decide) dX8_lookLeast_22 h (fun _ h => ?_) (fun _ h => ?_)
      · exact s_vret C E dX8_lookLeast_53 h
      · refine i_aload_n C dX8_lookLeast_25 0 rfl ?_
        refine gf8_23 C hq0 dX8_lookLeast_26 ?_
        refine s_iconst C (-1 : Int32) dX8_lookLeast_29 (by decide) ?_
        refine s_icmp_ne C 53 (by decide) dX8_lookLeast_30 h (fun _ h => ?_) (fun _ h => ?_)
        · refine i_aload_n C dX8_lookLeast_33 0 rfl ?_
          refine i_aload_n C dX8_lookLeast_34 1 rfl ?_
          refine i_iload_n C dX8_lookLeast_35 2 rfl ?_
          refine s_vcI C [_, _] vmX8_findLeast lkX8_112 rfl rfl (by decide) hq0 (by decide) rfl rfl (Nat.le_of_ble_eq_true rfl) dX8_lookLeast_36 (ctX8_findLeast C.inj hq0 hq1) h (fun x2 M1 h => ?_)
          refine s_if_eq C 47 (by decide) dX8_lookLeast_39 h (fun _ h => ?_) (fun _ h => ?_)
          · refine z_iinc (n := 1) (c9 := (1 : Int32)) (by decide) h (fun x3 hx h => ?_)
            refine i_iinc (lv9 := [(2, _), (0, _), (1, _)]) C dX8_lookLeast_47 2 rfl hx (by decide) rfl ?_
            refine s_goto C 20 (by decide) dX8_lookLeast_50 ?_
            exact sg_T.to (hk20 _ _ h hq0 hq1) [1, 2, 0] rfl
          · refine i_aload_n C dX8_lookLeast_42 0 rfl ?_
            refine i_iload_n C dX8_lookLeast_43 2 rfl ?_
            refine pf8_23 C hq0 dX8_lookLeast_44 ?_
            refine z_gM h (fun M4 h => ?_)
            refine z_iinc (n := 1) (c9 := (1 : Int32)) (by decide) h (fun x5 hx h => ?_)
            refine i_iinc (lv9 := [(2, _), (0, _), (1, _)]) C dX8_lookLeast_47 2 rfl hx (by decide) rfl ?_
            refine s_goto C 20 (by decide) dX8_lookLeast_50 ?_
            exact sg_T.to (hk20 _ _ h hq0 hq1) [1, 2, 0] rfl
        · exact s_vret C E dX8_lookLeast_53 h
  exact key N
def fX8_lookLeast (N : Nat) (a0_ : Nat) (a1_ : Nat) (M : sg_M) : Option (sg_M) :=
  if (M.1 a0_ 8) = 0 then (
  sg_m (sg_uI M a0_ 8 (1 : Int32)) (fun M6 : sg_M =>
  sg_m (sg_uI M6 a0_ 3 (-1 : Int32)) (fun M7 : sg_M =>
  sg_m (0 : Int32) (fun x8 : Int32 =>
  gX8_lookLeast_20 N (a0_, a1_, x8) M7)))) else (
  some M)
set_option maxHeartbeats 4000000 in
set_option maxRecDepth 100000 in
theorem tX8_lookLeast {ad : Nat → Nat} {X : sg_X} {N : Nat} {r : sg_M} (C : sg_C Yc ad X cX8_lookLeast RX8 3 5) (E : sg_eV Yc ad X cX8_lookLeast r) : ∀ (a0_ : Nat) (a1_ : Nat) (M : sg_M), sg_K Yc a0_ 8 → sg_K Yc a1_ 4 → fX8_lookLeast N a0_ a1_ M = some r → sg_T Yc ad X 3 0 [(0, .ref (ad a0_)), (1, .ref (ad a1_))] [] M := by
  intro a0_ a1_ M hq0 hq1 h
  unfold fX8_lookLeast at h
  refine i_aload_n C dX8_lookLeast_0 0 rfl ?_
  refine gf8_38 C hq0 dX8_lookLeast_1 ?_
  refine s_if_eq C 8 (by decide) dX8_lookLeast_4 h (fun _ h => ?_) (fun _ h => ?_)
  · refine i_aload_n C dX8_lookLeast_8 0 rfl ?_
    refine s_iconst C (1 : Int32) dX8_lookLeast_9 (by decide) ?_
    refine pf8_38 C hq0 (by decide) dX8_lookLeast_10 ?_
    refine z_gM h (fun M6 h => ?_)
    refine i_aload_n C dX8_lookLeast_13 0 rfl ?_
    refine s_iconst C (-1 : Int32) dX8_lookLeast_14 (by decide) ?_
    refine pf8_23 C hq0 dX8_lookLeast_15 ?_
    refine z_gM h (fun M7 h => ?_)
    refine s_iconst C (0 : Int32) dX8_lookLeast_18 (by decide) ?_
    refine z_gi h (fun x8 h => ?_)
    refine i_istore_n (lv9 := [(2, _), (0, _), (1, _)]) C 2 dX8_lookLeast_19 rfl (by decide) rfl ?_
    exact sg_T.to (tX8_lookLeast_20 C E _ _ h hq0 hq1) [1, 2, 0] rfl
  · exact s_vret C E dX8_lookLeast_7 h
theorem ctX8_lookLeast {ad : Nat → Nat} {V : sg_V} {N : Nat} (hi : sg_inj Yc ad) {a0_ : Nat} {a1_ : Nat} {M : sg_M} (hq0 : sg_K Yc a0_ 8) (hq1 : sg_K Yc a1_ 4) : ∀ res, fX8_lookLeast N a0_ a1_ M = some res → sg_cV Yc ad V yX8_lookLeast cX8_lookLeast 3 5 [.ref (ad a0_), .ref (ad a1_)] M res := fun res h => sg_bodyV (by decide) hi (Nat.le_of_ble_eq_true rfl) (fun X hX C E => by subst hX; exact tX8_lookLeast C E _ _  _ hq0 hq1 h)
def gX9_look_100 (N : Nat) (k37 : (Nat × Nat × Int32) → sg_M → Option (sg_M)) (a0_ : Nat) (a1_ : Nat) (x2_ : Int32) (M : sg_M) : Option (sg_M) :=
  if sg_ib x2_ (Yc.2.2.1 (Yc.2.2.2 a0_ 3)) = true then
  sg_b (fX1_wearBits N (Yc.2.2.2 a0_ 4) a1_ (Yc.2.2.2 (Yc.2.2.2 a0_ 3) (x2_).toNatClampNeg) M) (fun (x3 : Int32) (M2 : sg_M) =>
  sg_m x3 (fun x4 : Int32 =>
  if x4 = 0 then (
  some M2) else (
  if x2_ = (48 : Int32) then (
  some M2) else (
  if sg_ib x2_ (Yc.2.2.1 (Yc.2.2.2 a0_ 3)) = true then
  if sg_ib (x2_ + (1 : Int32)) (Yc.2.2.1 (Yc.2.2.2 a0_ 3)) = true then
  if sg_cb (0 : Int32) (0 : Int32) (12 : Int32) (Yc.2.2.1 (Yc.2.2.2 (Yc.2.2.2 a0_ 3) (x2_).toNatClampNeg)) (Yc.2.2.1 (Yc.2.2.2 (Yc.2.2.2 a0_ 3) ((x2_ + (1 : Int32))).toNatClampNeg)) = true then
  sg_m (sg_cpy M2 (Yc.2.2.2 (Yc.2.2.2 a0_ 3) (x2_).toNatClampNeg) (Yc.2.2.2 (Yc.2.2.2 a0_ 3) ((x2_ + (1 : Int32))).toNatClampNeg) ((0 : Int32)).toNatClampNeg ((0 : Int32)).toNatClampNeg ((12 : Int32)).toNatClampNeg) (fun M7 : sg_M =>
  if sg_ib (x2_ + (1 : Int32)) (Yc.2.2.1 (Yc.2.2.2 a0_ 3)) = true then
  sg_bv (fX4_shiftWidths N a1_ (Yc.2.2.2 (Yc.2.2.2 a0_ 3) ((x2_ + (1 : Int32))).toNatClampNeg) x4 (-1 : Int32) M7) (fun M9 : sg_M =>
  sg_m (x2_ + (1 : Int32)) (fun x10 : Int32 =>
  k37 (a0_, a1_, x10) M9))
  else none)
  else none
  else none
  else none))))
  else none
set_option maxHeartbeats 4000000 in
set_option maxRecDepth 100000 in
theorem tX9_look_100 {ad : Nat → Nat} {X : sg_X} {N : Nat} {r : sg_M} (C : sg_C Yc ad X cX9_look RX9 4 3) (E : sg_eV Yc ad X cX9_look r) {k37 : (Nat × Nat × Int32) → sg_M → Option (sg_M)} (hk37 : ∀ (s : Nat × Nat × Int32) (M : sg_M), k37 s M = some r → sg_K Yc s.1 9 → sg_K Yc s.2.1 4 → sg_T Yc ad X 4 37 [(0, .ref (ad (s.1))), (1, .ref (ad (s.2.1))), (2, .int (s.2.2))] [] M) : ∀ (a0_ : Nat) (a1_ : Nat) (x2_ : Int32) (M : sg_M), gX9_look_100 N k37 a0_ a1_ x2_ M = some r → sg_K Yc a0_ 9 → sg_K Yc a1_ 4 → sg_T Yc ad X 4 100 [(0, .ref (ad a0_)), (1, .ref (ad a1_)), (2, .int x2_)] [] M := by
  intro a0_ a1_ x2_ M h hq0 hq1
  unfold gX9_look_100 at h
  refine i_aload_n C dX9_look_100 0 rfl ?_
  refine gf9_30 C hq0 dX9_look_101 ?_
  refine i_aload_n C dX9_look_104 1 rfl ?_
  refine i_aload_n C dX9_look_105 0 rfl ?_
  refine gf9_24 C hq0 dX9_look_106 ?_
  refine i_iload_n C dX9_look_109 2 rfl ?_
  have hb1 := (sg_if h).1
  refine s_aaldI C (ky9_3 hq0) dX9_look_110 h (fun h => ?_)
  refine s_vcI C [_, _] vmX1_wearBits lkX9_68 rfl rfl (by decide) (ky9_4 hq0) (by decide) rfl rfl (Nat.le_of_ble_eq_true rfl) dX9_look_111 (ctX1_wearBits C.inj (ky9_4 hq0) hq1 (ke18 (ky9_3 hq0) hb1)) h (fun x3 M2 h => ?_)
  refine z_gi h (fun x4 h => ?_)
  refine i_istore_n (lv9 := [(3, _), (0, _), (1, _), (2, _)]) C 3 dX9_look_114 rfl (by decide) rfl ?_
  refine i_iload_n C dX9_look_115 0 rfl ?_
  refine s_if_eq C 125 (by decide) dX9_look_116 h (fun _ h => ?_) (fun _ h => ?_)
  · exact s_vret C E dX9_look_125 h
  · refine i_iload_n C dX9_look_119 3 rfl ?_
    refine s_bipush C (48 : Int32) dX9_look_120 (by decide) ?_
    refine s_icmp_ne C 126 (by decide) dX9_look_122 h (fun _ h => ?_) (fun _ h => ?_)
    · exact s_vret C E dX9_look_125 h
    · refine i_aload_n C dX9_look_126 1 rfl ?_
      refine gf9_24 C hq0 dX9_look_127 ?_
      refine i_iload_n C dX9_look_130 3 rfl ?_
      have hb5 := (sg_if h).1
      refine s_aaldI C (ky9_3 hq0) dX9_look_131 h (fun h => ?_)
      refine s_iconst C (0 : Int32) dX9_look_132 (by decide) ?_
      refine i_aload_n C dX9_look_133 1 rfl ?_
      refine gf9_24 C hq0 dX9_look_134 ?_
      refine i_iload_n C dX9_look_137 3 rfl ?_
      refine s_iconst C (1 : Int32) dX9_look_138 (by decide) ?_
      refine s_iadd C dX9_look_139 ?_
      have hb6 := (sg_if h).1
      refine s_aaldI C (ky9_3 hq0) dX9_look_140 h (fun h => ?_)
      refine s_iconst C (0 : Int32) dX9_look_141 (by decide) ?_
      refine s_bipush C (12 : Int32) dX9_look_142 (by decide) ?_
      refine s_copy C (by decide) (ke18 (ky9_3 hq0) hb5) (ke18 (ky9_3 hq0) hb6) copy_X9_39 copy_1 copy_2 copy_3 (Nat.le_of_ble_eq_true rfl) dX9_look_144 h (fun h => ?_)
      refine z_gM h (fun M7 h => ?_)
      refine i_aload_n C dX9_look_147 2 rfl ?_
      refine i_aload_n C dX9_look_148 1 rfl ?_
      refine gf9_24 C hq0 dX9_look_149 ?_
      refine i_iload_n C dX9_look_152 3 rfl ?_
      refine s_iconst C (1 : Int32) dX9_look_153 (by decide) ?_
      refine s_iadd C dX9_look_154 ?_
      have hb8 := (sg_if h).1
      refine s_aaldI C (ky9_3 hq0) dX9_look_155 h (fun h => ?_)
      refine i_iload_n C dX9_look_156 0 rfl ?_
      refine s_iconst C (-1 : Int32) dX9_look_157 (by decide) ?_
      refine s_vcV C [_, _, _] vmX4_shiftWidths lkX9_72 rfl rfl (by decide) hq1 (by decide) rfl rfl (Nat.le_of_ble_eq_true rfl) dX9_look_158 (ctX4_shiftWidths C.inj hq1 (ke18 (ky9_3 hq0) hb8)) h (fun M9 h => ?_)
      refine z_iinc (n := 1) (c9 := (1 : Int32)) (by decide) h (fun x10 hx h => ?_)
      refine i_iinc (lv9 := [(2, _), (3, _), (0, _), (1, _)]) C dX9_look_161 3 rfl hx (by decide) rfl ?_
      refine s_goto C 37 (by decide) dX9_look_164 ?_
      exact sg_T.to (hk37 _ _ h hq0 hq1) [2, 3, 0] rfl
def bX9_look_37 (N : Nat)  (k37 : (Nat × Nat × Int32) → sg_M → Option (sg_M)) (s : Nat × Nat × Int32) (M : sg_M) : Option (sg_M) :=
  if (48 : Int32) < s.2.2 then (
  some M) else (
  sg_m (sg_uI M s.1 1 s.2.2) (fun M11 : sg_M =>
  if sg_ib s.2.2 (Yc.2.2.1 (Yc.2.2.2 s.1 3)) = true then
  sg_bv (fX1_settle N (Yc.2.2.2 s.1 4) s.2.1 (Yc.2.2.2 (Yc.2.2.2 s.1 3) (s.2.2).toNatClampNeg) (M11.1 s.2.1 7) (Yc.2.2.2 s.2.1 12) M11) (fun M13 : sg_M =>
  if (M13.1 s.1 2) = (-1 : Int32) then (
  sg_b (fX7_isWithin N (Yc.2.2.2 (Yc.2.2.2 s.1 4) 3) (M13.1 s.2.1 2) M13) (fun (x15 : Int32) (M14 : sg_M) =>
  if x15 = 0 then (
  sg_m (sg_uI M14 s.1 2 s.2.2) (fun M16 : sg_M =>
  gX9_look_100 N k37 s.1 s.2.1 s.2.2 M16)) else (
  gX9_look_100 N k37 s.1 s.2.1 s.2.2 M14))) else (
  gX9_look_100 N k37 s.1 s.2.1 s.2.2 M13))
  else none))
def gX9_look_37 (N : Nat)  : (Nat × Nat × Int32) → sg_M → Option (sg_M) := sg_lp (bX9_look_37 N ) N
set_option maxHeartbeats 4000000 in
set_option maxRecDepth 100000 in
theorem tX9_look_37 {ad : Nat → Nat} {X : sg_X} {N : Nat} {r : sg_M} (C : sg_C Yc ad X cX9_look RX9 4 3) (E : sg_eV Yc ad X cX9_look r)  : ∀ (s : Nat × Nat × Int32) (M : sg_M), gX9_look_37 N s M = some r → sg_K Yc s.1 9 → sg_K Yc s.2.1 4 → sg_T Yc ad X 4 37 [(0, .ref (ad (s.1))), (1, .ref (ad (s.2.1))), (2, .int (s.2.2))] [] M := by
  have key : ∀ n : Nat, ∀ (s : Nat × Nat × Int32) (M : sg_M), sg_lp (bX9_look_37 N) n s M = some r → sg_K Yc s.1 9 → sg_K Yc s.2.1 4 → sg_T Yc ad X 4 37 [(0, .ref (ad (s.1))), (1, .ref (ad (s.2.1))), (2, .int (s.2.2))] [] M := by
    intro n
    induction n with
    | zero => intro s M h; cases h
    | succ n ih =>
      intro s M h hq0 hq1
      have h : bX9_look_37 N (sg_lp (bX9_look_37 N) n) s M = some r := h
      generalize sg_lp (bX9_look_37 N) n = k37 at h ih
      have hk37 := ih
      unfold bX9_look_37 at h
      refine i_iload_n C dX9_look_37 2 rfl ?_
      refine s_bipush C (48 : Int32) dX9_look_38 (by decide) ?_
      refine s_icmp_gt C 167 (by decide) dX9_look_40 h (fun _ h => ?_) (fun _ h => ?_)
      · exact s_vret C E dX9_look_167 h
      · refine i_aload_n C dX9_look_43 0 rfl ?_
        refine i_iload_n C dX9_look_44 2 rfl ?_
        refine pf9_15 C hq0 dX9_look_45 ?_
        refine z_gM h (fun M11 h => ?_)
        refine i_aload_n C dX9_look_48 0 rfl ?_
        refine gf9_30 C hq0 dX9_look_49 ?_
        refine i_aload_n C dX9_look_52 1 rfl ?_
        refine i_aload_n C dX9_look_53 0 rfl ?_
        refine gf9_24 C hq0 dX9_look_54 ?_
        refine i_iload_n C dX9_look_57 2 rfl ?_
        have hb12 := (sg_if h).1
        refine s_aaldI C (ky9_3 hq0) dX9_look_58 h (fun h => ?_)
        refine i_aload_n C dX9_look_59 1 rfl ?_
        refine gf9_45 C hq1 dX9_look_60 ?_
        refine i_aload_n C dX9_look_63 1 rfl ?_
        refine gf9_48 C hq1 dX9_look_64 ?_
        refine s_vcV C [_, _, _, _] vmX1_settle lkX9_51 rfl rfl (by decide) (ky9_4 hq0) (by decide) rfl rfl (Nat.le_of_ble_eq_true rfl) dX9_look_67 (ctX1_settle C.inj (ky9_4 hq0) hq1 (ke18 (ky9_3 hq0) hb12) (ky4_12 hq1)) h (fun M13 h => ?_)
        refine i_aload_n C dX9_look_70 0 rfl ?_
        refine gf9_19 C hq0 dX9_look_71 ?_
        refine s_iconst C (-1 : Int32) dX9_look_74 (by decide) ?_
        refine s_icmp_ne C 100 (by decide) dX9_look_75 h (fun _ h => ?_) (fun _ h => ?_)
        · refine i_aload_n C dX9_look_78 0 rfl ?_
          refine gf9_30 C hq0 dX9_look_79 ?_
          refine gf9_55 C (ky9_4 hq0) dX9_look_82 ?_
          refine i_aload_n C dX9_look_85 1 rfl ?_
          refine gf9_59 C hq1 dX9_look_86 ?_
          refine s_vcI C [_] vmX7_isWithin lkX9_62 rfl rfl (by decide) (ky1_3 (ky9_4 hq0)) (by decide) rfl rfl (Nat.le_of_ble_eq_true rfl) dX9_look_89 (ctX7_isWithin C.inj (ky1_3 (ky9_4 hq0))) h (fun x15 M14 h => ?_)
          refine s_if_ne C 100 (by decide) dX9_look_92 h (fun _ h => ?_) (fun _ h => ?_)
          · refine i_aload_n C dX9_look_95 0 rfl ?_
            refine i_iload_n C dX9_look_96 2 rfl ?_
            refine pf9_19 C hq0 dX9_look_97 ?_
            refine z_gM h (fun M16 h => ?_)
            exact sg_T.to (tX9_look_100 C E hk37 _ _ _ _ h hq0 hq1) [0, 1, 2] rfl
          · exact sg_T.to (tX9_look_100 C E hk37 _ _ _ _ h hq0 hq1) [0, 1, 2] rfl
        · exact sg_T.to (tX9_look_100 C E hk37 _ _ _ _ h hq0 hq1) [0, 1, 2] rfl
  exact key N
def fX9_look (N : Nat) (a0_ : Nat) (a1_ : Nat) (M : sg_M) : Option (sg_M) :=
  if (M.1 a0_ 0) = 0 then (
  sg_m (sg_uI M a0_ 0 (1 : Int32)) (fun M17 : sg_M =>
  sg_m (sg_uI M17 a0_ 2 (-1 : Int32)) (fun M18 : sg_M =>
  if sg_ib (0 : Int32) (Yc.2.2.1 (Yc.2.2.2 a0_ 3)) = true then
  if sg_cb (0 : Int32) (0 : Int32) (12 : Int32) (Yc.2.2.1 (Yc.2.2.2 a1_ 11)) (Yc.2.2.1 (Yc.2.2.2 (Yc.2.2.2 a0_ 3) ((0 : Int32)).toNatClampNeg)) = true then
  sg_m (sg_cpy M18 (Yc.2.2.2 a1_ 11) (Yc.2.2.2 (Yc.2.2.2 a0_ 3) ((0 : Int32)).toNatClampNeg) ((0 : Int32)).toNatClampNeg ((0 : Int32)).toNatClampNeg ((12 : Int32)).toNatClampNeg) (fun M20 : sg_M =>
  sg_m (0 : Int32) (fun x21 : Int32 =>
  gX9_look_37 N (a0_, a1_, x21) M20))
  else none
  else none))) else (
  some M)
set_option maxHeartbeats 4000000 in
set_option maxRecDepth 100000 in
theorem tX9_look {ad : Nat → Nat} {X : sg_X} {N : Nat} {r : sg_M} (C : sg_C Yc ad X cX9_look RX9 4 3) (E : sg_eV Yc ad X cX9_look r) : ∀ (a0_ : Nat) (a1_ : Nat) (M : sg_M), sg_K Yc a0_ 9 → sg_K Yc a1_ 4 → fX9_look N a0_ a1_ M = some r → sg_T Yc ad X 4 0 [(0, .ref (ad a0_)), (1, .ref (ad a1_))] [] M := by
  intro a0_ a1_ M hq0 hq1 h
  unfold fX9_look at h
  refine i_aload_n C dX9_look_0 0 rfl ?_
  refine gf9_9 C hq0 dX9_look_1 ?_
  refine s_if_eq C 8 (by decide) dX9_look_4 h (fun _ h => ?_) (fun _ h => ?_)
  · refine i_aload_n C dX9_look_8 0 rfl ?_
    refine s_iconst C (1 : Int32) dX9_look_9 (by decide) ?_
    refine pf9_9 C hq0 (by decide) dX9_look_10 ?_
    refine z_gM h (fun M17 h => ?_)
    refine i_aload_n C dX9_look_13 0 rfl ?_
    refine s_iconst C (-1 : Int32) dX9_look_14 (by decide) ?_
    refine pf9_19 C hq0 dX9_look_15 ?_
    refine z_gM h (fun M18 h => ?_)
    refine i_aload_n C dX9_look_18 1 rfl ?_
    refine gf9_34 C hq1 dX9_look_19 ?_
    refine s_iconst C (0 : Int32) dX9_look_22 (by decide) ?_
    refine i_aload_n C dX9_look_23 0 rfl ?_
    refine gf9_24 C hq0 dX9_look_24 ?_
    refine s_iconst C (0 : Int32) dX9_look_27 (by decide) ?_
    have hb19 := (sg_if h).1
    refine s_aaldI C (ky9_3 hq0) dX9_look_28 h (fun h => ?_)
    refine s_iconst C (0 : Int32) dX9_look_29 (by decide) ?_
    refine s_bipush C (12 : Int32) dX9_look_30 (by decide) ?_
    refine s_copy C (by decide) (ky4_11 hq1) (ke18 (ky9_3 hq0) hb19) copy_X9_39 copy_1 copy_2 copy_3 (Nat.le_of_ble_eq_true rfl) dX9_look_32 h (fun h => ?_)
    refine z_gM h (fun M20 h => ?_)
    refine s_iconst C (0 : Int32) dX9_look_35 (by decide) ?_
    refine z_gi h (fun x21 h => ?_)
    refine i_istore_n (lv9 := [(2, _), (0, _), (1, _)]) C 2 dX9_look_36 rfl (by decide) rfl ?_
    exact sg_T.to (tX9_look_37 C E _ _ h hq0 hq1) [1, 2, 0] rfl
  · exact s_vret C E dX9_look_7 h
theorem ctX9_look {ad : Nat → Nat} {V : sg_V} {N : Nat} (hi : sg_inj Yc ad) {a0_ : Nat} {a1_ : Nat} {M : sg_M} (hq0 : sg_K Yc a0_ 9) (hq1 : sg_K Yc a1_ 4) : ∀ res, fX9_look N a0_ a1_ M = some res → sg_cV Yc ad V yX9_look cX9_look 4 3 [.ref (ad a0_), .ref (ad a1_)] M res := fun res h => sg_bodyV (by decide) hi (Nat.le_of_ble_eq_true rfl) (fun X hX C E => by subst hX; exact tX9_look C E _ _  _ hq0 hq1 h)
