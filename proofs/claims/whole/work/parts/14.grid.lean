def fX10_feed (N : Nat) (a0_ : Nat) (x1_ : Int32) (x2_ : Int32) (x3_ : Int32) (x4_ : Int32) (x5_ : Int32) (M : sg_M) : Option (Int32 × sg_M) :=
  if ((M.1 (Yc.2.2.2 a0_ 0) 0) + (20 : Int32)) ≤ (700 : Int32) then (
  sg_bv (fX6_putBytes N (Yc.2.2.2 a0_ 0) x1_ M) (fun M1 : sg_M =>
  sg_bv (fX6_putBytes N (Yc.2.2.2 a0_ 0) x2_ M1) (fun M2 : sg_M =>
  sg_bv (fX6_putBytes N (Yc.2.2.2 a0_ 0) x3_ M2) (fun M3 : sg_M =>
  sg_bv (fX6_putBytes N (Yc.2.2.2 a0_ 0) x4_ M3) (fun M4 : sg_M =>
  sg_bv (fX6_putBytes N (Yc.2.2.2 a0_ 0) x5_ M4) (fun M5 : sg_M =>
  some ((M5.1 (Yc.2.2.2 a0_ 0) 0), M5))))))) else (
  some ((-1 : Int32), M))
set_option maxHeartbeats 4000000 in
set_option maxRecDepth 100000 in
theorem tX10_feed {ad : Nat → Nat} {X : sg_X} {N : Nat} {r : Int32 × sg_M} (C : sg_C Yc ad X cX10_feed RX10 6 1) (E : sg_eI Yc ad X cX10_feed .int r) : ∀ (a0_ : Nat) (x1_ : Int32) (x2_ : Int32) (x3_ : Int32) (x4_ : Int32) (x5_ : Int32) (M : sg_M), sg_K Yc a0_ 10 → fX10_feed N a0_ x1_ x2_ x3_ x4_ x5_ M = some r → sg_T Yc ad X 6 0 [(0, .ref (ad a0_)), (1, .int x1_), (2, .int x2_), (3, .int x3_), (4, .int x4_), (5, .int x5_)] [] M := by
  intro a0_ x1_ x2_ x3_ x4_ x5_ M hq0 h
  unfold fX10_feed at h
  refine i_aload_n C dX10_feed_0 0 rfl ?_
  refine gf10_12 C hq0 dX10_feed_1 ?_
  refine gf10_87 C (ky10_0 hq0) dX10_feed_4 ?_
  refine s_bipush C (20 : Int32) dX10_feed_7 (by decide) ?_
  refine s_iadd C dX10_feed_9 ?_
  refine s_sipush C (700 : Int32) dX10_feed_10 (by decide) ?_
  refine s_icmp_le C 18 (by decide) dX10_feed_13 h (fun _ h => ?_) (fun _ h => ?_)
  · refine i_aload_n C dX10_feed_18 0 rfl ?_
    refine gf10_12 C hq0 dX10_feed_19 ?_
    refine i_iload_n C dX10_feed_22 1 rfl ?_
    refine s_vcV C [_] vmX6_putBytes lkX10_91 rfl rfl (by decide) (ky10_0 hq0) (by decide) rfl rfl (Nat.le_of_ble_eq_true rfl) dX10_feed_23 (ctX6_putBytes C.inj (ky10_0 hq0)) h (fun M1 h => ?_)
    refine i_aload_n C dX10_feed_26 0 rfl ?_
    refine gf10_12 C hq0 dX10_feed_27 ?_
    refine i_iload_n C dX10_feed_30 2 rfl ?_
    refine s_vcV C [_] vmX6_putBytes lkX10_91 rfl rfl (by decide) (ky10_0 hq0) (by decide) rfl rfl (Nat.le_of_ble_eq_true rfl) dX10_feed_31 (ctX6_putBytes C.inj (ky10_0 hq0)) h (fun M2 h => ?_)
    refine i_aload_n C dX10_feed_34 0 rfl ?_
    refine gf10_12 C hq0 dX10_feed_35 ?_
    refine i_iload_n C dX10_feed_38 3 rfl ?_
    refine s_vcV C [_] vmX6_putBytes lkX10_91 rfl rfl (by decide) (ky10_0 hq0) (by decide) rfl rfl (Nat.le_of_ble_eq_true rfl) dX10_feed_39 (ctX6_putBytes C.inj (ky10_0 hq0)) h (fun M3 h => ?_)
    refine i_aload_n C dX10_feed_42 0 rfl ?_
    refine gf10_12 C hq0 dX10_feed_43 ?_
    refine i_iload C dX10_feed_46 4 rfl ?_
    refine s_vcV C [_] vmX6_putBytes lkX10_91 rfl rfl (by decide) (ky10_0 hq0) (by decide) rfl rfl (Nat.le_of_ble_eq_true rfl) dX10_feed_48 (ctX6_putBytes C.inj (ky10_0 hq0)) h (fun M4 h => ?_)
    refine i_aload_n C dX10_feed_51 0 rfl ?_
    refine gf10_12 C hq0 dX10_feed_52 ?_
    refine i_iload C dX10_feed_55 5 rfl ?_
    refine s_vcV C [_] vmX6_putBytes lkX10_91 rfl rfl (by decide) (ky10_0 hq0) (by decide) rfl rfl (Nat.le_of_ble_eq_true rfl) dX10_feed_57 (ctX6_putBytes C.inj (ky10_0 hq0)) h (fun M5 h => ?_)
    refine i_aload_n C dX10_feed_60 0 rfl ?_
    refine gf10_12 C hq0 dX10_feed_61 ?_
    refine gf10_87 C (ky10_0 hq0) dX10_feed_64 ?_
    exact s_iret C E dX10_feed_67 h
  · refine s_iconst C (-1 : Int32) dX10_feed_16 (by decide) ?_
    exact s_iret C E dX10_feed_17 h
theorem ctX10_feed {ad : Nat → Nat} {V : sg_V} {N : Nat} (hi : sg_inj Yc ad) {a0_ : Nat} {x1_ : Int32} {x2_ : Int32} {x3_ : Int32} {x4_ : Int32} {x5_ : Int32} {M : sg_M} (hq0 : sg_K Yc a0_ 10) : ∀ res, fX10_feed N a0_ x1_ x2_ x3_ x4_ x5_ M = some res → sg_cI Yc ad V yX10_feed cX10_feed 6 .int 1 [.ref (ad a0_), .int x1_, .int x2_, .int x3_, .int x4_, .int x5_] M res := fun res h => sg_bodyI (by decide) hi (Nat.le_of_ble_eq_true rfl) (fun X hX C E => by subst hX; exact tX10_feed C E _ _ _ _ _ _  _ hq0 h)
def fX10_end (N : Nat) (a0_ : Nat) (x1_ : Int32) (M : sg_M) : Option (Int32 × sg_M) :=
  if x1_ < 0 then (
  some ((-1 : Int32), M)) else (
  if x1_ ≤ (M.1 (Yc.2.2.2 a0_ 0) 0) then (
  sg_m (sg_uI M (Yc.2.2.2 a0_ 0) 0 x1_) (fun M1 : sg_M =>
  some (x1_, M1))) else (
  some ((-1 : Int32), M)))
set_option maxHeartbeats 4000000 in
set_option maxRecDepth 100000 in
theorem tX10_end {ad : Nat → Nat} {X : sg_X} {N : Nat} {r : Int32 × sg_M} (C : sg_C Yc ad X cX10_end RX10 2 0) (E : sg_eI Yc ad X cX10_end .int r) : ∀ (a0_ : Nat) (x1_ : Int32) (M : sg_M), sg_K Yc a0_ 10 → fX10_end N a0_ x1_ M = some r → sg_T Yc ad X 2 0 [(0, .ref (ad a0_)), (1, .int x1_)] [] M := by
  intro a0_ x1_ M hq0 h
  unfold fX10_end at h
  refine i_iload_n C dX10_end_0 1 rfl ?_
  refine s_if_lt C 15 (by decide) dX10_end_1 h (fun _ h => ?_) (fun _ h => ?_)
  · refine s_iconst C (-1 : Int32) dX10_end_15 (by decide) ?_
    exact s_iret C E dX10_end_16 h
  · refine i_iload_n C dX10_end_4 1 rfl ?_
    refine i_aload_n C dX10_end_5 0 rfl ?_
    refine gf10_12 C hq0 dX10_end_6 ?_
    refine gf10_87 C (ky10_0 hq0) dX10_end_9 ?_
    refine s_icmp_le C 17 (by decide) dX10_end_12 h (fun _ h => ?_) (fun _ h => ?_)
    · refine i_aload_n C dX10_end_17 0 rfl ?_
      refine gf10_12 C hq0 dX10_end_18 ?_
      refine i_iload_n C dX10_end_21 1 rfl ?_
      refine pf10_87 C (ky10_0 hq0) dX10_end_22 ?_
      refine z_gM h (fun M1 h => ?_)
      refine i_iload_n C dX10_end_25 1 rfl ?_
      exact s_iret C E dX10_end_26 h
    · refine s_iconst C (-1 : Int32) dX10_end_15 (by decide) ?_
      exact s_iret C E dX10_end_16 h
theorem ctX10_end {ad : Nat → Nat} {V : sg_V} {N : Nat} (hi : sg_inj Yc ad) {a0_ : Nat} {x1_ : Int32} {M : sg_M} (hq0 : sg_K Yc a0_ 10) : ∀ res, fX10_end N a0_ x1_ M = some res → sg_cI Yc ad V yX10_end cX10_end 2 .int 0 [.ref (ad a0_), .int x1_] M res := fun res h => sg_bodyI (by decide) hi (Nat.le_of_ble_eq_true rfl) (fun X hX C E => by subst hX; exact tX10_end C E _ _  _ hq0 h)
def fX10_forget (N : Nat) (a0_ : Nat) (M : sg_M) : Option (sg_M) :=
  sg_m (sg_uI M a0_ 5 (0 : Int32)) (fun M1 : sg_M =>
  sg_m (sg_uI M1 (Yc.2.2.2 a0_ 8) 0 (0 : Int32)) (fun M2 : sg_M =>
  sg_bv (fX5_forgetAll N (Yc.2.2.2 a0_ 9) M2) (fun M3 : sg_M =>
  sg_bv (fX8_forgetAll N (Yc.2.2.2 a0_ 10) M3) (fun M4 : sg_M =>
  sg_bv (fX3_forgetAll N (Yc.2.2.2 a0_ 11) M4) (fun M5 : sg_M =>
  some M5)))))
set_option maxHeartbeats 4000000 in
set_option maxRecDepth 100000 in
theorem tX10_forget {ad : Nat → Nat} {X : sg_X} {N : Nat} {r : sg_M} (C : sg_C Yc ad X cX10_forget RX10 1 1) (E : sg_eV Yc ad X cX10_forget r) : ∀ (a0_ : Nat) (M : sg_M), sg_K Yc a0_ 10 → fX10_forget N a0_ M = some r → sg_T Yc ad X 1 0 [(0, .ref (ad a0_))] [] M := by
  intro a0_ M hq0 h
  unfold fX10_forget at h
  refine i_aload_n C dX10_forget_0 0 rfl ?_
  refine s_iconst C (0 : Int32) dX10_forget_1 (by decide) ?_
  refine pf10_38 C hq0 (by decide) dX10_forget_2 ?_
  refine z_gM h (fun M1 h => ?_)
  refine i_aload_n C dX10_forget_5 0 rfl ?_
  refine gf10_55 C hq0 dX10_forget_6 ?_
  refine s_iconst C (0 : Int32) dX10_forget_9 (by decide) ?_
  refine pf10_380 C (ky10_8 hq0) (by decide) dX10_forget_10 ?_
  refine z_gM h (fun M2 h => ?_)
  refine i_aload_n C dX10_forget_13 0 rfl ?_
  refine gf10_62 C hq0 dX10_forget_14 ?_
  refine s_vcV C [] vmX5_forgetAll lkX10_383 rfl rfl (by decide) (ky10_9 hq0) (by decide) rfl rfl (Nat.le_of_ble_eq_true rfl) dX10_forget_17 (ctX5_forgetAll C.inj (ky10_9 hq0)) h (fun M3 h => ?_)
  refine i_aload_n C dX10_forget_20 0 rfl ?_
  refine gf10_69 C hq0 dX10_forget_21 ?_
  refine s_vcV C [] vmX8_forgetAll lkX10_386 rfl rfl (by decide) (ky10_10 hq0) (by decide) rfl rfl (Nat.le_of_ble_eq_true rfl) dX10_forget_24 (ctX8_forgetAll C.inj (ky10_10 hq0)) h (fun M4 h => ?_)
  refine i_aload_n C dX10_forget_27 0 rfl ?_
  refine gf10_76 C hq0 dX10_forget_28 ?_
  refine s_vcV C [] vmX3_forgetAll lkX10_387 rfl rfl (by decide) (ky10_11 hq0) (by decide) rfl rfl (Nat.le_of_ble_eq_true rfl) dX10_forget_31 (ctX3_forgetAll C.inj (ky10_11 hq0)) h (fun M5 h => ?_)
  exact s_vret C E dX10_forget_34 h
theorem ctX10_forget {ad : Nat → Nat} {V : sg_V} {N : Nat} (hi : sg_inj Yc ad) {a0_ : Nat} {M : sg_M} (hq0 : sg_K Yc a0_ 10) : ∀ res, fX10_forget N a0_ M = some res → sg_cV Yc ad V yX10_forget cX10_forget 1 1 [.ref (ad a0_)] M res := fun res h => sg_bodyV (by decide) hi (Nat.le_of_ble_eq_true rfl) (fun X hX C E => by subst hX; exact tX10_forget C E _  _ hq0 h)
def fX10_grid (N : Nat) (a0_ : Nat) (M : sg_M) : Option (Int32 × sg_M) :=
  sg_b (fX6_readText N (Yc.2.2.2 a0_ 0) M) (fun (x2 : Int32) (M1 : sg_M) =>
  sg_m x2 (fun x3 : Int32 =>
  sg_m (sg_uI M1 (Yc.2.2.2 a0_ 0) 0 (0 : Int32)) (fun M4 : sg_M =>
  if x3 = 0 then (
  some ((-4 : Int32), M4)) else (
  sg_bv (fX4_copyFrom N (Yc.2.2.2 a0_ 1) (Yc.2.2.2 (Yc.2.2.2 a0_ 0) 3) M4) (fun M5 : sg_M =>
  sg_bv (fX10_forget N a0_ M5) (fun M6 : sg_M =>
  some ((M6.1 (Yc.2.2.2 a0_ 1) 4), M6)))))))
set_option maxHeartbeats 4000000 in
set_option maxRecDepth 100000 in
theorem tX10_grid {ad : Nat → Nat} {X : sg_X} {N : Nat} {r : Int32 × sg_M} (C : sg_C Yc ad X cX10_grid RX10 2 8) (E : sg_eI Yc ad X cX10_grid .int r) : ∀ (a0_ : Nat) (M : sg_M), sg_K Yc a0_ 10 → fX10_grid N a0_ M = some r → sg_T Yc ad X 2 0 [(0, .ref (ad a0_))] [] M := by
  intro a0_ M hq0 h
  unfold fX10_grid at h
  refine i_aload_n C dX10_grid_0 0 rfl ?_
  refine gf10_12 C hq0 dX10_grid_1 ?_
  refine s_vcI C [] vmX6_readText lkX10_95 rfl rfl (by decide) (ky10_0 hq0) (by decide) rfl rfl (Nat.le_of_ble_eq_true rfl) dX10_grid_4 (ctX6_readText C.inj (ky10_0 hq0)) h (fun x2 M1 h => ?_)
  refine z_gi h (fun x3 h => ?_)
  refine i_istore_n (lv9 := [(1, _), (0, _)]) C 1 dX10_grid_7 rfl (by decide) rfl ?_
  refine i_aload_n C dX10_grid_8 1 rfl ?_
  refine gf10_12 C hq0 dX10_grid_9 ?_
  refine s_iconst C (0 : Int32) dX10_grid_12 (by decide) ?_
  refine pf10_87 C (ky10_0 hq0) dX10_grid_13 ?_
  refine z_gM h (fun M4 h => ?_)
  refine i_iload_n C dX10_grid_16 0 rfl ?_
  refine s_if_ne C 23 (by decide) dX10_grid_17 h (fun _ h => ?_) (fun _ h => ?_)
  · refine s_bipush C (-4 : Int32) dX10_grid_20 (by decide) ?_
    exact s_iret C E dX10_grid_22 h
  · refine i_aload_n C dX10_grid_23 1 rfl ?_
    refine gf10_19 C hq0 dX10_grid_24 ?_
    refine i_aload_n C dX10_grid_27 1 rfl ?_
    refine gf10_12 C hq0 dX10_grid_28 ?_
    refine gf10_99 C (ky10_0 hq0) dX10_grid_31 ?_
    refine s_vcV C [_] vmX4_copyFrom lkX10_102 rfl rfl (by decide) (ky10_1 hq0) (by decide) rfl rfl (Nat.le_of_ble_eq_true rfl) dX10_grid_34 (ctX4_copyFrom C.inj (ky10_1 hq0) (ky6_3 (ky10_0 hq0))) h (fun M5 h => ?_)
    refine i_aload_n C dX10_grid_37 1 rfl ?_
    refine s_vcV C [] vmX10_forget lkX10_106 rfl rfl (by decide) hq0 (by decide) rfl rfl (Nat.le_of_ble_eq_true rfl) dX10_grid_38 (ctX10_forget C.inj hq0) h (fun M6 h => ?_)
    refine i_aload_n C dX10_grid_41 1 rfl ?_
    refine gf10_19 C hq0 dX10_grid_42 ?_
    refine gf10_109 C (ky10_1 hq0) dX10_grid_45 ?_
    exact s_iret C E dX10_grid_48 h
theorem ctX10_grid {ad : Nat → Nat} {V : sg_V} {N : Nat} (hi : sg_inj Yc ad) {a0_ : Nat} {M : sg_M} (hq0 : sg_K Yc a0_ 10) : ∀ res, fX10_grid N a0_ M = some res → sg_cI Yc ad V yX10_grid cX10_grid 2 .int 8 [.ref (ad a0_)] M res := fun res h => sg_bodyI (by decide) hi (Nat.le_of_ble_eq_true rfl) (fun X hX C E => by subst hX; exact tX10_grid C E _  _ hq0 h)
def fX10_fault (N : Nat) (a0_ : Nat) (x1_ : Int32) (M : sg_M) : Option (Int32 × sg_M) :=
  if x1_ = 0 then (
  some ((M.1 (Yc.2.2.2 a0_ 0) 1), M)) else (
  if x1_ = (1 : Int32) then (
  some ((M.1 (Yc.2.2.2 a0_ 0) 2), M)) else (
  some ((-1 : Int32), M)))
set_option maxHeartbeats 4000000 in
set_option maxRecDepth 100000 in
theorem tX10_fault {ad : Nat → Nat} {X : sg_X} {N : Nat} {r : Int32 × sg_M} (C : sg_C Yc ad X cX10_fault RX10 2 0) (E : sg_eI Yc ad X cX10_fault .int r) : ∀ (a0_ : Nat) (x1_ : Int32) (M : sg_M), sg_K Yc a0_ 10 → fX10_fault N a0_ x1_ M = some r → sg_T Yc ad X 2 0 [(0, .ref (ad a0_)), (1, .int x1_)] [] M := by
  intro a0_ x1_ M hq0 h
  unfold fX10_fault at h
  refine i_iload_n C dX10_fault_0 1 rfl ?_
  refine s_if_ne C 12 (by decide) dX10_fault_1 h (fun _ h => ?_) (fun _ h => ?_)
  · refine i_aload_n C dX10_fault_4 0 rfl ?_
    refine gf10_12 C hq0 dX10_fault_5 ?_
    refine gf10_112 C (ky10_0 hq0) dX10_fault_8 ?_
    exact s_iret C E dX10_fault_11 h
  · refine i_iload_n C dX10_fault_12 1 rfl ?_
    refine s_iconst C (1 : Int32) dX10_fault_13 (by decide) ?_
    refine s_icmp_ne C 27 (by decide) dX10_fault_14 h (fun _ h => ?_) (fun _ h => ?_)
    · refine i_aload_n C dX10_fault_17 0 rfl ?_
      refine gf10_12 C hq0 dX10_fault_18 ?_
      refine gf10_115 C (ky10_0 hq0) dX10_fault_21 ?_
      refine s_goto C 28 (by decide) dX10_fault_24 ?_
      exact s_iret C E dX10_fault_28 h
    · refine s_iconst C (-1 : Int32) dX10_fault_27 (by decide) ?_
      exact s_iret C E dX10_fault_28 h
theorem ctX10_fault {ad : Nat → Nat} {V : sg_V} {N : Nat} (hi : sg_inj Yc ad) {a0_ : Nat} {x1_ : Int32} {M : sg_M} (hq0 : sg_K Yc a0_ 10) : ∀ res, fX10_fault N a0_ x1_ M = some res → sg_cI Yc ad V yX10_fault cX10_fault 2 .int 0 [.ref (ad a0_), .int x1_] M res := fun res h => sg_bodyI (by decide) hi (Nat.le_of_ble_eq_true rfl) (fun X hX C E => by subst hX; exact tX10_fault C E _ _  _ hq0 h)
def fX10_now (N : Nat) (a0_ : Nat) (M : sg_M) : Option (Nat × sg_M) :=
  if (M.1 a0_ 5) = 0 then (
  sg_bv (fX1_settle N (Yc.2.2.2 a0_ 4) (Yc.2.2.2 a0_ 1) (Yc.2.2.2 (Yc.2.2.2 a0_ 1) 11) (M.1 (Yc.2.2.2 a0_ 1) 7) (Yc.2.2.2 (Yc.2.2.2 a0_ 1) 12) M) (fun M1 : sg_M =>
  sg_m (sg_uI M1 a0_ 5 (1 : Int32)) (fun M2 : sg_M =>
  some ((Yc.2.2.2 a0_ 4), M2)))) else (
  some ((Yc.2.2.2 a0_ 4), M))
set_option maxHeartbeats 4000000 in
set_option maxRecDepth 100000 in
theorem tX10_now {ad : Nat → Nat} {X : sg_X} {N : Nat} {r : Nat × sg_M} (C : sg_C Yc ad X cX10_now RX10 1 3) (E : sg_eR Yc ad X cX10_now r) : ∀ (a0_ : Nat) (M : sg_M), sg_K Yc a0_ 10 → fX10_now N a0_ M = some r → sg_T Yc ad X 1 0 [(0, .ref (ad a0_))] [] M := by
  intro a0_ M hq0 h
  unfold fX10_now at h
  refine i_aload_n C dX10_now_0 0 rfl ?_
  refine gf10_38 C hq0 dX10_now_1 ?_
  refine s_if_ne C 44 (by decide) dX10_now_4 h (fun _ h => ?_) (fun _ h => ?_)
  · refine i_aload_n C dX10_now_7 0 rfl ?_
    refine gf10_34 C hq0 dX10_now_8 ?_
    refine i_aload_n C dX10_now_11 0 rfl ?_
    refine gf10_19 C hq0 dX10_now_12 ?_
    refine i_aload_n C dX10_now_15 0 rfl ?_
    refine gf10_19 C hq0 dX10_now_16 ?_
    refine gf10_157 C (ky10_1 hq0) dX10_now_19 ?_
    refine i_aload_n C dX10_now_22 0 rfl ?_
    refine gf10_19 C hq0 dX10_now_23 ?_
    refine gf10_136 C (ky10_1 hq0) dX10_now_26 ?_
    refine i_aload_n C dX10_now_29 0 rfl ?_
    refine gf10_19 C hq0 dX10_now_30 ?_
    refine gf10_170 C (ky10_1 hq0) dX10_now_33 ?_
    refine s_vcV C [_, _, _, _] vmX1_settle lkX10_376 rfl rfl (by decide) (ky10_4 hq0) (by decide) rfl rfl (Nat.le_of_ble_eq_true rfl) dX10_now_36 (ctX1_settle C.inj (ky10_4 hq0) (ky10_1 hq0) (ky4_11 (ky10_1 hq0)) (ky4_12 (ky10_1 hq0))) h (fun M1 h => ?_)
    refine i_aload_n C dX10_now_39 0 rfl ?_
    refine s_iconst C (1 : Int32) dX10_now_40 (by decide) ?_
    refine pf10_38 C hq0 (by decide) dX10_now_41 ?_
    refine z_gM h (fun M2 h => ?_)
    refine i_aload_n C dX10_now_44 0 rfl ?_
    refine gf10_34 C hq0 dX10_now_45 ?_
    exact s_aret C E dX10_now_48 h
  · refine i_aload_n C dX10_now_44 0 rfl ?_
    refine gf10_34 C hq0 dX10_now_45 ?_
    exact s_aret C E dX10_now_48 h
theorem ctX10_now {ad : Nat → Nat} {V : sg_V} {N : Nat} (hi : sg_inj Yc ad) {a0_ : Nat} {M : sg_M} (hq0 : sg_K Yc a0_ 10) : ∀ res, fX10_now N a0_ M = some res → sg_cR Yc ad V yX10_now cX10_now 1 ((.object "SupplyGrid$Flow")) 3 [.ref (ad a0_)] M res := fun res h => sg_bodyR (Or.inl ⟨_, rfl⟩) (by decide) hi (Nat.le_of_ble_eq_true rfl) (fun X hX C E => by subst hX; exact tX10_now C E _  _ hq0 h)
theorem krX10_now {N a x : Nat} {M M1 : sg_M} (h : sg_K Yc a 10) (hf : fX10_now N a M = some (x, M1)) : sg_K Yc x 1 := by
  have e : x = Yc.2.2.2 a 4 := by
    unfold fX10_now at hf
    split at hf
    · unfold sg_bv at hf
      split at hf
      · cases hf; rfl
      · cases hf
    · cases hf; rfl
  rw [e]
  exact ky10_4 h

def fX10_count (N : Nat) (a0_ : Nat) (x1_ : Int32) (M : sg_M) : Option (Int32 × sg_M) :=
  if x1_ = (0 : Int32) then (
  some ((M.1 (Yc.2.2.2 a0_ 1) 0), M)) else (
  if x1_ = (1 : Int32) then (
  some ((M.1 (Yc.2.2.2 a0_ 1) 1), M)) else (
  if x1_ = (2 : Int32) then (
  some ((M.1 (Yc.2.2.2 a0_ 1) 2), M)) else (
  if x1_ = (3 : Int32) then (
  some ((M.1 (Yc.2.2.2 a0_ 1) 3), M)) else (
  if x1_ = (4 : Int32) then (
  some ((M.1 (Yc.2.2.2 a0_ 1) 6), M)) else (
  if x1_ = (5 : Int32) then (
  some ((M.1 (Yc.2.2.2 a0_ 1) 8), M)) else (
  if x1_ = (6 : Int32) then (
  some ((M.1 (Yc.2.2.2 a0_ 1) 4), M)) else (
  if x1_ = (7 : Int32) then (
  some ((M.1 (Yc.2.2.2 a0_ 0) 0), M)) else (
  if x1_ = (8 : Int32) then (
  some ((M.1 (Yc.2.2.2 a0_ 1) 7), M)) else (
  if x1_ = (9 : Int32) then (
  sg_b (fX10_now N a0_ M) (fun (x2 : Nat) (M1 : sg_M) =>
  some ((M1.1 x2 0), M1))) else (
  some ((-1 : Int32), M)))))))))))
set_option maxHeartbeats 4000000 in
set_option maxRecDepth 100000 in
theorem tX10_count {ad : Nat → Nat} {X : sg_X} {N : Nat} {r : Int32 × sg_M} (C : sg_C Yc ad X cX10_count RX10 2 4) (E : sg_eI Yc ad X cX10_count .int r) : ∀ (a0_ : Nat) (x1_ : Int32) (M : sg_M), sg_K Yc a0_ 10 → fX10_count N a0_ x1_ M = some r → sg_T Yc ad X 2 0 [(0, .ref (ad a0_)), (1, .int x1_)] [] M := by
  intro a0_ x1_ M hq0 h
  unfold fX10_count at h
  refine i_iload_n C dX10_count_0 1 rfl ?_
  refine z_if h (fun e h => ?_) (fun e0 h => ?_)
  · refine s_tabIn (off := 55) C 56 e (by decide) (by decide) dX10_count_1 ?_
    refine i_aload_n C dX10_count_56 0 rfl ?_
    refine gf10_19 C hq0 dX10_count_57 ?_
    refine gf10_118 C (ky10_1 hq0) dX10_count_60 ?_
    exact s_iret C E dX10_count_63 h
  refine z_if h (fun e h => ?_) (fun e1 h => ?_)
  · refine s_tabIn (off := 63) C 64 e (by decide) (by decide) dX10_count_1 ?_
    refine i_aload_n C dX10_count_64 0 rfl ?_
    refine gf10_19 C hq0 dX10_count_65 ?_
    refine gf10_121 C (ky10_1 hq0) dX10_count_68 ?_
    exact s_iret C E dX10_count_71 h
  refine z_if h (fun e h => ?_) (fun e2 h => ?_)
  · refine s_tabIn (off := 71) C 72 e (by decide) (by decide) dX10_count_1 ?_
    refine i_aload_n C dX10_count_72 0 rfl ?_
    refine gf10_19 C hq0 dX10_count_73 ?_
    refine gf10_124 C (ky10_1 hq0) dX10_count_76 ?_
    exact s_iret C E dX10_count_79 h
  refine z_if h (fun e h => ?_) (fun e3 h => ?_)
  · refine s_tabIn (off := 79) C 80 e (by decide) (by decide) dX10_count_1 ?_
    refine i_aload_n C dX10_count_80 0 rfl ?_
    refine gf10_19 C hq0 dX10_count_81 ?_
    refine gf10_127 C (ky10_1 hq0) dX10_count_84 ?_
    exact s_iret C E dX10_count_87 h
  refine z_if h (fun e h => ?_) (fun e4 h => ?_)
  · refine s_tabIn (off := 87) C 88 e (by decide) (by decide) dX10_count_1 ?_
    refine i_aload_n C dX10_count_88 0 rfl ?_
    refine gf10_19 C hq0 dX10_count_89 ?_
    refine gf10_130 C (ky10_1 hq0) dX10_count_92 ?_
    exact s_iret C E dX10_count_95 h
  refine z_if h (fun e h => ?_) (fun e5 h => ?_)
  · refine s_tabIn (off := 95) C 96 e (by decide) (by decide) dX10_count_1 ?_
    refine i_aload_n C dX10_count_96 0 rfl ?_
    refine gf10_19 C hq0 dX10_count_97 ?_
    refine gf10_133 C (ky10_1 hq0) dX10_count_100 ?_
    exact s_iret C E dX10_count_103 h
  refine z_if h (fun e h => ?_) (fun e6 h => ?_)
  · refine s_tabIn (off := 103) C 104 e (by decide) (by decide) dX10_count_1 ?_
    refine i_aload_n C dX10_count_104 0 rfl ?_
    refine gf10_19 C hq0 dX10_count_105 ?_
    refine gf10_109 C (ky10_1 hq0) dX10_count_108 ?_
    exact s_iret C E dX10_count_111 h
  refine z_if h (fun e h => ?_) (fun e7 h => ?_)
  · refine s_tabIn (off := 111) C 112 e (by decide) (by decide) dX10_count_1 ?_
    refine i_aload_n C dX10_count_112 0 rfl ?_
    refine gf10_12 C hq0 dX10_count_113 ?_
    refine gf10_87 C (ky10_0 hq0) dX10_count_116 ?_
    exact s_iret C E dX10_count_119 h
  refine z_if h (fun e h => ?_) (fun e8 h => ?_)
  · refine s_tabIn (off := 119) C 120 e (by decide) (by decide) dX10_count_1 ?_
    refine i_aload_n C dX10_count_120 0 rfl ?_
    refine gf10_19 C hq0 dX10_count_121 ?_
    refine gf10_136 C (ky10_1 hq0) dX10_count_124 ?_
    exact s_iret C E dX10_count_127 h
  refine z_if h (fun e h => ?_) (fun e9 h => ?_)
  · refine s_tabIn (off := 127) C 128 e (by decide) (by decide) dX10_count_1 ?_
    refine i_aload_n C dX10_count_128 0 rfl ?_
    refine s_vcR C [] vmX10_now lkX10_139 rfl rfl (by decide) hq0 (by decide) rfl rfl (Nat.le_of_ble_eq_true rfl) dX10_count_129 (ctX10_now C.inj hq0) h (fun x2 M1 hfx2 h => ?_)
    refine gf10_143 C (krX10_now hq0 hfx2) dX10_count_132 ?_
    exact s_iret C E dX10_count_135 h
  refine s_tabOut C 136 (by have q0 := sg_ne (a := 0) e0 (by decide); have q1 := sg_ne (a := 1) e1 (by decide); have q2 := sg_ne (a := 2) e2 (by decide); have q3 := sg_ne (a := 3) e3 (by decide); have q4 := sg_ne (a := 4) e4 (by decide); have q5 := sg_ne (a := 5) e5 (by decide); have q6 := sg_ne (a := 6) e6 (by decide); have q7 := sg_ne (a := 7) e7 (by decide); have q8 := sg_ne (a := 8) e8 (by decide); have q9 := sg_ne (a := 9) e9 (by decide); omega) (by decide) dX10_count_1 ?_
  refine s_iconst C (-1 : Int32) dX10_count_136 (by decide) ?_
  exact s_iret C E dX10_count_137 h
theorem ctX10_count {ad : Nat → Nat} {V : sg_V} {N : Nat} (hi : sg_inj Yc ad) {a0_ : Nat} {x1_ : Int32} {M : sg_M} (hq0 : sg_K Yc a0_ 10) : ∀ res, fX10_count N a0_ x1_ M = some res → sg_cI Yc ad V yX10_count cX10_count 2 .int 4 [.ref (ad a0_), .int x1_] M res := fun res h => sg_bodyI (by decide) hi (Nat.le_of_ble_eq_true rfl) (fun X hX C E => by subst hX; exact tX10_count C E _ _  _ hq0 h)
def fX10_hasStrap (N : Nat) (a0_ : Nat) (x1_ : Int32) (M : sg_M) : Option (Int32 × sg_M) :=
  if x1_ < 0 then (
  some ((0 : Int32), M)) else (
  if (M.1 (Yc.2.2.2 a0_ 1) 6) ≤ x1_ then (
  some ((0 : Int32), M)) else (
  some ((1 : Int32), M)))
set_option maxHeartbeats 4000000 in
set_option maxRecDepth 100000 in
theorem tX10_hasStrap {ad : Nat → Nat} {X : sg_X} {N : Nat} {r : Int32 × sg_M} (C : sg_C Yc ad X cX10_hasStrap RX10 2 0) (E : sg_eI Yc ad X cX10_hasStrap .boolean r) : ∀ (a0_ : Nat) (x1_ : Int32) (M : sg_M), sg_K Yc a0_ 10 → fX10_hasStrap N a0_ x1_ M = some r → sg_T Yc ad X 2 0 [(0, .ref (ad a0_)), (1, .int x1_)] [] M := by
  intro a0_ x1_ M hq0 h
  unfold fX10_hasStrap at h
  refine i_iload_n C dX10_hasStrap_0 1 rfl ?_
  refine s_if_lt C 19 (by decide) dX10_hasStrap_1 h (fun _ h => ?_) (fun _ h => ?_)
  · refine s_iconst C (0 : Int32) dX10_hasStrap_19 (by decide) ?_
    exact s_zret1 C E (by decide) dX10_hasStrap_20 h
  · refine i_iload_n C dX10_hasStrap_4 1 rfl ?_
    refine i_aload_n C dX10_hasStrap_5 0 rfl ?_
    refine gf10_19 C hq0 dX10_hasStrap_6 ?_
    refine gf10_130 C (ky10_1 hq0) dX10_hasStrap_9 ?_
    refine s_icmp_ge C 19 (by decide) dX10_hasStrap_12 h (fun _ h => ?_) (fun _ h => ?_)
    · refine s_iconst C (0 : Int32) dX10_hasStrap_19 (by decide) ?_
      exact s_zret1 C E (by decide) dX10_hasStrap_20 h
    · refine s_iconst C (1 : Int32) dX10_hasStrap_15 (by decide) ?_
      refine s_goto C 20 (by decide) dX10_hasStrap_16 ?_
      exact s_zret1 C E (by decide) dX10_hasStrap_20 h
theorem ctX10_hasStrap {ad : Nat → Nat} {V : sg_V} {N : Nat} (hi : sg_inj Yc ad) {a0_ : Nat} {x1_ : Int32} {M : sg_M} (hq0 : sg_K Yc a0_ 10) : ∀ res, fX10_hasStrap N a0_ x1_ M = some res → sg_cI Yc ad V yX10_hasStrap cX10_hasStrap 2 .boolean 0 [.ref (ad a0_), .int x1_] M res := fun res h => sg_bodyI (by decide) hi (Nat.le_of_ble_eq_true rfl) (fun X hX C E => by subst hX; exact tX10_hasStrap C E _ _  _ hq0 h)
def fX10_strap (N : Nat) (a0_ : Nat) (x1_ : Int32) (x2_ : Int32) (M : sg_M) : Option (Int32 × sg_M) :=
  sg_b (fX10_hasStrap N a0_ x1_ M) (fun (x2 : Int32) (M1 : sg_M) =>
  if x2 = 0 then (
  some ((-1 : Int32), M1)) else (
  if x2_ = (0 : Int32) then (
  if sg_ib x1_ (Yc.2.2.1 (Yc.2.2.2 (Yc.2.2.2 a0_ 1) 9)) = true then
  some ((M1.1 (Yc.2.2.2 (Yc.2.2.2 a0_ 1) 9) (x1_).toNatClampNeg), M1)
  else none) else (
  if x2_ = (1 : Int32) then (
  if sg_ib x1_ (Yc.2.2.1 (Yc.2.2.2 (Yc.2.2.2 a0_ 1) 10)) = true then
  some ((M1.1 (Yc.2.2.2 (Yc.2.2.2 a0_ 1) 10) (x1_).toNatClampNeg), M1)
  else none) else (
  if x2_ = (2 : Int32) then (
  if sg_ib x1_ (Yc.2.2.1 (Yc.2.2.2 (Yc.2.2.2 a0_ 1) 11)) = true then
  some ((M1.1 (Yc.2.2.2 (Yc.2.2.2 a0_ 1) 11) (x1_).toNatClampNeg), M1)
  else none) else (
  some ((-1 : Int32), M1))))))
set_option maxHeartbeats 4000000 in
set_option maxRecDepth 100000 in
theorem tX10_strap {ad : Nat → Nat} {X : sg_X} {N : Nat} {r : Int32 × sg_M} (C : sg_C Yc ad X cX10_strap RX10 3 1) (E : sg_eI Yc ad X cX10_strap .int r) : ∀ (a0_ : Nat) (x1_ : Int32) (x2_ : Int32) (M : sg_M), sg_K Yc a0_ 10 → fX10_strap N a0_ x1_ x2_ M = some r → sg_T Yc ad X 3 0 [(0, .ref (ad a0_)), (1, .int x1_), (2, .int x2_)] [] M := by
  intro a0_ x1_ x2_ M hq0 h
  unfold fX10_strap at h
  refine i_aload_n C dX10_strap_0 0 rfl ?_
  refine i_iload_n C dX10_strap_1 1 rfl ?_
  refine s_vcI C [_] vmX10_hasStrap lkX10_146 rfl rfl (by decide) hq0 (by decide) rfl rfl (Nat.le_of_ble_eq_true rfl) dX10_strap_2 (ctX10_hasStrap C.inj hq0) h (fun x2 M1 h => ?_)
  refine s_if_ne C 10 (by decide) dX10_strap_5 h (fun _ h => ?_) (fun _ h => ?_)
  · refine s_iconst C (-1 : Int32) dX10_strap_8 (by decide) ?_
    exact s_iret C E dX10_strap_9 h
  · refine i_iload_n C dX10_strap_10 2 rfl ?_
    refine z_if h (fun e h => ?_) (fun e0 h => ?_)
    · refine s_tabIn (off := 25) C 36 e (by decide) (by decide) dX10_strap_11 ?_
      refine i_aload_n C dX10_strap_36 0 rfl ?_
      refine gf10_19 C hq0 dX10_strap_37 ?_
      refine gf10_150 C (ky10_1 hq0) dX10_strap_40 ?_
      refine i_iload_n C dX10_strap_43 1 rfl ?_
      refine s_iald C (ky4_9 (ky10_1 hq0)) dX10_strap_44 h (fun h => ?_)
      exact s_iret C E dX10_strap_45 h
    refine z_if h (fun e h => ?_) (fun e1 h => ?_)
    · refine s_tabIn (off := 35) C 46 e (by decide) (by decide) dX10_strap_11 ?_
      refine i_aload_n C dX10_strap_46 0 rfl ?_
      refine gf10_19 C hq0 dX10_strap_47 ?_
      refine gf10_154 C (ky10_1 hq0) dX10_strap_50 ?_
      refine i_iload_n C dX10_strap_53 1 rfl ?_
      refine s_iald C (ky4_10 (ky10_1 hq0)) dX10_strap_54 h (fun h => ?_)
      exact s_iret C E dX10_strap_55 h
    refine z_if h (fun e h => ?_) (fun e2 h => ?_)
    · refine s_tabIn (off := 45) C 56 e (by decide) (by decide) dX10_strap_11 ?_
      refine i_aload_n C dX10_strap_56 0 rfl ?_
      refine gf10_19 C hq0 dX10_strap_57 ?_
      refine gf10_157 C (ky10_1 hq0) dX10_strap_60 ?_
      refine i_iload_n C dX10_strap_63 1 rfl ?_
      refine s_iald C (ky4_11 (ky10_1 hq0)) dX10_strap_64 h (fun h => ?_)
      exact s_iret C E dX10_strap_65 h
    refine s_tabOut C 66 (by have q0 := sg_ne (a := 0) e0 (by decide); have q1 := sg_ne (a := 1) e1 (by decide); have q2 := sg_ne (a := 2) e2 (by decide); omega) (by decide) dX10_strap_11 ?_
    refine s_iconst C (-1 : Int32) dX10_strap_66 (by decide) ?_
    exact s_iret C E dX10_strap_67 h
theorem ctX10_strap {ad : Nat → Nat} {V : sg_V} {N : Nat} (hi : sg_inj Yc ad) {a0_ : Nat} {x1_ : Int32} {x2_ : Int32} {M : sg_M} (hq0 : sg_K Yc a0_ 10) : ∀ res, fX10_strap N a0_ x1_ x2_ M = some res → sg_cI Yc ad V yX10_strap cX10_strap 3 .int 1 [.ref (ad a0_), .int x1_, .int x2_] M res := fun res h => sg_bodyI (by decide) hi (Nat.le_of_ble_eq_true rfl) (fun X hX C E => by subst hX; exact tX10_strap C E _ _ _  _ hq0 h)
def fX10_hasNode (N : Nat) (a0_ : Nat) (x1_ : Int32) (M : sg_M) : Option (Int32 × sg_M) :=
  if x1_ < 0 then (
  some ((0 : Int32), M)) else (
  if (M.1 (Yc.2.2.2 a0_ 1) 5) ≤ x1_ then (
  some ((0 : Int32), M)) else (
  some ((1 : Int32), M)))
set_option maxHeartbeats 4000000 in
set_option maxRecDepth 100000 in
theorem tX10_hasNode {ad : Nat → Nat} {X : sg_X} {N : Nat} {r : Int32 × sg_M} (C : sg_C Yc ad X cX10_hasNode RX10 2 0) (E : sg_eI Yc ad X cX10_hasNode .boolean r) : ∀ (a0_ : Nat) (x1_ : Int32) (M : sg_M), sg_K Yc a0_ 10 → fX10_hasNode N a0_ x1_ M = some r → sg_T Yc ad X 2 0 [(0, .ref (ad a0_)), (1, .int x1_)] [] M := by
  intro a0_ x1_ M hq0 h
  unfold fX10_hasNode at h
  refine i_iload_n C dX10_hasNode_0 1 rfl ?_
  refine s_if_lt C 19 (by decide) dX10_hasNode_1 h (fun _ h => ?_) (fun _ h => ?_)
  · refine s_iconst C (0 : Int32) dX10_hasNode_19 (by decide) ?_
    exact s_zret1 C E (by decide) dX10_hasNode_20 h
  · refine i_iload_n C dX10_hasNode_4 1 rfl ?_
    refine i_aload_n C dX10_hasNode_5 0 rfl ?_
    refine gf10_19 C hq0 dX10_hasNode_6 ?_
    refine gf10_213 C (ky10_1 hq0) dX10_hasNode_9 ?_
    refine s_icmp_ge C 19 (by decide) dX10_hasNode_12 h (fun _ h => ?_) (fun _ h => ?_)
    · refine s_iconst C (0 : Int32) dX10_hasNode_19 (by decide) ?_
      exact s_zret1 C E (by decide) dX10_hasNode_20 h
    · refine s_iconst C (1 : Int32) dX10_hasNode_15 (by decide) ?_
      refine s_goto C 20 (by decide) dX10_hasNode_16 ?_
      exact s_zret1 C E (by decide) dX10_hasNode_20 h
theorem ctX10_hasNode {ad : Nat → Nat} {V : sg_V} {N : Nat} (hi : sg_inj Yc ad) {a0_ : Nat} {x1_ : Int32} {M : sg_M} (hq0 : sg_K Yc a0_ 10) : ∀ res, fX10_hasNode N a0_ x1_ M = some res → sg_cI Yc ad V yX10_hasNode cX10_hasNode 2 .boolean 0 [.ref (ad a0_), .int x1_] M res := fun res h => sg_bodyI (by decide) hi (Nat.le_of_ble_eq_true rfl) (fun X hX C E => by subst hX; exact tX10_hasNode C E _ _  _ hq0 h)
def fX10_between (N : Nat) (a0_ : Nat) (x1_ : Int32) (x2_ : Int32) (M : sg_M) : Option (Int32 × sg_M) :=
  sg_b (fX10_hasNode N a0_ x1_ M) (fun (x2 : Int32) (M1 : sg_M) =>
  if x2 = 0 then (
  some ((-2 : Int32), M1)) else (
  sg_b (fX10_hasNode N a0_ x2_ M1) (fun (x4 : Int32) (M3 : sg_M) =>
  if x4 = 0 then (
  some ((-2 : Int32), M3)) else (
  sg_b (fX4_strapJoining N (Yc.2.2.2 a0_ 1) x1_ x2_ M3) (fun (x6 : Int32) (M5 : sg_M) =>
  some (x6, M5))))))
set_option maxHeartbeats 4000000 in
set_option maxRecDepth 100000 in
theorem tX10_between {ad : Nat → Nat} {X : sg_X} {N : Nat} {r : Int32 × sg_M} (C : sg_C Yc ad X cX10_between RX10 3 1) (E : sg_eI Yc ad X cX10_between .int r) : ∀ (a0_ : Nat) (x1_ : Int32) (x2_ : Int32) (M : sg_M), sg_K Yc a0_ 10 → fX10_between N a0_ x1_ x2_ M = some r → sg_T Yc ad X 3 0 [(0, .ref (ad a0_)), (1, .int x1_), (2, .int x2_)] [] M := by
  intro a0_ x1_ x2_ M hq0 h
  unfold fX10_between at h
  refine i_aload_n C dX10_between_0 0 rfl ?_
  refine i_iload_n C dX10_between_1 1 rfl ?_
  refine s_vcI C [_] vmX10_hasNode lkX10_160 rfl rfl (by decide) hq0 (by decide) rfl rfl (Nat.le_of_ble_eq_true rfl) dX10_between_2 (ctX10_hasNode C.inj hq0) h (fun x2 M1 h => ?_)
  refine s_if_eq C 16 (by decide) dX10_between_5 h (fun _ h => ?_) (fun _ h => ?_)
  · refine s_bipush C (-2 : Int32) dX10_between_16 (by decide) ?_
    exact s_iret C E dX10_between_18 h
  · refine i_aload_n C dX10_between_8 0 rfl ?_
    refine i_iload_n C dX10_between_9 2 rfl ?_
    refine s_vcI C [_] vmX10_hasNode lkX10_160 rfl rfl (by decide) hq0 (by decide) rfl rfl (Nat.le_of_ble_eq_true rfl) dX10_between_10 (ctX10_hasNode C.inj hq0) h (fun x4 M3 h => ?_)
    refine s_if_ne C 19 (by decide) dX10_between_13 h (fun _ h => ?_) (fun _ h => ?_)
    · refine s_bipush C (-2 : Int32) dX10_between_16 (by decide) ?_
      exact s_iret C E dX10_between_18 h
    · refine i_aload_n C dX10_between_19 0 rfl ?_
      refine gf10_19 C hq0 dX10_between_20 ?_
      refine i_iload_n C dX10_between_23 1 rfl ?_
      refine i_iload_n C dX10_between_24 2 rfl ?_
      refine s_vcI C [_, _] vmX4_strapJoining lkX10_163 rfl rfl (by decide) (ky10_1 hq0) (by decide) rfl rfl (Nat.le_of_ble_eq_true rfl) dX10_between_25 (ctX4_strapJoining C.inj (ky10_1 hq0)) h (fun x6 M5 h => ?_)
      exact s_iret C E dX10_between_28 h
theorem ctX10_between {ad : Nat → Nat} {V : sg_V} {N : Nat} (hi : sg_inj Yc ad) {a0_ : Nat} {x1_ : Int32} {x2_ : Int32} {M : sg_M} (hq0 : sg_K Yc a0_ 10) : ∀ res, fX10_between N a0_ x1_ x2_ M = some res → sg_cI Yc ad V yX10_between cX10_between 3 .int 1 [.ref (ad a0_), .int x1_, .int x2_] M res := fun res h => sg_bodyI (by decide) hi (Nat.le_of_ble_eq_true rfl) (fun X hX C E => by subst hX; exact tX10_between C E _ _ _  _ hq0 h)
def fX10_node (N : Nat) (a0_ : Nat) (x1_ : Int32) (x2_ : Int32) (M : sg_M) : Option (Int32 × sg_M) :=
  sg_b (fX10_hasNode N a0_ x1_ M) (fun (x2 : Int32) (M1 : sg_M) =>
  if x2 = 0 then (
  some ((-1 : Int32), M1)) else (
  if x2_ = (0 : Int32) then (
  sg_b (fX4_isPad N (Yc.2.2.2 a0_ 1) x1_ M1) (fun (x4 : Int32) (M3 : sg_M) =>
  if x4 = 0 then (
  some ((0 : Int32), M3)) else (
  some ((1 : Int32), M3)))) else (
  if x2_ = (1 : Int32) then (
  if sg_ib x1_ (Yc.2.2.1 (Yc.2.2.2 (Yc.2.2.2 a0_ 1) 12)) = true then
  some ((M1.1 (Yc.2.2.2 (Yc.2.2.2 a0_ 1) 12) (x1_).toNatClampNeg), M1)
  else none) else (
  if x2_ = (2 : Int32) then (
  if sg_ib x1_ (Yc.2.2.1 (Yc.2.2.2 (Yc.2.2.2 a0_ 1) 13)) = true then
  some ((M1.1 (Yc.2.2.2 (Yc.2.2.2 a0_ 1) 13) (x1_).toNatClampNeg), M1)
  else none) else (
  if x2_ = (3 : Int32) then (
  sg_b (fX10_now N a0_ M1) (fun (x6 : Nat) (M5 : sg_M) =>
  sg_b (fX1_isDead N x6 x1_ M5) (fun (x8 : Int32) (M7 : sg_M) =>
  if x8 = 0 then (
  some ((0 : Int32), M7)) else (
  some ((1 : Int32), M7))))) else (
  some ((-1 : Int32), M1)))))))
set_option maxHeartbeats 4000000 in
set_option maxRecDepth 100000 in
theorem tX10_node {ad : Nat → Nat} {X : sg_X} {N : Nat} {r : Int32 × sg_M} (C : sg_C Yc ad X cX10_node RX10 3 4) (E : sg_eI Yc ad X cX10_node .int r) : ∀ (a0_ : Nat) (x1_ : Int32) (x2_ : Int32) (M : sg_M), sg_K Yc a0_ 10 → fX10_node N a0_ x1_ x2_ M = some r → sg_T Yc ad X 3 0 [(0, .ref (ad a0_)), (1, .int x1_), (2, .int x2_)] [] M := by
  intro a0_ x1_ x2_ M hq0 h
  unfold fX10_node at h
  refine i_aload_n C dX10_node_0 0 rfl ?_
  refine i_iload_n C dX10_node_1 1 rfl ?_
  refine s_vcI C [_] vmX10_hasNode lkX10_160 rfl rfl (by decide) hq0 (by decide) rfl rfl (Nat.le_of_ble_eq_true rfl) dX10_node_2 (ctX10_hasNode C.inj hq0) h (fun x2 M1 h => ?_)
  refine s_if_ne C 10 (by decide) dX10_node_5 h (fun _ h => ?_) (fun _ h => ?_)
  · refine s_iconst C (-1 : Int32) dX10_node_8 (by decide) ?_
    exact s_iret C E dX10_node_9 h
  · refine i_iload_n C dX10_node_10 2 rfl ?_
    refine z_if h (fun e h => ?_) (fun e0 h => ?_)
    · refine s_tabIn (off := 29) C 40 e (by decide) (by decide) dX10_node_11 ?_
      refine i_aload_n C dX10_node_40 0 rfl ?_
      refine gf10_19 C hq0 dX10_node_41 ?_
      refine i_iload_n C dX10_node_44 1 rfl ?_
      refine s_vcI C [_] vmX4_isPad lkX10_167 rfl rfl (by decide) (ky10_1 hq0) (by decide) rfl rfl (Nat.le_of_ble_eq_true rfl) dX10_node_45 (ctX4_isPad C.inj (ky10_1 hq0)) h (fun x4 M3 h => ?_)
      refine s_if_eq C 55 (by decide) dX10_node_48 h (fun _ h => ?_) (fun _ h => ?_)
      · refine s_iconst C (0 : Int32) dX10_node_55 (by decide) ?_
        exact s_iret C E dX10_node_56 h
      · refine s_iconst C (1 : Int32) dX10_node_51 (by decide) ?_
        refine s_goto C 56 (by decide) dX10_node_52 ?_
        exact s_iret C E dX10_node_56 h
    refine z_if h (fun e h => ?_) (fun e1 h => ?_)
    · refine s_tabIn (off := 46) C 57 e (by decide) (by decide) dX10_node_11 ?_
      refine i_aload_n C dX10_node_57 0 rfl ?_
      refine gf10_19 C hq0 dX10_node_58 ?_
      refine gf10_170 C (ky10_1 hq0) dX10_node_61 ?_
      refine i_iload_n C dX10_node_64 1 rfl ?_
      refine s_iald C (ky4_12 (ky10_1 hq0)) dX10_node_65 h (fun h => ?_)
      exact s_iret C E dX10_node_66 h
    refine z_if h (fun e h => ?_) (fun e2 h => ?_)
    · refine s_tabIn (off := 56) C 67 e (by decide) (by decide) dX10_node_11 ?_
      refine i_aload_n C dX10_node_67 0 rfl ?_
      refine gf10_19 C hq0 dX10_node_68 ?_
      refine gf10_173 C (ky10_1 hq0) dX10_node_71 ?_
      refine i_iload_n C dX10_node_74 1 rfl ?_
      refine s_iald C (ky4_13 (ky10_1 hq0)) dX10_node_75 h (fun h => ?_)
      exact s_iret C E dX10_node_76 h
    refine z_if h (fun e h => ?_) (fun e3 h => ?_)
    · refine s_tabIn (off := 66) C 77 e (by decide) (by decide) dX10_node_11 ?_
      refine i_aload_n C dX10_node_77 0 rfl ?_
      refine s_vcR C [] vmX10_now lkX10_139 rfl rfl (by decide) hq0 (by decide) rfl rfl (Nat.le_of_ble_eq_true rfl) dX10_node_78 (ctX10_now C.inj hq0) h (fun x6 M5 hfx6 h => ?_)
      refine i_iload_n C dX10_node_81 1 rfl ?_
      refine s_vcI C [_] vmX1_isDead lkX10_176 rfl rfl (by decide) (krX10_now hq0 hfx6) (by decide) rfl rfl (Nat.le_of_ble_eq_true rfl) dX10_node_82 (ctX1_isDead C.inj (krX10_now hq0 hfx6)) h (fun x8 M7 h => ?_)
      refine s_if_eq C 92 (by decide) dX10_node_85 h (fun _ h => ?_) (fun _ h => ?_)
      · refine s_iconst C (0 : Int32) dX10_node_92 (by decide) ?_
        exact s_iret C E dX10_node_93 h
      · refine s_iconst C (1 : Int32) dX10_node_88 (by decide) ?_
        refine s_goto C 93 (by decide) dX10_node_89 ?_
        exact s_iret C E dX10_node_93 h
    refine s_tabOut C 94 (by have q0 := sg_ne (a := 0) e0 (by decide); have q1 := sg_ne (a := 1) e1 (by decide); have q2 := sg_ne (a := 2) e2 (by decide); have q3 := sg_ne (a := 3) e3 (by decide); omega) (by decide) dX10_node_11 ?_
    refine s_iconst C (-1 : Int32) dX10_node_94 (by decide) ?_
    exact s_iret C E dX10_node_95 h
theorem ctX10_node {ad : Nat → Nat} {V : sg_V} {N : Nat} (hi : sg_inj Yc ad) {a0_ : Nat} {x1_ : Int32} {x2_ : Int32} {M : sg_M} (hq0 : sg_K Yc a0_ 10) : ∀ res, fX10_node N a0_ x1_ x2_ M = some res → sg_cI Yc ad V yX10_node cX10_node 3 .int 4 [.ref (ad a0_), .int x1_, .int x2_] M res := fun res h => sg_bodyI (by decide) hi (Nat.le_of_ble_eq_true rfl) (fun X hX C E => by subst hX; exact tX10_node C E _ _ _  _ hq0 h)
def fX10_noGrid (N : Nat) (a0_ : Nat) (M : sg_M) : Option (Int32 × sg_M) :=
  if (M.1 (Yc.2.2.2 a0_ 1) 5) = 0 then (
  some ((1 : Int32), M)) else (
  some ((0 : Int32), M))
set_option maxHeartbeats 4000000 in
set_option maxRecDepth 100000 in
theorem tX10_noGrid {ad : Nat → Nat} {X : sg_X} {N : Nat} {r : Int32 × sg_M} (C : sg_C Yc ad X cX10_noGrid RX10 1 0) (E : sg_eI Yc ad X cX10_noGrid .boolean r) : ∀ (a0_ : Nat) (M : sg_M), sg_K Yc a0_ 10 → fX10_noGrid N a0_ M = some r → sg_T Yc ad X 1 0 [(0, .ref (ad a0_))] [] M := by
  intro a0_ M hq0 h
  unfold fX10_noGrid at h
  refine i_aload_n C dX10_noGrid_0 0 rfl ?_
  refine gf10_19 C hq0 dX10_noGrid_1 ?_
  refine gf10_213 C (ky10_1 hq0) dX10_noGrid_4 ?_
  refine s_if_ne C 14 (by decide) dX10_noGrid_7 h (fun _ h => ?_) (fun _ h => ?_)
  · refine s_iconst C (1 : Int32) dX10_noGrid_10 (by decide) ?_
    refine s_goto C 15 (by decide) dX10_noGrid_11 ?_
    exact s_zret1 C E (by decide) dX10_noGrid_15 h
  · refine s_iconst C (0 : Int32) dX10_noGrid_14 (by decide) ?_
    exact s_zret1 C E (by decide) dX10_noGrid_15 h
theorem ctX10_noGrid {ad : Nat → Nat} {V : sg_V} {N : Nat} (hi : sg_inj Yc ad) {a0_ : Nat} {M : sg_M} (hq0 : sg_K Yc a0_ 10) : ∀ res, fX10_noGrid N a0_ M = some res → sg_cI Yc ad V yX10_noGrid cX10_noGrid 1 .boolean 0 [.ref (ad a0_)] M res := fun res h => sg_bodyI (by decide) hi (Nat.le_of_ble_eq_true rfl) (fun X hX C E => by subst hX; exact tX10_noGrid C E _  _ hq0 h)
def fX10_budget (N : Nat) (a0_ : Nat) (x1_ : Int32) (M : sg_M) : Option (Int32 × sg_M) :=
  sg_b (fX10_noGrid N a0_ M) (fun (x2 : Int32) (M1 : sg_M) =>
  if x2 = 0 then (
  if x1_ < 0 then (
  some ((-1 : Int32), M1)) else (
  if x1_ < (4 : Int32) then (
  if sg_ib x1_ (Yc.2.2.1 (Yc.2.2.2 (Yc.2.2.2 a0_ 1) 14)) = true then
  some ((M1.1 (Yc.2.2.2 (Yc.2.2.2 a0_ 1) 14) (x1_).toNatClampNeg), M1)
  else none) else (
  some ((-1 : Int32), M1)))) else (
  some ((-1 : Int32), M1)))
set_option maxHeartbeats 4000000 in
set_option maxRecDepth 100000 in
theorem tX10_budget {ad : Nat → Nat} {X : sg_X} {N : Nat} {r : Int32 × sg_M} (C : sg_C Yc ad X cX10_budget RX10 2 1) (E : sg_eI Yc ad X cX10_budget .int r) : ∀ (a0_ : Nat) (x1_ : Int32) (M : sg_M), sg_K Yc a0_ 10 → fX10_budget N a0_ x1_ M = some r → sg_T Yc ad X 2 0 [(0, .ref (ad a0_)), (1, .int x1_)] [] M := by
  intro a0_ x1_ M hq0 h
  unfold fX10_budget at h
  refine i_aload_n C dX10_budget_0 0 rfl ?_
  refine s_vcI C [] vmX10_noGrid lkX10_179 rfl rfl (by decide) hq0 (by decide) rfl rfl (Nat.le_of_ble_eq_true rfl) dX10_budget_1 (ctX10_noGrid C.inj hq0) h (fun x2 M1 h => ?_)
  refine s_if_ne C 16 (by decide) dX10_budget_4 h (fun _ h => ?_) (fun _ h => ?_)
  · refine i_iload_n C dX10_budget_7 1 rfl ?_
    refine s_if_lt C 16 (by decide) dX10_budget_8 h (fun _ h => ?_) (fun _ h => ?_)
    · refine s_iconst C (-1 : Int32) dX10_budget_16 (by decide) ?_
      exact s_iret C E dX10_budget_17 h
    · refine i_iload_n C dX10_budget_11 1 rfl ?_
      refine s_iconst C (4 : Int32) dX10_budget_12 (by decide) ?_
      refine s_icmp_lt C 18 (by decide) dX10_budget_13 h (fun _ h => ?_) (fun _ h => ?_)
      · refine i_aload_n C dX10_budget_18 0 rfl ?_
        refine gf10_19 C hq0 dX10_budget_19 ?_
        refine gf10_182 C (ky10_1 hq0) dX10_budget_22 ?_
        refine i_iload_n C dX10_budget_25 1 rfl ?_
        refine s_iald C (ky4_14 (ky10_1 hq0)) dX10_budget_26 h (fun h => ?_)
        exact s_iret C E dX10_budget_27 h
      · refine s_iconst C (-1 : Int32) dX10_budget_16 (by decide) ?_
        exact s_iret C E dX10_budget_17 h
  · refine s_iconst C (-1 : Int32) dX10_budget_16 (by decide) ?_
    exact s_iret C E dX10_budget_17 h
theorem ctX10_budget {ad : Nat → Nat} {V : sg_V} {N : Nat} (hi : sg_inj Yc ad) {a0_ : Nat} {x1_ : Int32} {M : sg_M} (hq0 : sg_K Yc a0_ 10) : ∀ res, fX10_budget N a0_ x1_ M = some res → sg_cI Yc ad V yX10_budget cX10_budget 2 .int 1 [.ref (ad a0_), .int x1_] M res := fun res h => sg_bodyI (by decide) hi (Nat.le_of_ble_eq_true rfl) (fun X hX C E => by subst hX; exact tX10_budget C E _ _  _ hq0 h)
def gX10_isPart_9 (N : Nat)   (M : sg_M) : Option (Int32 × sg_M) :=
  some ((1 : Int32), M)
set_option maxHeartbeats 4000000 in
set_option maxRecDepth 100000 in
theorem tX10_isPart_9 {ad : Nat → Nat} {X : sg_X} {N : Nat} {r : Int32 × sg_M} (C : sg_C Yc ad X cX10_isPart RX10 1 0) (E : sg_eI Yc ad X cX10_isPart .boolean r)  : ∀  (M : sg_M), gX10_isPart_9 N  M = some r → sg_T Yc ad X 1 9 [] [] M := by
  intro  M h 
  unfold gX10_isPart_9 at h
  refine s_iconst C (1 : Int32) dX10_isPart_9 (by decide) ?_
  refine s_goto C 14 (by decide) dX10_isPart_10 ?_
  exact s_zret1 C E (by decide) dX10_isPart_14 h
def fX10_isPart (N : Nat) (x0_ : Int32) (M : sg_M) : Option (Int32 × sg_M) :=
  if x0_ = 0 then (
  gX10_isPart_9 N M) else (
  if x0_ = (1 : Int32) then (
  gX10_isPart_9 N M) else (
  some ((0 : Int32), M)))
set_option maxHeartbeats 4000000 in
set_option maxRecDepth 100000 in
theorem tX10_isPart {ad : Nat → Nat} {X : sg_X} {N : Nat} {r : Int32 × sg_M} (C : sg_C Yc ad X cX10_isPart RX10 1 0) (E : sg_eI Yc ad X cX10_isPart .boolean r) : ∀ (x0_ : Int32) (M : sg_M), fX10_isPart N x0_ M = some r → sg_T Yc ad X 1 0 [(0, .int x0_)] [] M := by
  intro x0_ M  h
  unfold fX10_isPart at h
  refine i_iload_n C dX10_isPart_0 0 rfl ?_
  refine s_if_eq C 9 (by decide) dX10_isPart_1 h (fun _ h => ?_) (fun _ h => ?_)
  · exact sg_T.to (tX10_isPart_9 C E _ h ) [] rfl
  · refine i_iload_n C dX10_isPart_4 0 rfl ?_
    refine s_iconst C (1 : Int32) dX10_isPart_5 (by decide) ?_
    refine s_icmp_ne C 13 (by decide) dX10_isPart_6 h (fun _ h => ?_) (fun _ h => ?_)
    · exact sg_T.to (tX10_isPart_9 C E _ h ) [] rfl
    · refine s_iconst C (0 : Int32) dX10_isPart_13 (by decide) ?_
      exact s_zret1 C E (by decide) dX10_isPart_14 h
theorem ctX10_isPart {ad : Nat → Nat} {V : sg_V} {N : Nat} (hi : sg_inj Yc ad) {x0_ : Int32} {M : sg_M}  : ∀ res, fX10_isPart N x0_ M = some res → sg_cI Yc ad V yX10_isPart cX10_isPart 1 .boolean 0 [.int x0_] M res := fun res h => sg_bodyI (by decide) hi (Nat.le_of_ble_eq_true rfl) (fun X hX C E => by subst hX; exact tX10_isPart C E _  _ h)
def bX10_commonDivisor_9 (N : Nat)  (k9 : (Int64 × Int64 × Int32) → sg_M → Option (Int64 × sg_M)) (s : Int64 × Int64 × Int32) (M : sg_M) : Option (Int64 × sg_M) :=
  if (100 : Int32) ≤ s.2.2 then (
  some (s.1, M)) else (
  if (lg_cmp s.2.1 (0 : Int64)) = 0 then (
  some (s.1, M)) else (
  if s.2.1 = 0 then none else
  sg_m (s.1 - s.1 / s.2.1 * s.2.1) (fun x1 : Int64 =>
  sg_m s.2.1 (fun x2 : Int64 =>
  sg_m x1 (fun x3 : Int64 =>
  sg_m (s.2.2 + (1 : Int32)) (fun x4 : Int32 =>
  k9 (x2, x3, x4) M))))))
def gX10_commonDivisor_9 (N : Nat)  : (Int64 × Int64 × Int32) → sg_M → Option (Int64 × sg_M) := sg_lp (bX10_commonDivisor_9 N ) N
set_option maxHeartbeats 4000000 in
set_option maxRecDepth 100000 in
theorem tX10_commonDivisor_9 {ad : Nat → Nat} {X : sg_X} {N : Nat} {r : Int64 × sg_M} (C : sg_C Yc ad X cX10_commonDivisor RX10 11 0) (E : sg_eL Yc ad X cX10_commonDivisor r)  : ∀ (s : Int64 × Int64 × Int32) (M : sg_M), gX10_commonDivisor_9 N s M = some r → sg_T Yc ad X 11 9 [(4, .long (s.1)), (6, .long (s.2.1)), (8, .int (s.2.2))] [] M := by
  have key : ∀ n : Nat, ∀ (s : Int64 × Int64 × Int32) (M : sg_M), sg_lp (bX10_commonDivisor_9 N) n s M = some r → sg_T Yc ad X 11 9 [(4, .long (s.1)), (6, .long (s.2.1)), (8, .int (s.2.2))] [] M := by
    intro n
    induction n with
    | zero => intro s M h; cases h
    | succ n ih =>
      intro s M h 
      have h : bX10_commonDivisor_9 N (sg_lp (bX10_commonDivisor_9 N) n) s M = some r := h
      generalize sg_lp (bX10_commonDivisor_9 N) n = k9 at h ih
      have hk9 := ih
      unfold bX10_commonDivisor_9 at h
      refine i_iload C dX10_commonDivisor_9 2 rfl ?_
      refine s_bipush C (100 : Int32) dX10_commonDivisor_11 (by decide) ?_
      refine s_icmp_ge C 44 (by decide) dX10_commonDivisor_13 h (fun _ h => ?_) (fun _ h => ?_)
      · refine i_lload C dX10_commonDivisor_44 0 rfl ?_
        exact s_lret C E dX10_commonDivisor_46 h
      · refine i_lload C dX10_commonDivisor_16 1 rfl ?_
        refine s_lconst C (0 : Int64) dX10_commonDivisor_18 (by decide) ?_
        refine s_lcmp C dX10_commonDivisor_19 ?_
        refine s_if_eq C 44 (by decide) dX10_commonDivisor_20 h (fun _ h => ?_) (fun _ h => ?_)
        · refine i_lload C dX10_commonDivisor_44 0 rfl ?_
          exact s_lret C E dX10_commonDivisor_46 h
        · refine i_lload C dX10_commonDivisor_23 0 rfl ?_
          refine i_lload C dX10_commonDivisor_25 1 rfl ?_
          refine s_lrem C dX10_commonDivisor_27 h (fun h => ?_)
          refine z_gl h (fun x1 h => ?_)
          refine i_lstore (lv9 := [(9, _), (4, _), (6, _), (8, _)]) C dX10_commonDivisor_28 (by decide) rfl ?_
          refine i_lload C dX10_commonDivisor_30 2 rfl ?_
          refine z_gl h (fun x2 h => ?_)
          refine i_lstore (lv9 := [(4, _), (9, _), (6, _), (8, _)]) C dX10_commonDivisor_32 (by decide) rfl ?_
          refine i_lload C dX10_commonDivisor_34 1 rfl ?_
          refine z_gl h (fun x3 h => ?_)
          refine i_lstore (lv9 := [(6, _), (4, _), (9, _), (8, _)]) C dX10_commonDivisor_36 (by decide) rfl ?_
          refine z_iinc (n := 1) (c9 := (1 : Int32)) (by decide) h (fun x4 hx h => ?_)
          refine i_iinc (lv9 := [(8, _), (6, _), (4, _), (9, _)]) C dX10_commonDivisor_38 3 rfl hx (by decide) rfl ?_
          refine s_goto C 9 (by decide) dX10_commonDivisor_41 ?_
          exact sg_T.to (hk9 _ _ h ) [2, 1, 0] rfl
  exact key N
def fX10_commonDivisor (N : Nat) (x0_ : Int64) (x2_ : Int64) (M : sg_M) : Option (Int64 × sg_M) :=
  sg_m x0_ (fun x5 : Int64 =>
  sg_m x2_ (fun x6 : Int64 =>
  sg_m (0 : Int32) (fun x7 : Int32 =>
  gX10_commonDivisor_9 N (x5, x6, x7) M)))
set_option maxHeartbeats 4000000 in
set_option maxRecDepth 100000 in
theorem tX10_commonDivisor {ad : Nat → Nat} {X : sg_X} {N : Nat} {r : Int64 × sg_M} (C : sg_C Yc ad X cX10_commonDivisor RX10 11 0) (E : sg_eL Yc ad X cX10_commonDivisor r) : ∀ (x0_ : Int64) (x2_ : Int64) (M : sg_M), fX10_commonDivisor N x0_ x2_ M = some r → sg_T Yc ad X 11 0 [(0, .long x0_), (2, .long x2_)] [] M := by
  intro x0_ x2_ M  h
  unfold fX10_commonDivisor at h
  refine i_lload_n C dX10_commonDivisor_0 0 rfl ?_
  refine z_gl h (fun x5 h => ?_)
  refine i_lstore (lv9 := [(4, _), (0, _), (2, _)]) C dX10_commonDivisor_1 (by decide) rfl ?_
  refine i_lload_n C dX10_commonDivisor_3 2 rfl ?_
  refine z_gl h (fun x6 h => ?_)
  refine i_lstore (lv9 := [(6, _), (4, _), (0, _), (2, _)]) C dX10_commonDivisor_4 (by decide) rfl ?_
  refine s_iconst C (0 : Int32) dX10_commonDivisor_6 (by decide) ?_
  refine z_gi h (fun x7 h => ?_)
  refine i_istore (lv9 := [(8, _), (6, _), (4, _), (0, _), (2, _)]) C dX10_commonDivisor_7 (by decide) rfl ?_
  exact sg_T.to (tX10_commonDivisor_9 C E _ _ h ) [2, 1, 0] rfl
theorem ctX10_commonDivisor {ad : Nat → Nat} {V : sg_V} {N : Nat} (hi : sg_inj Yc ad) {x0_ : Int64} {x2_ : Int64} {M : sg_M}  : ∀ res, fX10_commonDivisor N x0_ x2_ M = some res → sg_cL Yc ad V yX10_commonDivisor cX10_commonDivisor 11 0 [.long x0_, .long x2_] M res := fun res h => sg_bodyL (by decide) hi (Nat.le_of_ble_eq_true rfl) (fun X hX C E => by subst hX; exact tX10_commonDivisor C E _ _  _ h)
def fX10_partOf (N : Nat) (x0_ : Int64) (x2_ : Int64) (x4_ : Int32) (M : sg_M) : Option (Int64 × sg_M) :=
  sg_b (fX10_commonDivisor N (if 0 < x0_ then x0_ else -x0_) x2_ M) (fun (x2 : Int64) (M1 : sg_M) =>
  sg_m x2 (fun x3 : Int64 =>
  if 0 < (lg_cmp x3 (0 : Int64)) then (
  if x4_ = 0 then (
  if x3 = 0 then none else
  some ((x0_ / x3), M1)) else (
  if x3 = 0 then none else
  some ((x2_ / x3), M1))) else (
  if x4_ = 0 then (
  some ((0 : Int64), M1)) else (
  some ((1 : Int64), M1)))))
set_option maxHeartbeats 4000000 in
set_option maxRecDepth 100000 in
theorem tX10_partOf {ad : Nat → Nat} {X : sg_X} {N : Nat} {r : Int64 × sg_M} (C : sg_C Yc ad X cX10_partOf RX10 7 1) (E : sg_eL Yc ad X cX10_partOf r) : ∀ (x0_ : Int64) (x2_ : Int64) (x4_ : Int32) (M : sg_M), fX10_partOf N x0_ x2_ x4_ M = some r → sg_T Yc ad X 7 0 [(0, .long x0_), (2, .long x2_), (4, .int x4_)] [] M := by
  intro x0_ x2_ x4_ M  h
  unfold fX10_partOf at h
  refine i_lload_n C dX10_partOf_0 0 rfl ?_
  refine s_mabsl C (by decide) mabsl_X10_388 mabsl_1 math_2 mabsl_3 (Nat.le_of_ble_eq_true rfl) dX10_partOf_1 ?_
  refine i_lload_n C dX10_partOf_4 1 rfl ?_
  refine s_scL C [_, _] smX10_commonDivisor lkX10_392 (by decide) rfl rfl (Nat.le_of_ble_eq_true rfl) dX10_partOf_5 (ctX10_commonDivisor C.inj ) h (fun x2 M1 h => ?_)
  refine z_gl h (fun x3 h => ?_)
  refine i_lstore (lv9 := [(5, _), (0, _), (2, _), (4, _)]) C dX10_partOf_8 (by decide) rfl ?_
  refine i_lload C dX10_partOf_10 0 rfl ?_
  refine s_lconst C (0 : Int64) dX10_partOf_12 (by decide) ?_
  refine s_lcmp C dX10_partOf_13 ?_
  refine s_if_gt C 28 (by decide) dX10_partOf_14 h (fun _ h => ?_) (fun _ h => ?_)
  · refine i_iload C dX10_partOf_28 3 rfl ?_
    refine s_if_ne C 40 (by decide) dX10_partOf_30 h (fun _ h => ?_) (fun _ h => ?_)
    · refine i_lload_n C dX10_partOf_33 1 rfl ?_
      refine i_lload C dX10_partOf_34 0 rfl ?_
      refine s_ldiv C dX10_partOf_36 h (fun h => ?_)
      refine s_goto C 44 (by decide) dX10_partOf_37 ?_
      exact s_lret C E dX10_partOf_44 h
    · refine i_lload_n C dX10_partOf_40 2 rfl ?_
      refine i_lload C dX10_partOf_41 0 rfl ?_
      refine s_ldiv C dX10_partOf_43 h (fun h => ?_)
      exact s_lret C E dX10_partOf_44 h
  · refine i_iload C dX10_partOf_17 3 rfl ?_
    refine s_if_ne C 26 (by decide) dX10_partOf_19 h (fun _ h => ?_) (fun _ h => ?_)
    · refine s_lconst C (0 : Int64) dX10_partOf_22 (by decide) ?_
      refine s_goto C 27 (by decide) dX10_partOf_23 ?_
      exact s_lret C E dX10_partOf_27 h
    · refine s_lconst C (1 : Int64) dX10_partOf_26 (by decide) ?_
      exact s_lret C E dX10_partOf_27 h
theorem ctX10_partOf {ad : Nat → Nat} {V : sg_V} {N : Nat} (hi : sg_inj Yc ad) {x0_ : Int64} {x2_ : Int64} {x4_ : Int32} {M : sg_M}  : ∀ res, fX10_partOf N x0_ x2_ x4_ M = some res → sg_cL Yc ad V yX10_partOf cX10_partOf 7 1 [.long x0_, .long x2_, .int x4_] M res := fun res h => sg_bodyL (by decide) hi (Nat.le_of_ble_eq_true rfl) (fun X hX C E => by subst hX; exact tX10_partOf C E _ _ _  _ h)
def fX10_drop (N : Nat) (a0_ : Nat) (x1_ : Int32) (x2_ : Int32) (M : sg_M) : Option (Int64 × sg_M) :=
  sg_b (fX10_hasNode N a0_ x1_ M) (fun (x2 : Int32) (M1 : sg_M) =>
  if x2 = 0 then (
  some ((-2 : Int64), M1)) else (
  sg_b (fX10_isPart N x2_ M1) (fun (x4 : Int32) (M3 : sg_M) =>
  if x4 = 0 then (
  some ((-2 : Int64), M3)) else (
  sg_b (fX10_now N a0_ M3) (fun (x6 : Nat) (M5 : sg_M) =>
  sg_b (fX1_isDead N x6 x1_ M5) (fun (x8 : Int32) (M7 : sg_M) =>
  if x8 = 0 then (
  if sg_ib x1_ (Yc.2.2.1 (Yc.2.2.2 x6 2)) = true then
  sg_b (fX10_partOf N (M7.2 (Yc.2.2.2 x6 2) (x1_).toNatClampNeg) (M7.2 x6 1) x2_ M7) (fun (x10 : Int64) (M9 : sg_M) =>
  some (x10, M9))
  else none) else (
  some ((-1 : Int64), M7))))))))
set_option maxHeartbeats 4000000 in
set_option maxRecDepth 100000 in
theorem tX10_drop {ad : Nat → Nat} {X : sg_X} {N : Nat} {r : Int64 × sg_M} (C : sg_C Yc ad X cX10_drop RX10 4 4) (E : sg_eL Yc ad X cX10_drop r) : ∀ (a0_ : Nat) (x1_ : Int32) (x2_ : Int32) (M : sg_M), sg_K Yc a0_ 10 → fX10_drop N a0_ x1_ x2_ M = some r → sg_T Yc ad X 4 0 [(0, .ref (ad a0_)), (1, .int x1_), (2, .int x2_)] [] M := by
  intro a0_ x1_ x2_ M hq0 h
  unfold fX10_drop at h
  refine i_aload_n C dX10_drop_0 0 rfl ?_
  refine i_iload_n C dX10_drop_1 1 rfl ?_
  refine s_vcI C [_] vmX10_hasNode lkX10_160 rfl rfl (by decide) hq0 (by decide) rfl rfl (Nat.le_of_ble_eq_true rfl) dX10_drop_2 (ctX10_hasNode C.inj hq0) h (fun x2 M1 h => ?_)
  refine s_if_eq C 15 (by decide) dX10_drop_5 h (fun _ h => ?_) (fun _ h => ?_)
  · refine s_ldc2 C (-2 : Int64) kl_X10_188 dX10_drop_15 ?_
    exact s_lret C E dX10_drop_18 h
  · refine i_iload_n C dX10_drop_8 2 rfl ?_
    refine s_scI C [_] smX10_isPart lkX10_185 (by decide) rfl rfl (Nat.le_of_ble_eq_true rfl) dX10_drop_9 (ctX10_isPart C.inj ) h (fun x4 M3 h => ?_)
    refine s_if_ne C 19 (by decide) dX10_drop_12 h (fun _ h => ?_) (fun _ h => ?_)
    · refine s_ldc2 C (-2 : Int64) kl_X10_188 dX10_drop_15 ?_
      exact s_lret C E dX10_drop_18 h
    · refine i_aload_n C dX10_drop_19 0 rfl ?_
      refine s_vcR C [] vmX10_now lkX10_139 rfl rfl (by decide) hq0 (by decide) rfl rfl (Nat.le_of_ble_eq_true rfl) dX10_drop_20 (ctX10_now C.inj hq0) h (fun x6 M5 hfx6 h => ?_)
      refine i_astore_n (lv9 := [(3, _), (0, _), (1, _), (2, _)]) C 3 dX10_drop_23 rfl (by decide) rfl ?_
      refine i_aload_n C dX10_drop_24 0 rfl ?_
      refine i_iload_n C dX10_drop_25 2 rfl ?_
      refine s_vcI C [_] vmX1_isDead lkX10_176 rfl rfl (by decide) (krX10_now hq0 hfx6) (by decide) rfl rfl (Nat.le_of_ble_eq_true rfl) dX10_drop_26 (ctX1_isDead C.inj (krX10_now hq0 hfx6)) h (fun x8 M7 h => ?_)
      refine s_if_eq C 38 (by decide) dX10_drop_29 h (fun _ h => ?_) (fun _ h => ?_)
      · refine i_aload_n C dX10_drop_38 0 rfl ?_
        refine gf10_192 C (krX10_now hq0 hfx6) dX10_drop_39 ?_
        refine i_iload_n C dX10_drop_42 2 rfl ?_
        refine s_lald C (ky1_2 (krX10_now hq0 hfx6)) dX10_drop_43 h (fun h => ?_)
        refine i_aload_n C dX10_drop_44 0 rfl ?_
        refine gf10_196 C (krX10_now hq0 hfx6) dX10_drop_45 ?_
        refine i_iload_n C dX10_drop_48 3 rfl ?_
        refine s_scL C [_, _, _] smX10_partOf lkX10_200 (by decide) rfl rfl (Nat.le_of_ble_eq_true rfl) dX10_drop_49 (ctX10_partOf C.inj ) h (fun x10 M9 h => ?_)
        exact s_lret C E dX10_drop_52 h
      · refine s_ldc2 C (-1 : Int64) kl_X10_190 dX10_drop_32 ?_
        refine s_goto C 52 (by decide) dX10_drop_35 ?_
        exact s_lret C E dX10_drop_52 h
theorem ctX10_drop {ad : Nat → Nat} {V : sg_V} {N : Nat} (hi : sg_inj Yc ad) {a0_ : Nat} {x1_ : Int32} {x2_ : Int32} {M : sg_M} (hq0 : sg_K Yc a0_ 10) : ∀ res, fX10_drop N a0_ x1_ x2_ M = some res → sg_cL Yc ad V yX10_drop cX10_drop 4 4 [.ref (ad a0_), .int x1_, .int x2_] M res := fun res h => sg_bodyL (by decide) hi (Nat.le_of_ble_eq_true rfl) (fun X hX C E => by subst hX; exact tX10_drop C E _ _ _  _ hq0 h)
def fX10_through (N : Nat) (a0_ : Nat) (x1_ : Int32) (x2_ : Int32) (M : sg_M) : Option (Int64 × sg_M) :=
  sg_b (fX10_hasStrap N a0_ x1_ M) (fun (x2 : Int32) (M1 : sg_M) =>
  if x2 = 0 then (
  some ((-9223372036854775808 : Int64), M1)) else (
  sg_b (fX10_isPart N x2_ M1) (fun (x4 : Int32) (M3 : sg_M) =>
  if x4 = 0 then (
  some ((-9223372036854775808 : Int64), M3)) else (
  sg_b (fX10_now N a0_ M3) (fun (x6 : Nat) (M5 : sg_M) =>
  if sg_ib x1_ (Yc.2.2.1 (Yc.2.2.2 (Yc.2.2.2 a0_ 1) 11)) = true then
  sg_b (fX1_rise N x6 (Yc.2.2.2 a0_ 1) x1_ M5) (fun (x8 : Int64) (M7 : sg_M) =>
  sg_m (((M5.1 (Yc.2.2.2 (Yc.2.2.2 a0_ 1) 11) (x1_).toNatClampNeg)).toInt64 * x8) (fun x9 : Int64 =>
  sg_b (fX10_partOf N x9 (M7.2 x6 1) x2_ M7) (fun (x11 : Int64) (M10 : sg_M) =>
  some (x11, M10))))
  else none)))))
set_option maxHeartbeats 4000000 in
set_option maxRecDepth 100000 in
theorem tX10_through {ad : Nat → Nat} {X : sg_X} {N : Nat} {r : Int64 × sg_M} (C : sg_C Yc ad X cX10_through RX10 6 4) (E : sg_eL Yc ad X cX10_through r) : ∀ (a0_ : Nat) (x1_ : Int32) (x2_ : Int32) (M : sg_M), sg_K Yc a0_ 10 → fX10_through N a0_ x1_ x2_ M = some r → sg_T Yc ad X 6 0 [(0, .ref (ad a0_)), (1, .int x1_), (2, .int x2_)] [] M := by
  intro a0_ x1_ x2_ M hq0 h
  unfold fX10_through at h
  refine i_aload_n C dX10_through_0 0 rfl ?_
  refine i_iload_n C dX10_through_1 1 rfl ?_
  refine s_vcI C [_] vmX10_hasStrap lkX10_146 rfl rfl (by decide) hq0 (by decide) rfl rfl (Nat.le_of_ble_eq_true rfl) dX10_through_2 (ctX10_hasStrap C.inj hq0) h (fun x2 M1 h => ?_)
  refine s_if_eq C 15 (by decide) dX10_through_5 h (fun _ h => ?_) (fun _ h => ?_)
  · refine s_ldc2 C (-9223372036854775808 : Int64) kl_X10_204 dX10_through_15 ?_
    exact s_lret C E dX10_through_18 h
  · refine i_iload_n C dX10_through_8 2 rfl ?_
    refine s_scI C [_] smX10_isPart lkX10_185 (by decide) rfl rfl (Nat.le_of_ble_eq_true rfl) dX10_through_9 (ctX10_isPart C.inj ) h (fun x4 M3 h => ?_)
    refine s_if_ne C 19 (by decide) dX10_through_12 h (fun _ h => ?_) (fun _ h => ?_)
    · refine s_ldc2 C (-9223372036854775808 : Int64) kl_X10_204 dX10_through_15 ?_
      exact s_lret C E dX10_through_18 h
    · refine i_aload_n C dX10_through_19 0 rfl ?_
      refine s_vcR C [] vmX10_now lkX10_139 rfl rfl (by decide) hq0 (by decide) rfl rfl (Nat.le_of_ble_eq_true rfl) dX10_through_20 (ctX10_now C.inj hq0) h (fun x6 M5 hfx6 h => ?_)
      refine i_astore_n (lv9 := [(3, _), (0, _), (1, _), (2, _)]) C 3 dX10_through_23 rfl (by decide) rfl ?_
      refine i_aload_n C dX10_through_24 1 rfl ?_
      refine gf10_19 C hq0 dX10_through_25 ?_
      refine gf10_157 C (ky10_1 hq0) dX10_through_28 ?_
      refine i_iload_n C dX10_through_31 2 rfl ?_
      refine s_iald C (ky4_11 (ky10_1 hq0)) dX10_through_32 h (fun h => ?_)
      refine s_i2l C dX10_through_33 ?_
      refine i_aload_n C dX10_through_34 0 rfl ?_
      refine i_aload_n C dX10_through_35 1 rfl ?_
      refine gf10_19 C hq0 dX10_through_36 ?_
      refine i_iload_n C dX10_through_39 2 rfl ?_
      refine s_vcL C [_, _] vmX1_rise lkX10_206 rfl rfl (by decide) (krX10_now hq0 hfx6) (by decide) rfl rfl (Nat.le_of_ble_eq_true rfl) dX10_through_40 (ctX1_rise C.inj (krX10_now hq0 hfx6) (ky10_1 hq0)) h (fun x8 M7 h => ?_)
      refine s_lmul C dX10_through_43 ?_
      refine z_gl h (fun x9 h => ?_)
      refine i_lstore (lv9 := [(4, _), (3, _), (0, _), (1, _), (2, _)]) C dX10_through_44 (by decide) rfl ?_
      refine i_lload C dX10_through_46 0 rfl ?_
      refine i_aload_n C dX10_through_48 1 rfl ?_
      refine gf10_196 C (krX10_now hq0 hfx6) dX10_through_49 ?_
      refine i_iload_n C dX10_through_52 4 rfl ?_
      refine s_scL C [_, _, _] smX10_partOf lkX10_200 (by decide) rfl rfl (Nat.le_of_ble_eq_true rfl) dX10_through_53 (ctX10_partOf C.inj ) h (fun x11 M10 h => ?_)
      exact s_lret C E dX10_through_56 h
theorem ctX10_through {ad : Nat → Nat} {V : sg_V} {N : Nat} (hi : sg_inj Yc ad) {a0_ : Nat} {x1_ : Int32} {x2_ : Int32} {M : sg_M} (hq0 : sg_K Yc a0_ 10) : ∀ res, fX10_through N a0_ x1_ x2_ M = some res → sg_cL Yc ad V yX10_through cX10_through 6 4 [.ref (ad a0_), .int x1_, .int x2_] M res := fun res h => sg_bodyL (by decide) hi (Nat.le_of_ble_eq_true rfl) (fun X hX C E => by subst hX; exact tX10_through C E _ _ _  _ hq0 h)
def fX10_gives (N : Nat) (a0_ : Nat) (x1_ : Int32) (x2_ : Int32) (M : sg_M) : Option (Int64 × sg_M) :=
  sg_b (fX10_hasNode N a0_ x1_ M) (fun (x2 : Int32) (M1 : sg_M) =>
  if x2 = 0 then (
  some ((-2 : Int64), M1)) else (
  sg_b (fX10_isPart N x2_ M1) (fun (x4 : Int32) (M3 : sg_M) =>
  if x4 = 0 then (
  some ((-2 : Int64), M3)) else (
  sg_b (fX4_isPad N (Yc.2.2.2 a0_ 1) x1_ M3) (fun (x6 : Int32) (M5 : sg_M) =>
  if x6 = 0 then (
  some ((-1 : Int64), M5)) else (
  sg_b (fX10_now N a0_ M5) (fun (x8 : Nat) (M7 : sg_M) =>
  sg_b (fX1_givenBy N x8 (Yc.2.2.2 a0_ 1) x1_ M7) (fun (x10 : Int64) (M9 : sg_M) =>
  sg_b (fX10_partOf N x10 (M9.2 x8 1) x2_ M9) (fun (x12 : Int64) (M11 : sg_M) =>
  some (x12, M11))))))))))
set_option maxHeartbeats 4000000 in
set_option maxRecDepth 100000 in
theorem tX10_gives {ad : Nat → Nat} {X : sg_X} {N : Nat} {r : Int64 × sg_M} (C : sg_C Yc ad X cX10_gives RX10 4 4) (E : sg_eL Yc ad X cX10_gives r) : ∀ (a0_ : Nat) (x1_ : Int32) (x2_ : Int32) (M : sg_M), sg_K Yc a0_ 10 → fX10_gives N a0_ x1_ x2_ M = some r → sg_T Yc ad X 4 0 [(0, .ref (ad a0_)), (1, .int x1_), (2, .int x2_)] [] M := by
  intro a0_ x1_ x2_ M hq0 h
  unfold fX10_gives at h
  refine i_aload_n C dX10_gives_0 0 rfl ?_
  refine i_iload_n C dX10_gives_1 1 rfl ?_
  refine s_vcI C [_] vmX10_hasNode lkX10_160 rfl rfl (by decide) hq0 (by decide) rfl rfl (Nat.le_of_ble_eq_true rfl) dX10_gives_2 (ctX10_hasNode C.inj hq0) h (fun x2 M1 h => ?_)
  refine s_if_eq C 15 (by decide) dX10_gives_5 h (fun _ h => ?_) (fun _ h => ?_)
  · refine s_ldc2 C (-2 : Int64) kl_X10_188 dX10_gives_15 ?_
    exact s_lret C E dX10_gives_18 h
  · refine i_iload_n C dX10_gives_8 2 rfl ?_
    refine s_scI C [_] smX10_isPart lkX10_185 (by decide) rfl rfl (Nat.le_of_ble_eq_true rfl) dX10_gives_9 (ctX10_isPart C.inj ) h (fun x4 M3 h => ?_)
    refine s_if_ne C 19 (by decide) dX10_gives_12 h (fun _ h => ?_) (fun _ h => ?_)
    · refine s_ldc2 C (-2 : Int64) kl_X10_188 dX10_gives_15 ?_
      exact s_lret C E dX10_gives_18 h
    · refine i_aload_n C dX10_gives_19 0 rfl ?_
      refine gf10_19 C hq0 dX10_gives_20 ?_
      refine i_iload_n C dX10_gives_23 1 rfl ?_
      refine s_vcI C [_] vmX4_isPad lkX10_167 rfl rfl (by decide) (ky10_1 hq0) (by decide) rfl rfl (Nat.le_of_ble_eq_true rfl) dX10_gives_24 (ctX4_isPad C.inj (ky10_1 hq0)) h (fun x6 M5 h => ?_)
      refine s_if_ne C 34 (by decide) dX10_gives_27 h (fun _ h => ?_) (fun _ h => ?_)
      · refine s_ldc2 C (-1 : Int64) kl_X10_190 dX10_gives_30 ?_
        exact s_lret C E dX10_gives_33 h
      · refine i_aload_n C dX10_gives_34 0 rfl ?_
        refine s_vcR C [] vmX10_now lkX10_139 rfl rfl (by decide) hq0 (by decide) rfl rfl (Nat.le_of_ble_eq_true rfl) dX10_gives_35 (ctX10_now C.inj hq0) h (fun x8 M7 hfx8 h => ?_)
        refine i_astore_n (lv9 := [(3, _), (0, _), (1, _), (2, _)]) C 3 dX10_gives_38 rfl (by decide) rfl ?_
        refine i_aload_n C dX10_gives_39 0 rfl ?_
        refine i_aload_n C dX10_gives_40 1 rfl ?_
        refine gf10_19 C hq0 dX10_gives_41 ?_
        refine i_iload_n C dX10_gives_44 2 rfl ?_
        refine s_vcL C [_, _] vmX1_givenBy lkX10_210 rfl rfl (by decide) (krX10_now hq0 hfx8) (by decide) rfl rfl (Nat.le_of_ble_eq_true rfl) dX10_gives_45 (ctX1_givenBy C.inj (krX10_now hq0 hfx8) (ky10_1 hq0)) h (fun x10 M9 h => ?_)
        refine i_aload_n C dX10_gives_48 0 rfl ?_
        refine gf10_196 C (krX10_now hq0 hfx8) dX10_gives_49 ?_
        refine i_iload_n C dX10_gives_52 3 rfl ?_
        refine s_scL C [_, _, _] smX10_partOf lkX10_200 (by decide) rfl rfl (Nat.le_of_ble_eq_true rfl) dX10_gives_53 (ctX10_partOf C.inj ) h (fun x12 M11 h => ?_)
        exact s_lret C E dX10_gives_56 h
theorem ctX10_gives {ad : Nat → Nat} {V : sg_V} {N : Nat} (hi : sg_inj Yc ad) {a0_ : Nat} {x1_ : Int32} {x2_ : Int32} {M : sg_M} (hq0 : sg_K Yc a0_ 10) : ∀ res, fX10_gives N a0_ x1_ x2_ M = some res → sg_cL Yc ad V yX10_gives cX10_gives 4 4 [.ref (ad a0_), .int x1_, .int x2_] M res := fun res h => sg_bodyL (by decide) hi (Nat.le_of_ble_eq_true rfl) (fun X hX C E => by subst hX; exact tX10_gives C E _ _ _  _ hq0 h)
def gX10_chief_70 (N : Nat) (k22 : (Nat × Nat × Int32 × Int64 × Int32) → sg_M → Option (Int32 × sg_M)) (a0_ : Nat) (a1_ : Nat) (x5_ : Int32) (x6_ : Int64) (M : sg_M) : Option (Int32 × sg_M) :=
  sg_m x5_ (fun x1 : Int32 =>
  sg_m x6_ (fun x2 : Int64 =>
  sg_m (x5_ + (1 : Int32)) (fun x3 : Int32 =>
  k22 (a0_, a1_, x1, x2, x3) M)))
set_option maxHeartbeats 4000000 in
set_option maxRecDepth 100000 in
theorem tX10_chief_70 {ad : Nat → Nat} {X : sg_X} {N : Nat} {r : Int32 × sg_M} (C : sg_C Yc ad X cX10_chief RX10 8 4) (E : sg_eI Yc ad X cX10_chief .int r) {k22 : (Nat × Nat × Int32 × Int64 × Int32) → sg_M → Option (Int32 × sg_M)} (hk22 : ∀ (s : Nat × Nat × Int32 × Int64 × Int32) (M : sg_M), k22 s M = some r → sg_K Yc s.1 10 → sg_K Yc s.2.1 1 → sg_T Yc ad X 8 22 [(0, .ref (ad (s.1))), (1, .ref (ad (s.2.1))), (2, .int (s.2.2.1)), (3, .long (s.2.2.2.1)), (5, .int (s.2.2.2.2))] [] M) : ∀ (a0_ : Nat) (a1_ : Nat) (x5_ : Int32) (x6_ : Int64) (M : sg_M), gX10_chief_70 N k22 a0_ a1_ x5_ x6_ M = some r → sg_K Yc a0_ 10 → sg_K Yc a1_ 1 → sg_T Yc ad X 8 70 [(0, .ref (ad a0_)), (1, .ref (ad a1_)), (5, .int x5_), (6, .long x6_)] [] M := by
  intro a0_ a1_ x5_ x6_ M h hq0 hq1
  unfold gX10_chief_70 at h
  refine i_iload C dX10_chief_70 2 rfl ?_
  refine z_gi h (fun x1 h => ?_)
  refine i_istore_n (lv9 := [(2, _), (0, _), (1, _), (5, _), (6, _)]) C 2 dX10_chief_72 rfl (by decide) rfl ?_
  refine i_lload C dX10_chief_73 4 rfl ?_
  refine z_gl h (fun x2 h => ?_)
  refine i_lstore_n (lv9 := [(3, _), (2, _), (0, _), (1, _), (5, _), (6, _)]) C 3 dX10_chief_75 rfl (by decide) rfl ?_
  refine z_iinc (n := 1) (c9 := (1 : Int32)) (by decide) h (fun x3 hx h => ?_)
  refine i_iinc (lv9 := [(5, _), (3, _), (2, _), (0, _), (1, _), (6, _)]) C dX10_chief_76 4 rfl hx (by decide) rfl ?_
  refine s_goto C 22 (by decide) dX10_chief_79 ?_
  exact sg_T.to (hk22 _ _ h hq0 hq1) [3, 4, 2, 1, 0] rfl
def bX10_chief_22 (N : Nat)  (k22 : (Nat × Nat × Int32 × Int64 × Int32) → sg_M → Option (Int32 × sg_M)) (s : Nat × Nat × Int32 × Int64 × Int32) (M : sg_M) : Option (Int32 × sg_M) :=
  if (M.1 (Yc.2.2.2 s.1 1) 5) ≤ s.2.2.2.2 then (
  some (s.2.2.1, M)) else (
  sg_b (fX4_isPad N (Yc.2.2.2 s.1 1) s.2.2.2.2 M) (fun (x5 : Int32) (M4 : sg_M) =>
  if x5 = 0 then (
  sg_m (s.2.2.2.2 + (1 : Int32)) (fun x6 : Int32 =>
  k22 (s.1, s.2.1, s.2.2.1, s.2.2.2.1, x6) M4)) else (
  sg_b (fX1_givenBy N s.2.1 (Yc.2.2.2 s.1 1) s.2.2.2.2 M4) (fun (x8 : Int64) (M7 : sg_M) =>
  sg_m x8 (fun x9 : Int64 =>
  if s.2.2.1 = (-1 : Int32) then (
  gX10_chief_70 N k22 s.1 s.2.1 s.2.2.2.2 x9 M7) else (
  if (lg_cmp x9 s.2.2.2.1) ≤ 0 then (
  sg_m (s.2.2.2.2 + (1 : Int32)) (fun x10 : Int32 =>
  k22 (s.1, s.2.1, s.2.2.1, s.2.2.2.1, x10) M7)) else (
  gX10_chief_70 N k22 s.1 s.2.1 s.2.2.2.2 x9 M7)))))))
def gX10_chief_22 (N : Nat)  : (Nat × Nat × Int32 × Int64 × Int32) → sg_M → Option (Int32 × sg_M) := sg_lp (bX10_chief_22 N ) N
set_option maxHeartbeats 4000000 in
set_option maxRecDepth 100000 in
theorem tX10_chief_22 {ad : Nat → Nat} {X : sg_X} {N : Nat} {r : Int32 × sg_M} (C : sg_C Yc ad X cX10_chief RX10 8 4) (E : sg_eI Yc ad X cX10_chief .int r)  : ∀ (s : Nat × Nat × Int32 × Int64 × Int32) (M : sg_M), gX10_chief_22 N s M = some r → sg_K Yc s.1 10 → sg_K Yc s.2.1 1 → sg_T Yc ad X 8 22 [(0, .ref (ad (s.1))), (1, .ref (ad (s.2.1))), (2, .int (s.2.2.1)), (3, .long (s.2.2.2.1)), (5, .int (s.2.2.2.2))] [] M := by
  have key : ∀ n : Nat, ∀ (s : Nat × Nat × Int32 × Int64 × Int32) (M : sg_M), sg_lp (bX10_chief_22 N) n s M = some r → sg_K Yc s.1 10 → sg_K Yc s.2.1 1 → sg_T Yc ad X 8 22 [(0, .ref (ad (s.1))), (1, .ref (ad (s.2.1))), (2, .int (s.2.2.1)), (3, .long (s.2.2.2.1)), (5, .int (s.2.2.2.2))] [] M := by
    intro n
    induction n with
    | zero => intro s M h; cases h
    | succ n ih =>
      intro s M h hq0 hq1
      have h : bX10_chief_22 N (sg_lp (bX10_chief_22 N) n) s M = some r := h
      generalize sg_lp (bX10_chief_22 N) n = k22 at h ih
      have hk22 := ih
      unfold bX10_chief_22 at h
      refine i_iload C dX10_chief_22 4 rfl ?_
      refine i_aload_n C dX10_chief_24 0 rfl ?_
      refine gf10_19 C hq0 dX10_chief_25 ?_
      refine gf10_213 C (ky10_1 hq0) dX10_chief_28 ?_
      refine s_icmp_ge C 82 (by decide) dX10_chief_31 h (fun _ h => ?_) (fun _ h => ?_)
      · refine i_iload_n C dX10_chief_82 2 rfl ?_
        exact s_iret C E dX10_chief_83 h
      · refine i_aload_n C dX10_chief_34 0 rfl ?_
        refine gf10_19 C hq0 dX10_chief_35 ?_
        refine i_iload C dX10_chief_38 4 rfl ?_
        refine s_vcI C [_] vmX4_isPad lkX10_167 rfl rfl (by decide) (ky10_1 hq0) (by decide) rfl rfl (Nat.le_of_ble_eq_true rfl) dX10_chief_40 (ctX4_isPad C.inj (ky10_1 hq0)) h (fun x5 M4 h => ?_)
        refine s_if_eq C 76 (by decide) dX10_chief_43 h (fun _ h => ?_) (fun _ h => ?_)
        · refine z_iinc (n := 1) (c9 := (1 : Int32)) (by decide) h (fun x6 hx h => ?_)
          refine i_iinc (lv9 := [(5, _), (0, _), (1, _), (2, _), (3, _)]) C dX10_chief_76 4 rfl hx (by decide) rfl ?_
          refine s_goto C 22 (by decide) dX10_chief_79 ?_
          exact sg_T.to (hk22 _ _ h hq0 hq1) [1, 2, 3, 4, 0] rfl
        · refine i_aload_n C dX10_chief_46 1 rfl ?_
          refine i_aload_n C dX10_chief_47 0 rfl ?_
          refine gf10_19 C hq0 dX10_chief_48 ?_
          refine i_iload C dX10_chief_51 4 rfl ?_
          refine s_vcL C [_, _] vmX1_givenBy lkX10_210 rfl rfl (by decide) hq1 (by decide) rfl rfl (Nat.le_of_ble_eq_true rfl) dX10_chief_53 (ctX1_givenBy C.inj hq1 (ky10_1 hq0)) h (fun x8 M7 h => ?_)
          refine z_gl h (fun x9 h => ?_)
          refine i_lstore (lv9 := [(6, _), (0, _), (1, _), (2, _), (3, _), (5, _)]) C dX10_chief_56 (by decide) rfl ?_
          refine i_iload_n C dX10_chief_58 3 rfl ?_
          refine s_iconst C (-1 : Int32) dX10_chief_59 (by decide) ?_
          refine s_icmp_eq C 70 (by decide) dX10_chief_60 h (fun _ h => ?_) (fun _ h => ?_)
          · exact sg_T.to (tX10_chief_70 C E hk22 _ _ _ _ _ h hq0 hq1) [1, 2, 5, 0] rfl
          · refine i_lload C dX10_chief_63 0 rfl ?_
            refine i_lload_n C dX10_chief_65 4 rfl ?_
            refine s_lcmp C dX10_chief_66 ?_
            refine s_if_le C 76 (by decide) dX10_chief_67 h (fun _ h => ?_) (fun _ h => ?_)
            · refine z_iinc (n := 1) (c9 := (1 : Int32)) (by decide) h (fun x10 hx h => ?_)
              refine i_iinc (lv9 := [(5, _), (6, _), (0, _), (1, _), (2, _), (3, _)]) C dX10_chief_76 5 rfl hx (by decide) rfl ?_
              refine s_goto C 22 (by decide) dX10_chief_79 ?_
              exact sg_T.to (hk22 _ _ h hq0 hq1) [2, 3, 4, 5, 0] rfl
            · exact sg_T.to (tX10_chief_70 C E hk22 _ _ _ _ _ h hq0 hq1) [1, 2, 5, 0] rfl
  exact key N
def fX10_chief (N : Nat) (a0_ : Nat) (M : sg_M) : Option (Int32 × sg_M) :=
  sg_b (fX10_noGrid N a0_ M) (fun (x12 : Int32) (M11 : sg_M) =>
  if x12 = 0 then (
  sg_b (fX10_now N a0_ M11) (fun (x14 : Nat) (M13 : sg_M) =>
  sg_m (-1 : Int32) (fun x15 : Int32 =>
  sg_m (0 : Int64) (fun x16 : Int64 =>
  sg_m (0 : Int32) (fun x17 : Int32 =>
  gX10_chief_22 N (a0_, x14, x15, x16, x17) M13))))) else (
  some ((-2 : Int32), M11)))
set_option maxHeartbeats 4000000 in
set_option maxRecDepth 100000 in
theorem tX10_chief {ad : Nat → Nat} {X : sg_X} {N : Nat} {r : Int32 × sg_M} (C : sg_C Yc ad X cX10_chief RX10 8 4) (E : sg_eI Yc ad X cX10_chief .int r) : ∀ (a0_ : Nat) (M : sg_M), sg_K Yc a0_ 10 → fX10_chief N a0_ M = some r → sg_T Yc ad X 8 0 [(0, .ref (ad a0_))] [] M := by
  intro a0_ M hq0 h
  unfold fX10_chief at h
  refine i_aload_n C dX10_chief_0 0 rfl ?_
  refine s_vcI C [] vmX10_noGrid lkX10_179 rfl rfl (by decide) hq0 (by decide) rfl rfl (Nat.le_of_ble_eq_true rfl) dX10_chief_1 (ctX10_noGrid C.inj hq0) h (fun x12 M11 h => ?_)
  refine s_if_eq C 10 (by decide) dX10_chief_4 h (fun _ h => ?_) (fun _ h => ?_)
  · refine i_aload_n C dX10_chief_10 0 rfl ?_
    refine s_vcR C [] vmX10_now lkX10_139 rfl rfl (by decide) hq0 (by decide) rfl rfl (Nat.le_of_ble_eq_true rfl) dX10_chief_11 (ctX10_now C.inj hq0) h (fun x14 M13 hfx14 h => ?_)
    refine i_astore_n (lv9 := [(1, _), (0, _)]) C 1 dX10_chief_14 rfl (by decide) rfl ?_
    refine s_iconst C (-1 : Int32) dX10_chief_15 (by decide) ?_
    refine z_gi h (fun x15 h => ?_)
    refine i_istore_n (lv9 := [(2, _), (1, _), (0, _)]) C 2 dX10_chief_16 rfl (by decide) rfl ?_
    refine s_lconst C (0 : Int64) dX10_chief_17 (by decide) ?_
    refine z_gl h (fun x16 h => ?_)
    refine i_lstore_n (lv9 := [(3, _), (2, _), (1, _), (0, _)]) C 3 dX10_chief_18 rfl (by decide) rfl ?_
    refine s_iconst C (0 : Int32) dX10_chief_19 (by decide) ?_
    refine z_gi h (fun x17 h => ?_)
    refine i_istore (lv9 := [(5, _), (3, _), (2, _), (1, _), (0, _)]) C dX10_chief_20 (by decide) rfl ?_
    exact sg_T.to (tX10_chief_22 C E _ _ h hq0 (krX10_now hq0 hfx14)) [4, 3, 2, 1, 0] rfl
  · refine s_bipush C (-2 : Int32) dX10_chief_7 (by decide) ?_
    exact s_iret C E dX10_chief_9 h
theorem ctX10_chief {ad : Nat → Nat} {V : sg_V} {N : Nat} (hi : sg_inj Yc ad) {a0_ : Nat} {M : sg_M} (hq0 : sg_K Yc a0_ 10) : ∀ res, fX10_chief N a0_ M = some res → sg_cI Yc ad V yX10_chief cX10_chief 8 .int 4 [.ref (ad a0_)] M res := fun res h => sg_bodyI (by decide) hi (Nat.le_of_ble_eq_true rfl) (fun X hX C E => by subst hX; exact tX10_chief C E _  _ hq0 h)
def bX10_area_14 (N : Nat)  (k14 : (Nat × Int32 × Int32) → sg_M → Option (Int32 × sg_M)) (s : Nat × Int32 × Int32) (M : sg_M) : Option (Int32 × sg_M) :=
  if (M.1 (Yc.2.2.2 s.1 1) 6) ≤ s.2.2 then (
  some (s.2.1, M)) else (
  if sg_ib s.2.2 (Yc.2.2.1 (Yc.2.2.2 (Yc.2.2.2 s.1 1) 11)) = true then
  sg_m (s.2.1 + (M.1 (Yc.2.2.2 (Yc.2.2.2 s.1 1) 11) (s.2.2).toNatClampNeg)) (fun x1 : Int32 =>
  sg_m (s.2.2 + (1 : Int32)) (fun x2 : Int32 =>
  k14 (s.1, x1, x2) M))
  else none)
def gX10_area_14 (N : Nat)  : (Nat × Int32 × Int32) → sg_M → Option (Int32 × sg_M) := sg_lp (bX10_area_14 N ) N
set_option maxHeartbeats 4000000 in
set_option maxRecDepth 100000 in
theorem tX10_area_14 {ad : Nat → Nat} {X : sg_X} {N : Nat} {r : Int32 × sg_M} (C : sg_C Yc ad X cX10_area RX10 3 1) (E : sg_eI Yc ad X cX10_area .int r)  : ∀ (s : Nat × Int32 × Int32) (M : sg_M), gX10_area_14 N s M = some r → sg_K Yc s.1 10 → sg_T Yc ad X 3 14 [(0, .ref (ad (s.1))), (1, .int (s.2.1)), (2, .int (s.2.2))] [] M := by
  have key : ∀ n : Nat, ∀ (s : Nat × Int32 × Int32) (M : sg_M), sg_lp (bX10_area_14 N) n s M = some r → sg_K Yc s.1 10 → sg_T Yc ad X 3 14 [(0, .ref (ad (s.1))), (1, .int (s.2.1)), (2, .int (s.2.2))] [] M := by
    intro n
    induction n with
    | zero => intro s M h; cases h
    | succ n ih =>
      intro s M h hq0
      have h : bX10_area_14 N (sg_lp (bX10_area_14 N) n) s M = some r := h
      generalize sg_lp (bX10_area_14 N) n = k14 at h ih
      have hk14 := ih
      unfold bX10_area_14 at h
      refine i_iload_n C dX10_area_14 2 rfl ?_
      refine i_aload_n C dX10_area_15 0 rfl ?_
      refine gf10_19 C hq0 dX10_area_16 ?_
      refine gf10_130 C (ky10_1 hq0) dX10_area_19 ?_
      refine s_icmp_ge C 43 (by decide) dX10_area_22 h (fun _ h => ?_) (fun _ h => ?_)
      · refine i_iload_n C dX10_area_43 1 rfl ?_
        exact s_iret C E dX10_area_44 h
      · refine i_iload_n C dX10_area_25 1 rfl ?_
        refine i_aload_n C dX10_area_26 0 rfl ?_
        refine gf10_19 C hq0 dX10_area_27 ?_
        refine gf10_157 C (ky10_1 hq0) dX10_area_30 ?_
        refine i_iload_n C dX10_area_33 2 rfl ?_
        refine s_iald C (ky4_11 (ky10_1 hq0)) dX10_area_34 h (fun h => ?_)
        refine s_iadd C dX10_area_35 ?_
        refine z_gi h (fun x1 h => ?_)
        refine i_istore_n (lv9 := [(1, _), (0, _), (2, _)]) C 1 dX10_area_36 rfl (by decide) rfl ?_
        refine z_iinc (n := 1) (c9 := (1 : Int32)) (by decide) h (fun x2 hx h => ?_)
        refine i_iinc (lv9 := [(2, _), (1, _), (0, _)]) C dX10_area_37 2 rfl hx (by decide) rfl ?_
        refine s_goto C 14 (by decide) dX10_area_40 ?_
        exact sg_T.to (hk14 _ _ h hq0) [2, 1, 0] rfl
  exact key N
def fX10_area (N : Nat) (a0_ : Nat) (M : sg_M) : Option (Int32 × sg_M) :=
  sg_b (fX10_noGrid N a0_ M) (fun (x4 : Int32) (M3 : sg_M) =>
  if x4 = 0 then (
  sg_m (0 : Int32) (fun x5 : Int32 =>
  sg_m (0 : Int32) (fun x6 : Int32 =>
  gX10_area_14 N (a0_, x5, x6) M3))) else (
  some ((-2 : Int32), M3)))
set_option maxHeartbeats 4000000 in
set_option maxRecDepth 100000 in
theorem tX10_area {ad : Nat → Nat} {X : sg_X} {N : Nat} {r : Int32 × sg_M} (C : sg_C Yc ad X cX10_area RX10 3 1) (E : sg_eI Yc ad X cX10_area .int r) : ∀ (a0_ : Nat) (M : sg_M), sg_K Yc a0_ 10 → fX10_area N a0_ M = some r → sg_T Yc ad X 3 0 [(0, .ref (ad a0_))] [] M := by
  intro a0_ M hq0 h
  unfold fX10_area at h
  refine i_aload_n C dX10_area_0 0 rfl ?_
  refine s_vcI C [] vmX10_noGrid lkX10_179 rfl rfl (by decide) hq0 (by decide) rfl rfl (Nat.le_of_ble_eq_true rfl) dX10_area_1 (ctX10_noGrid C.inj hq0) h (fun x4 M3 h => ?_)
  refine s_if_eq C 10 (by decide) dX10_area_4 h (fun _ h => ?_) (fun _ h => ?_)
  · refine s_iconst C (0 : Int32) dX10_area_10 (by decide) ?_
    refine z_gi h (fun x5 h => ?_)
    refine i_istore_n (lv9 := [(1, _), (0, _)]) C 1 dX10_area_11 rfl (by decide) rfl ?_
    refine s_iconst C (0 : Int32) dX10_area_12 (by decide) ?_
    refine z_gi h (fun x6 h => ?_)
    refine i_istore_n (lv9 := [(2, _), (1, _), (0, _)]) C 2 dX10_area_13 rfl (by decide) rfl ?_
    exact sg_T.to (tX10_area_14 C E _ _ h hq0) [2, 1, 0] rfl
  · refine s_bipush C (-2 : Int32) dX10_area_7 (by decide) ?_
    exact s_iret C E dX10_area_9 h
theorem ctX10_area {ad : Nat → Nat} {V : sg_V} {N : Nat} (hi : sg_inj Yc ad) {a0_ : Nat} {M : sg_M} (hq0 : sg_K Yc a0_ 10) : ∀ res, fX10_area N a0_ M = some res → sg_cI Yc ad V yX10_area cX10_area 3 .int 1 [.ref (ad a0_)] M res := fun res h => sg_bodyI (by decide) hi (Nat.le_of_ble_eq_true rfl) (fun X hX C E => by subst hX; exact tX10_area C E _  _ hq0 h)
def gX10_worst_60 (N : Nat) (k22 : (Nat × Nat × Int32 × Int64 × Int32) → sg_M → Option (Int32 × sg_M)) (a0_ : Nat) (a1_ : Nat) (x5_ : Int32) (M : sg_M) : Option (Int32 × sg_M) :=
  sg_m x5_ (fun x1 : Int32 =>
  if sg_ib x5_ (Yc.2.2.1 (Yc.2.2.2 a1_ 2)) = true then
  sg_m (M.2 (Yc.2.2.2 a1_ 2) (x5_).toNatClampNeg) (fun x2 : Int64 =>
  sg_m (x5_ + (1 : Int32)) (fun x3 : Int32 =>
  k22 (a0_, a1_, x1, x2, x3) M))
  else none)
set_option maxHeartbeats 4000000 in
set_option maxRecDepth 100000 in
theorem tX10_worst_60 {ad : Nat → Nat} {X : sg_X} {N : Nat} {r : Int32 × sg_M} (C : sg_C Yc ad X cX10_worst RX10 6 4) (E : sg_eI Yc ad X cX10_worst .int r) {k22 : (Nat × Nat × Int32 × Int64 × Int32) → sg_M → Option (Int32 × sg_M)} (hk22 : ∀ (s : Nat × Nat × Int32 × Int64 × Int32) (M : sg_M), k22 s M = some r → sg_K Yc s.1 10 → sg_K Yc s.2.1 1 → sg_T Yc ad X 6 22 [(0, .ref (ad (s.1))), (1, .ref (ad (s.2.1))), (2, .int (s.2.2.1)), (3, .long (s.2.2.2.1)), (5, .int (s.2.2.2.2))] [] M) : ∀ (a0_ : Nat) (a1_ : Nat) (x5_ : Int32) (M : sg_M), gX10_worst_60 N k22 a0_ a1_ x5_ M = some r → sg_K Yc a0_ 10 → sg_K Yc a1_ 1 → sg_T Yc ad X 6 60 [(0, .ref (ad a0_)), (1, .ref (ad a1_)), (5, .int x5_)] [] M := by
  intro a0_ a1_ x5_ M h hq0 hq1
  unfold gX10_worst_60 at h
  refine i_iload C dX10_worst_60 2 rfl ?_
  refine z_gi h (fun x1 h => ?_)
  refine i_istore_n (lv9 := [(2, _), (0, _), (1, _), (5, _)]) C 2 dX10_worst_62 rfl (by decide) rfl ?_
  refine i_aload_n C dX10_worst_63 2 rfl ?_
  refine gf10_192 C hq1 dX10_worst_64 ?_
  refine i_iload C dX10_worst_67 3 rfl ?_
  refine s_lald C (ky1_2 hq1) dX10_worst_69 h (fun h => ?_)
  refine z_gl h (fun x2 h => ?_)
  refine i_lstore_n (lv9 := [(3, _), (2, _), (0, _), (1, _), (5, _)]) C 3 dX10_worst_70 rfl (by decide) rfl ?_
  refine z_iinc (n := 1) (c9 := (1 : Int32)) (by decide) h (fun x3 hx h => ?_)
  refine i_iinc (lv9 := [(5, _), (3, _), (2, _), (0, _), (1, _)]) C dX10_worst_71 4 rfl hx (by decide) rfl ?_
  refine s_goto C 22 (by decide) dX10_worst_74 ?_
  exact sg_T.to (hk22 _ _ h hq0 hq1) [3, 4, 2, 1, 0] rfl
def bX10_worst_22 (N : Nat)  (k22 : (Nat × Nat × Int32 × Int64 × Int32) → sg_M → Option (Int32 × sg_M)) (s : Nat × Nat × Int32 × Int64 × Int32) (M : sg_M) : Option (Int32 × sg_M) :=
  if (M.1 (Yc.2.2.2 s.1 1) 5) ≤ s.2.2.2.2 then (
  some (s.2.2.1, M)) else (
  sg_b (fX1_isDead N s.2.1 s.2.2.2.2 M) (fun (x5 : Int32) (M4 : sg_M) =>
  if x5 = 0 then (
  if s.2.2.1 = (-1 : Int32) then (
  gX10_worst_60 N k22 s.1 s.2.1 s.2.2.2.2 M4) else (
  if sg_ib s.2.2.2.2 (Yc.2.2.1 (Yc.2.2.2 s.2.1 2)) = true then
  if (lg_cmp (M4.2 (Yc.2.2.2 s.2.1 2) (s.2.2.2.2).toNatClampNeg) s.2.2.2.1) ≤ 0 then (
  sg_m (s.2.2.2.2 + (1 : Int32)) (fun x6 : Int32 =>
  k22 (s.1, s.2.1, s.2.2.1, s.2.2.2.1, x6) M4)) else (
  gX10_worst_60 N k22 s.1 s.2.1 s.2.2.2.2 M4)
  else none)) else (
  sg_m (s.2.2.2.2 + (1 : Int32)) (fun x7 : Int32 =>
  k22 (s.1, s.2.1, s.2.2.1, s.2.2.2.1, x7) M4))))
def gX10_worst_22 (N : Nat)  : (Nat × Nat × Int32 × Int64 × Int32) → sg_M → Option (Int32 × sg_M) := sg_lp (bX10_worst_22 N ) N
set_option maxHeartbeats 4000000 in
set_option maxRecDepth 100000 in
theorem tX10_worst_22 {ad : Nat → Nat} {X : sg_X} {N : Nat} {r : Int32 × sg_M} (C : sg_C Yc ad X cX10_worst RX10 6 4) (E : sg_eI Yc ad X cX10_worst .int r)  : ∀ (s : Nat × Nat × Int32 × Int64 × Int32) (M : sg_M), gX10_worst_22 N s M = some r → sg_K Yc s.1 10 → sg_K Yc s.2.1 1 → sg_T Yc ad X 6 22 [(0, .ref (ad (s.1))), (1, .ref (ad (s.2.1))), (2, .int (s.2.2.1)), (3, .long (s.2.2.2.1)), (5, .int (s.2.2.2.2))] [] M := by
  have key : ∀ n : Nat, ∀ (s : Nat × Nat × Int32 × Int64 × Int32) (M : sg_M), sg_lp (bX10_worst_22 N) n s M = some r → sg_K Yc s.1 10 → sg_K Yc s.2.1 1 → sg_T Yc ad X 6 22 [(0, .ref (ad (s.1))), (1, .ref (ad (s.2.1))), (2, .int (s.2.2.1)), (3, .long (s.2.2.2.1)), (5, .int (s.2.2.2.2))] [] M := by
    intro n
    induction n with
    | zero => intro s M h; cases h
    | succ n ih =>
      intro s M h hq0 hq1
      have h : bX10_worst_22 N (sg_lp (bX10_worst_22 N) n) s M = some r := h
      generalize sg_lp (bX10_worst_22 N) n = k22 at h ih
      have hk22 := ih
      unfold bX10_worst_22 at h
      refine i_iload C dX10_worst_22 4 rfl ?_
      refine i_aload_n C dX10_worst_24 0 rfl ?_
      refine gf10_19 C hq0 dX10_worst_25 ?_
      refine gf10_213 C (ky10_1 hq0) dX10_worst_28 ?_
      refine s_icmp_ge C 77 (by decide) dX10_worst_31 h (fun _ h => ?_) (fun _ h => ?_)
      · refine i_iload_n C dX10_worst_77 2 rfl ?_
        exact s_iret C E dX10_worst_78 h
      · refine i_aload_n C dX10_worst_34 1 rfl ?_
        refine i_iload C dX10_worst_35 4 rfl ?_
        refine s_vcI C [_] vmX1_isDead lkX10_176 rfl rfl (by decide) hq1 (by decide) rfl rfl (Nat.le_of_ble_eq_true rfl) dX10_worst_37 (ctX1_isDead C.inj hq1) h (fun x5 M4 h => ?_)
        refine s_if_ne C 71 (by decide) dX10_worst_40 h (fun _ h => ?_) (fun _ h => ?_)
        · refine i_iload_n C dX10_worst_43 2 rfl ?_
          refine s_iconst C (-1 : Int32) dX10_worst_44 (by decide) ?_
          refine s_icmp_eq C 60 (by decide) dX10_worst_45 h (fun _ h => ?_) (fun _ h => ?_)
          · exact sg_T.to (tX10_worst_60 C E hk22 _ _ _ _ h hq0 hq1) [0, 1, 4] rfl
          · refine i_aload_n C dX10_worst_48 1 rfl ?_
            refine gf10_192 C hq1 dX10_worst_49 ?_
            refine i_iload C dX10_worst_52 4 rfl ?_
            refine s_lald C (ky1_2 hq1) dX10_worst_54 h (fun h => ?_)
            refine i_lload_n C dX10_worst_55 3 rfl ?_
            refine s_lcmp C dX10_worst_56 ?_
            refine s_if_le C 71 (by decide) dX10_worst_57 h (fun _ h => ?_) (fun _ h => ?_)
            · refine z_iinc (n := 1) (c9 := (1 : Int32)) (by decide) h (fun x6 hx h => ?_)
              refine i_iinc (lv9 := [(5, _), (0, _), (1, _), (2, _), (3, _)]) C dX10_worst_71 4 rfl hx (by decide) rfl ?_
              refine s_goto C 22 (by decide) dX10_worst_74 ?_
              exact sg_T.to (hk22 _ _ h hq0 hq1) [1, 2, 3, 4, 0] rfl
            · exact sg_T.to (tX10_worst_60 C E hk22 _ _ _ _ h hq0 hq1) [0, 1, 4] rfl
        · refine z_iinc (n := 1) (c9 := (1 : Int32)) (by decide) h (fun x7 hx h => ?_)
          refine i_iinc (lv9 := [(5, _), (0, _), (1, _), (2, _), (3, _)]) C dX10_worst_71 4 rfl hx (by decide) rfl ?_
          refine s_goto C 22 (by decide) dX10_worst_74 ?_
          exact sg_T.to (hk22 _ _ h hq0 hq1) [1, 2, 3, 4, 0] rfl
  exact key N
def fX10_worst (N : Nat) (a0_ : Nat) (M : sg_M) : Option (Int32 × sg_M) :=
  sg_b (fX10_noGrid N a0_ M) (fun (x9 : Int32) (M8 : sg_M) =>
  if x9 = 0 then (
  sg_b (fX10_now N a0_ M8) (fun (x11 : Nat) (M10 : sg_M) =>
  sg_m (-1 : Int32) (fun x12 : Int32 =>
  sg_m (0 : Int64) (fun x13 : Int64 =>
  sg_m (0 : Int32) (fun x14 : Int32 =>
  gX10_worst_22 N (a0_, x11, x12, x13, x14) M10))))) else (
  some ((-2 : Int32), M8)))
set_option maxHeartbeats 4000000 in
set_option maxRecDepth 100000 in
theorem tX10_worst {ad : Nat → Nat} {X : sg_X} {N : Nat} {r : Int32 × sg_M} (C : sg_C Yc ad X cX10_worst RX10 6 4) (E : sg_eI Yc ad X cX10_worst .int r) : ∀ (a0_ : Nat) (M : sg_M), sg_K Yc a0_ 10 → fX10_worst N a0_ M = some r → sg_T Yc ad X 6 0 [(0, .ref (ad a0_))] [] M := by
  intro a0_ M hq0 h
  unfold fX10_worst at h
  refine i_aload_n C dX10_worst_0 0 rfl ?_
  refine s_vcI C [] vmX10_noGrid lkX10_179 rfl rfl (by decide) hq0 (by decide) rfl rfl (Nat.le_of_ble_eq_true rfl) dX10_worst_1 (ctX10_noGrid C.inj hq0) h (fun x9 M8 h => ?_)
  refine s_if_eq C 10 (by decide) dX10_worst_4 h (fun _ h => ?_) (fun _ h => ?_)
  · refine i_aload_n C dX10_worst_10 0 rfl ?_
    refine s_vcR C [] vmX10_now lkX10_139 rfl rfl (by decide) hq0 (by decide) rfl rfl (Nat.le_of_ble_eq_true rfl) dX10_worst_11 (ctX10_now C.inj hq0) h (fun x11 M10 hfx11 h => ?_)
    refine i_astore_n (lv9 := [(1, _), (0, _)]) C 1 dX10_worst_14 rfl (by decide) rfl ?_
    refine s_iconst C (-1 : Int32) dX10_worst_15 (by decide) ?_
    refine z_gi h (fun x12 h => ?_)
    refine i_istore_n (lv9 := [(2, _), (1, _), (0, _)]) C 2 dX10_worst_16 rfl (by decide) rfl ?_
    refine s_lconst C (0 : Int64) dX10_worst_17 (by decide) ?_
    refine z_gl h (fun x13 h => ?_)
    refine i_lstore_n (lv9 := [(3, _), (2, _), (1, _), (0, _)]) C 3 dX10_worst_18 rfl (by decide) rfl ?_
    refine s_iconst C (0 : Int32) dX10_worst_19 (by decide) ?_
    refine z_gi h (fun x14 h => ?_)
    refine i_istore (lv9 := [(5, _), (3, _), (2, _), (1, _), (0, _)]) C dX10_worst_20 (by decide) rfl ?_
    exact sg_T.to (tX10_worst_22 C E _ _ h hq0 (krX10_now hq0 hfx11)) [4, 3, 2, 1, 0] rfl
  · refine s_bipush C (-2 : Int32) dX10_worst_7 (by decide) ?_
    exact s_iret C E dX10_worst_9 h
theorem ctX10_worst {ad : Nat → Nat} {V : sg_V} {N : Nat} (hi : sg_inj Yc ad) {a0_ : Nat} {M : sg_M} (hq0 : sg_K Yc a0_ 10) : ∀ res, fX10_worst N a0_ M = some res → sg_cI Yc ad V yX10_worst cX10_worst 6 .int 4 [.ref (ad a0_)] M res := fun res h => sg_bodyI (by decide) hi (Nat.le_of_ble_eq_true rfl) (fun X hX C E => by subst hX; exact tX10_worst C E _  _ hq0 h)
def bX10_over_19 (N : Nat)  (k19 : (Nat × Nat × Int32 × Int32) → sg_M → Option (Int32 × sg_M)) (s : Nat × Nat × Int32 × Int32) (M : sg_M) : Option (Int32 × sg_M) :=
  if (M.1 (Yc.2.2.2 s.1 1) 5) ≤ s.2.2.2 then (
  some (s.2.2.1, M)) else (
  if sg_ib s.2.2.2 (Yc.2.2.1 (Yc.2.2.2 s.2.1 2)) = true then
  if (lg_cmp (M.2 (Yc.2.2.2 s.2.1 2) (s.2.2.2).toNatClampNeg) (((M.1 (Yc.2.2.2 s.1 1) 2)).toInt64 * (M.2 s.2.1 1))) ≤ 0 then (
  sg_m (s.2.2.2 + (1 : Int32)) (fun x1 : Int32 =>
  k19 (s.1, s.2.1, s.2.2.1, x1) M)) else (
  sg_m (s.2.2.1 ||| ((1 : Int32) <<< (s.2.2.2 &&& 31))) (fun x2 : Int32 =>
  sg_m (s.2.2.2 + (1 : Int32)) (fun x3 : Int32 =>
  k19 (s.1, s.2.1, x2, x3) M)))
  else none)
def gX10_over_19 (N : Nat)  : (Nat × Nat × Int32 × Int32) → sg_M → Option (Int32 × sg_M) := sg_lp (bX10_over_19 N ) N
set_option maxHeartbeats 4000000 in
set_option maxRecDepth 100000 in
theorem tX10_over_19 {ad : Nat → Nat} {X : sg_X} {N : Nat} {r : Int32 × sg_M} (C : sg_C Yc ad X cX10_over RX10 4 4) (E : sg_eI Yc ad X cX10_over .int r)  : ∀ (s : Nat × Nat × Int32 × Int32) (M : sg_M), gX10_over_19 N s M = some r → sg_K Yc s.1 10 → sg_K Yc s.2.1 1 → sg_T Yc ad X 4 19 [(0, .ref (ad (s.1))), (1, .ref (ad (s.2.1))), (2, .int (s.2.2.1)), (3, .int (s.2.2.2))] [] M := by
  have key : ∀ n : Nat, ∀ (s : Nat × Nat × Int32 × Int32) (M : sg_M), sg_lp (bX10_over_19 N) n s M = some r → sg_K Yc s.1 10 → sg_K Yc s.2.1 1 → sg_T Yc ad X 4 19 [(0, .ref (ad (s.1))), (1, .ref (ad (s.2.1))), (2, .int (s.2.2.1)), (3, .int (s.2.2.2))] [] M := by
    intro n
    induction n with
    | zero => intro s M h; cases h
    | succ n ih =>
      intro s M h hq0 hq1
      have h : bX10_over_19 N (sg_lp (bX10_over_19 N) n) s M = some r := h
      generalize sg_lp (bX10_over_19 N) n = k19 at h ih
      have hk19 := ih
      unfold bX10_over_19 at h
      refine i_iload_n C dX10_over_19 3 rfl ?_
      refine i_aload_n C dX10_over_20 0 rfl ?_
      refine gf10_19 C hq0 dX10_over_21 ?_
      refine gf10_213 C (ky10_1 hq0) dX10_over_24 ?_
      refine s_icmp_ge C 65 (by decide) dX10_over_27 h (fun _ h => ?_) (fun _ h => ?_)
      · refine i_iload_n C dX10_over_65 2 rfl ?_
        exact s_iret C E dX10_over_66 h
      · refine i_aload_n C dX10_over_30 1 rfl ?_
        refine gf10_192 C hq1 dX10_over_31 ?_
        refine i_iload_n C dX10_over_34 3 rfl ?_
        refine s_lald C (ky1_2 hq1) dX10_over_35 h (fun h => ?_)
        refine i_aload_n C dX10_over_36 0 rfl ?_
        refine gf10_19 C hq0 dX10_over_37 ?_
        refine gf10_124 C (ky10_1 hq0) dX10_over_40 ?_
        refine s_i2l C dX10_over_43 ?_
        refine i_aload_n C dX10_over_44 1 rfl ?_
        refine gf10_196 C hq1 dX10_over_45 ?_
        refine s_lmul C dX10_over_48 ?_
        refine s_lcmp C dX10_over_49 ?_
        refine s_if_le C 59 (by decide) dX10_over_50 h (fun _ h => ?_) (fun _ h => ?_)
        · refine z_iinc (n := 1) (c9 := (1 : Int32)) (by decide) h (fun x1 hx h => ?_)
          refine i_iinc (lv9 := [(3, _), (0, _), (1, _), (2, _)]) C dX10_over_59 3 rfl hx (by decide) rfl ?_
          refine s_goto C 19 (by decide) dX10_over_62 ?_
          exact sg_T.to (hk19 _ _ h hq0 hq1) [1, 2, 3, 0] rfl
        · refine i_iload_n C dX10_over_53 2 rfl ?_
          refine s_iconst C (1 : Int32) dX10_over_54 (by decide) ?_
          refine i_iload_n C dX10_over_55 3 rfl ?_
          refine s_ishl C dX10_over_56 ?_
          refine s_ior C dX10_over_57 ?_
          refine z_gi h (fun x2 h => ?_)
          refine i_istore_n (lv9 := [(2, _), (0, _), (1, _), (3, _)]) C 2 dX10_over_58 rfl (by decide) rfl ?_
          refine z_iinc (n := 1) (c9 := (1 : Int32)) (by decide) h (fun x3 hx h => ?_)
          refine i_iinc (lv9 := [(3, _), (2, _), (0, _), (1, _)]) C dX10_over_59 3 rfl hx (by decide) rfl ?_
          refine s_goto C 19 (by decide) dX10_over_62 ?_
          exact sg_T.to (hk19 _ _ h hq0 hq1) [2, 3, 1, 0] rfl
  exact key N
def fX10_over (N : Nat) (a0_ : Nat) (M : sg_M) : Option (Int32 × sg_M) :=
  sg_b (fX10_noGrid N a0_ M) (fun (x5 : Int32) (M4 : sg_M) =>
  if x5 = 0 then (
  sg_b (fX10_now N a0_ M4) (fun (x7 : Nat) (M6 : sg_M) =>
  sg_m (0 : Int32) (fun x8 : Int32 =>
  sg_m (0 : Int32) (fun x9 : Int32 =>
  gX10_over_19 N (a0_, x7, x8, x9) M6)))) else (
  some ((-2 : Int32), M4)))
set_option maxHeartbeats 4000000 in
set_option maxRecDepth 100000 in
theorem tX10_over {ad : Nat → Nat} {X : sg_X} {N : Nat} {r : Int32 × sg_M} (C : sg_C Yc ad X cX10_over RX10 4 4) (E : sg_eI Yc ad X cX10_over .int r) : ∀ (a0_ : Nat) (M : sg_M), sg_K Yc a0_ 10 → fX10_over N a0_ M = some r → sg_T Yc ad X 4 0 [(0, .ref (ad a0_))] [] M := by
  intro a0_ M hq0 h
  unfold fX10_over at h
  refine i_aload_n C dX10_over_0 0 rfl ?_
  refine s_vcI C [] vmX10_noGrid lkX10_179 rfl rfl (by decide) hq0 (by decide) rfl rfl (Nat.le_of_ble_eq_true rfl) dX10_over_1 (ctX10_noGrid C.inj hq0) h (fun x5 M4 h => ?_)
  refine s_if_eq C 10 (by decide) dX10_over_4 h (fun _ h => ?_) (fun _ h => ?_)
  · refine i_aload_n C dX10_over_10 0 rfl ?_
    refine s_vcR C [] vmX10_now lkX10_139 rfl rfl (by decide) hq0 (by decide) rfl rfl (Nat.le_of_ble_eq_true rfl) dX10_over_11 (ctX10_now C.inj hq0) h (fun x7 M6 hfx7 h => ?_)
    refine i_astore_n (lv9 := [(1, _), (0, _)]) C 1 dX10_over_14 rfl (by decide) rfl ?_
    refine s_iconst C (0 : Int32) dX10_over_15 (by decide) ?_
    refine z_gi h (fun x8 h => ?_)
    refine i_istore_n (lv9 := [(2, _), (1, _), (0, _)]) C 2 dX10_over_16 rfl (by decide) rfl ?_
    refine s_iconst C (0 : Int32) dX10_over_17 (by decide) ?_
    refine z_gi h (fun x9 h => ?_)
    refine i_istore_n (lv9 := [(3, _), (2, _), (1, _), (0, _)]) C 3 dX10_over_18 rfl (by decide) rfl ?_
    exact sg_T.to (tX10_over_19 C E _ _ h hq0 (krX10_now hq0 hfx7)) [3, 2, 1, 0] rfl
  · refine s_bipush C (-2 : Int32) dX10_over_7 (by decide) ?_
    exact s_iret C E dX10_over_9 h
theorem ctX10_over {ad : Nat → Nat} {V : sg_V} {N : Nat} (hi : sg_inj Yc ad) {a0_ : Nat} {M : sg_M} (hq0 : sg_K Yc a0_ 10) : ∀ res, fX10_over N a0_ M = some res → sg_cI Yc ad V yX10_over cX10_over 4 .int 4 [.ref (ad a0_)] M res := fun res h => sg_bodyI (by decide) hi (Nat.le_of_ble_eq_true rfl) (fun X hX C E => by subst hX; exact tX10_over C E _  _ hq0 h)
def fX10_holds (N : Nat) (a0_ : Nat) (M : sg_M) : Option (Int32 × sg_M) :=
  sg_b (fX10_noGrid N a0_ M) (fun (x2 : Int32) (M1 : sg_M) =>
  if x2 = 0 then (
  sg_b (fX10_now N a0_ M1) (fun (x4 : Nat) (M3 : sg_M) =>
  sg_b (fX7_isWithin N (Yc.2.2.2 x4 3) (M3.1 (Yc.2.2.2 a0_ 1) 2) M3) (fun (x6 : Int32) (M5 : sg_M) =>
  if x6 = 0 then (
  some ((0 : Int32), M5)) else (
  some ((1 : Int32), M5))))) else (
  some ((-2 : Int32), M1)))
set_option maxHeartbeats 4000000 in
set_option maxRecDepth 100000 in
theorem tX10_holds {ad : Nat → Nat} {X : sg_X} {N : Nat} {r : Int32 × sg_M} (C : sg_C Yc ad X cX10_holds RX10 1 4) (E : sg_eI Yc ad X cX10_holds .int r) : ∀ (a0_ : Nat) (M : sg_M), sg_K Yc a0_ 10 → fX10_holds N a0_ M = some r → sg_T Yc ad X 1 0 [(0, .ref (ad a0_))] [] M := by
  intro a0_ M hq0 h
  unfold fX10_holds at h
  refine i_aload_n C dX10_holds_0 0 rfl ?_
  refine s_vcI C [] vmX10_noGrid lkX10_179 rfl rfl (by decide) hq0 (by decide) rfl rfl (Nat.le_of_ble_eq_true rfl) dX10_holds_1 (ctX10_noGrid C.inj hq0) h (fun x2 M1 h => ?_)
  refine s_if_eq C 10 (by decide) dX10_holds_4 h (fun _ h => ?_) (fun _ h => ?_)
  · refine i_aload_n C dX10_holds_10 0 rfl ?_
    refine s_vcR C [] vmX10_now lkX10_139 rfl rfl (by decide) hq0 (by decide) rfl rfl (Nat.le_of_ble_eq_true rfl) dX10_holds_11 (ctX10_now C.inj hq0) h (fun x4 M3 hfx4 h => ?_)
    refine gf10_216 C (krX10_now hq0 hfx4) dX10_holds_14 ?_
    refine i_aload_n C dX10_holds_17 0 rfl ?_
    refine gf10_19 C hq0 dX10_holds_18 ?_
    refine gf10_124 C (ky10_1 hq0) dX10_holds_21 ?_
    refine s_vcI C [_] vmX7_isWithin lkX10_220 rfl rfl (by decide) (ky1_3 (krX10_now hq0 hfx4)) (by decide) rfl rfl (Nat.le_of_ble_eq_true rfl) dX10_holds_24 (ctX7_isWithin C.inj (ky1_3 (krX10_now hq0 hfx4))) h (fun x6 M5 h => ?_)
    refine s_if_eq C 34 (by decide) dX10_holds_27 h (fun _ h => ?_) (fun _ h => ?_)
    · refine s_iconst C (0 : Int32) dX10_holds_34 (by decide) ?_
      exact s_iret C E dX10_holds_35 h
    · refine s_iconst C (1 : Int32) dX10_holds_30 (by decide) ?_
      refine s_goto C 35 (by decide) dX10_holds_31 ?_
      exact s_iret C E dX10_holds_35 h
  · refine s_bipush C (-2 : Int32) dX10_holds_7 (by decide) ?_
    exact s_iret C E dX10_holds_9 h
theorem ctX10_holds {ad : Nat → Nat} {V : sg_V} {N : Nat} (hi : sg_inj Yc ad) {a0_ : Nat} {M : sg_M} (hq0 : sg_K Yc a0_ 10) : ∀ res, fX10_holds N a0_ M = some res → sg_cI Yc ad V yX10_holds cX10_holds 1 .int 4 [.ref (ad a0_)] M res := fun res h => sg_bodyI (by decide) hi (Nat.le_of_ble_eq_true rfl) (fun X hX C E => by subst hX; exact tX10_holds C E _  _ hq0 h)
def bX10_loss_28 (N : Nat)  (k28 : (Nat × Int32 × Nat × Int64 × Int32) → sg_M → Option (Int64 × sg_M)) (s : Nat × Int32 × Nat × Int64 × Int32) (M : sg_M) : Option (Int64 × sg_M) :=
  if (M.1 (Yc.2.2.2 s.1 1) 5) ≤ s.2.2.2.2 then (
  sg_b (fX10_partOf N s.2.2.2.1 (M.2 s.2.2.1 1) s.2.1 M) (fun (x2 : Int64) (M1 : sg_M) =>
  some (x2, M1))) else (
  if sg_ib s.2.2.2.2 (Yc.2.2.1 (Yc.2.2.2 (Yc.2.2.2 s.1 1) 12)) = true then
  if sg_ib s.2.2.2.2 (Yc.2.2.1 (Yc.2.2.2 s.2.2.1 2)) = true then
  sg_m (s.2.2.2.1 + (((M.1 (Yc.2.2.2 (Yc.2.2.2 s.1 1) 12) (s.2.2.2.2).toNatClampNeg)).toInt64 * (M.2 (Yc.2.2.2 s.2.2.1 2) (s.2.2.2.2).toNatClampNeg))) (fun x3 : Int64 =>
  sg_m (s.2.2.2.2 + (1 : Int32)) (fun x4 : Int32 =>
  k28 (s.1, s.2.1, s.2.2.1, x3, x4) M))
  else none
  else none)
def gX10_loss_28 (N : Nat)  : (Nat × Int32 × Nat × Int64 × Int32) → sg_M → Option (Int64 × sg_M) := sg_lp (bX10_loss_28 N ) N
set_option maxHeartbeats 4000000 in
set_option maxRecDepth 100000 in
theorem tX10_loss_28 {ad : Nat → Nat} {X : sg_X} {N : Nat} {r : Int64 × sg_M} (C : sg_C Yc ad X cX10_loss RX10 6 4) (E : sg_eL Yc ad X cX10_loss r)  : ∀ (s : Nat × Int32 × Nat × Int64 × Int32) (M : sg_M), gX10_loss_28 N s M = some r → sg_K Yc s.1 10 → sg_K Yc s.2.2.1 1 → sg_T Yc ad X 6 28 [(0, .ref (ad (s.1))), (1, .int (s.2.1)), (2, .ref (ad (s.2.2.1))), (3, .long (s.2.2.2.1)), (5, .int (s.2.2.2.2))] [] M := by
  have key : ∀ n : Nat, ∀ (s : Nat × Int32 × Nat × Int64 × Int32) (M : sg_M), sg_lp (bX10_loss_28 N) n s M = some r → sg_K Yc s.1 10 → sg_K Yc s.2.2.1 1 → sg_T Yc ad X 6 28 [(0, .ref (ad (s.1))), (1, .int (s.2.1)), (2, .ref (ad (s.2.2.1))), (3, .long (s.2.2.2.1)), (5, .int (s.2.2.2.2))] [] M := by
    intro n
    induction n with
    | zero => intro s M h; cases h
    | succ n ih =>
      intro s M h hq0 hq2
      have h : bX10_loss_28 N (sg_lp (bX10_loss_28 N) n) s M = some r := h
      generalize sg_lp (bX10_loss_28 N) n = k28 at h ih
      have hk28 := ih
      unfold bX10_loss_28 at h
      refine i_iload C dX10_loss_28 4 rfl ?_
      refine i_aload_n C dX10_loss_30 0 rfl ?_
      refine gf10_19 C hq0 dX10_loss_31 ?_
      refine gf10_213 C (ky10_1 hq0) dX10_loss_34 ?_
      refine s_icmp_ge C 68 (by decide) dX10_loss_37 h (fun _ h => ?_) (fun _ h => ?_)
      · refine i_lload_n C dX10_loss_68 3 rfl ?_
        refine i_aload_n C dX10_loss_69 2 rfl ?_
        refine gf10_196 C hq2 dX10_loss_70 ?_
        refine i_iload_n C dX10_loss_73 1 rfl ?_
        refine s_scL C [_, _, _] smX10_partOf lkX10_200 (by decide) rfl rfl (Nat.le_of_ble_eq_true rfl) dX10_loss_74 (ctX10_partOf C.inj ) h (fun x2 M1 h => ?_)
        exact s_lret C E dX10_loss_77 h
      · refine i_lload_n C dX10_loss_40 3 rfl ?_
        refine i_aload_n C dX10_loss_41 0 rfl ?_
        refine gf10_19 C hq0 dX10_loss_42 ?_
        refine gf10_170 C (ky10_1 hq0) dX10_loss_45 ?_
        refine i_iload C dX10_loss_48 4 rfl ?_
        refine s_iald C (ky4_12 (ky10_1 hq0)) dX10_loss_50 h (fun h => ?_)
        refine s_i2l C dX10_loss_51 ?_
        refine i_aload_n C dX10_loss_52 2 rfl ?_
        refine gf10_192 C hq2 dX10_loss_53 ?_
        refine i_iload C dX10_loss_56 4 rfl ?_
        refine s_lald C (ky1_2 hq2) dX10_loss_58 h (fun h => ?_)
        refine s_lmul C dX10_loss_59 ?_
        refine s_ladd C dX10_loss_60 ?_
        refine z_gl h (fun x3 h => ?_)
        refine i_lstore_n (lv9 := [(3, _), (0, _), (1, _), (2, _), (5, _)]) C 3 dX10_loss_61 rfl (by decide) rfl ?_
        refine z_iinc (n := 1) (c9 := (1 : Int32)) (by decide) h (fun x4 hx h => ?_)
        refine i_iinc (lv9 := [(5, _), (3, _), (0, _), (1, _), (2, _)]) C dX10_loss_62 4 rfl hx (by decide) rfl ?_
        refine s_goto C 28 (by decide) dX10_loss_65 ?_
        exact sg_T.to (hk28 _ _ h hq0 hq2) [2, 3, 4, 1, 0] rfl
  exact key N
def fX10_loss (N : Nat) (a0_ : Nat) (x1_ : Int32) (M : sg_M) : Option (Int64 × sg_M) :=
  sg_b (fX10_noGrid N a0_ M) (fun (x6 : Int32) (M5 : sg_M) =>
  if x6 = 0 then (
  sg_b (fX10_isPart N x1_ M5) (fun (x8 : Int32) (M7 : sg_M) =>
  if x8 = 0 then (
  some ((-2 : Int64), M7)) else (
  sg_b (fX10_now N a0_ M7) (fun (x10 : Nat) (M9 : sg_M) =>
  sg_m (0 : Int64) (fun x11 : Int64 =>
  sg_m (0 : Int32) (fun x12 : Int32 =>
  gX10_loss_28 N (a0_, x1_, x10, x11, x12) M9)))))) else (
  some ((-2 : Int64), M5)))
set_option maxHeartbeats 4000000 in
set_option maxRecDepth 100000 in
theorem tX10_loss {ad : Nat → Nat} {X : sg_X} {N : Nat} {r : Int64 × sg_M} (C : sg_C Yc ad X cX10_loss RX10 6 4) (E : sg_eL Yc ad X cX10_loss r) : ∀ (a0_ : Nat) (x1_ : Int32) (M : sg_M), sg_K Yc a0_ 10 → fX10_loss N a0_ x1_ M = some r → sg_T Yc ad X 6 0 [(0, .ref (ad a0_)), (1, .int x1_)] [] M := by
  intro a0_ x1_ M hq0 h
  unfold fX10_loss at h
  refine i_aload_n C dX10_loss_0 0 rfl ?_
  refine s_vcI C [] vmX10_noGrid lkX10_179 rfl rfl (by decide) hq0 (by decide) rfl rfl (Nat.le_of_ble_eq_true rfl) dX10_loss_1 (ctX10_noGrid C.inj hq0) h (fun x6 M5 h => ?_)
  refine s_if_ne C 14 (by decide) dX10_loss_4 h (fun _ h => ?_) (fun _ h => ?_)
  · refine i_iload_n C dX10_loss_7 1 rfl ?_
    refine s_scI C [_] smX10_isPart lkX10_185 (by decide) rfl rfl (Nat.le_of_ble_eq_true rfl) dX10_loss_8 (ctX10_isPart C.inj ) h (fun x8 M7 h => ?_)
    refine s_if_ne C 18 (by decide) dX10_loss_11 h (fun _ h => ?_) (fun _ h => ?_)
    · refine s_ldc2 C (-2 : Int64) kl_X10_188 dX10_loss_14 ?_
      exact s_lret C E dX10_loss_17 h
    · refine i_aload_n C dX10_loss_18 0 rfl ?_
      refine s_vcR C [] vmX10_now lkX10_139 rfl rfl (by decide) hq0 (by decide) rfl rfl (Nat.le_of_ble_eq_true rfl) dX10_loss_19 (ctX10_now C.inj hq0) h (fun x10 M9 hfx10 h => ?_)
      refine i_astore_n (lv9 := [(2, _), (0, _), (1, _)]) C 2 dX10_loss_22 rfl (by decide) rfl ?_
      refine s_lconst C (0 : Int64) dX10_loss_23 (by decide) ?_
      refine z_gl h (fun x11 h => ?_)
      refine i_lstore_n (lv9 := [(3, _), (2, _), (0, _), (1, _)]) C 3 dX10_loss_24 rfl (by decide) rfl ?_
      refine s_iconst C (0 : Int32) dX10_loss_25 (by decide) ?_
      refine z_gi h (fun x12 h => ?_)
      refine i_istore (lv9 := [(5, _), (3, _), (2, _), (0, _), (1, _)]) C dX10_loss_26 (by decide) rfl ?_
      exact sg_T.to (tX10_loss_28 C E _ _ h hq0 (krX10_now hq0 hfx10)) [3, 4, 2, 1, 0] rfl
  · refine s_ldc2 C (-2 : Int64) kl_X10_188 dX10_loss_14 ?_
    exact s_lret C E dX10_loss_17 h
theorem ctX10_loss {ad : Nat → Nat} {V : sg_V} {N : Nat} (hi : sg_inj Yc ad) {a0_ : Nat} {x1_ : Int32} {M : sg_M} (hq0 : sg_K Yc a0_ 10) : ∀ res, fX10_loss N a0_ x1_ M = some res → sg_cL Yc ad V yX10_loss cX10_loss 6 4 [.ref (ad a0_), .int x1_] M res := fun res h => sg_bodyL (by decide) hi (Nat.le_of_ble_eq_true rfl) (fun X hX C E => by subst hX; exact tX10_loss C E _ _  _ hq0 h)
def fX10_moves (N : Nat) (a0_ : Nat) (x1_ : Int32) (x2_ : Int32) (x3_ : Int32) (M : sg_M) : Option (Int64 × sg_M) :=
  sg_b (fX10_hasNode N a0_ x1_ M) (fun (x2 : Int32) (M1 : sg_M) =>
  if x2 = 0 then (
  some ((-2 : Int64), M1)) else (
  sg_b (fX10_hasNode N a0_ x2_ M1) (fun (x4 : Int32) (M3 : sg_M) =>
  if x4 = 0 then (
  some ((-2 : Int64), M3)) else (
  sg_b (fX10_isPart N x3_ M3) (fun (x6 : Int32) (M5 : sg_M) =>
  if x6 = 0 then (
  some ((-2 : Int64), M5)) else (
  sg_b (fX10_now N a0_ M5) (fun (x8 : Nat) (M7 : sg_M) =>
  sg_b (fX1_isDead N x8 x1_ M7) (fun (x10 : Int32) (M9 : sg_M) =>
  if x10 = 0 then (
  sg_b (fX10_now N a0_ M9) (fun (x12 : Nat) (M11 : sg_M) =>
  sg_b (fX1_isDead N x12 x2_ M11) (fun (x14 : Int32) (M13 : sg_M) =>
  if x14 = 0 then (
  sg_bv (fX1_settleUnit N (Yc.2.2.2 a0_ 6) (Yc.2.2.2 a0_ 1) (M13.1 (Yc.2.2.2 a0_ 1) 7) x2_ M13) (fun M15 : sg_M =>
  if sg_ib x1_ (Yc.2.2.1 (Yc.2.2.2 (Yc.2.2.2 a0_ 6) 2)) = true then
  sg_b (fX10_partOf N (M15.2 (Yc.2.2.2 (Yc.2.2.2 a0_ 6) 2) (x1_).toNatClampNeg) (M15.2 (Yc.2.2.2 a0_ 6) 1) x3_ M15) (fun (x17 : Int64) (M16 : sg_M) =>
  some (x17, M16))
  else none)) else (
  some ((-1 : Int64), M13))))) else (
  some ((-1 : Int64), M9))))))))))
set_option maxHeartbeats 4000000 in
set_option maxRecDepth 100000 in
theorem tX10_moves {ad : Nat → Nat} {X : sg_X} {N : Nat} {r : Int64 × sg_M} (C : sg_C Yc ad X cX10_moves RX10 4 4) (E : sg_eL Yc ad X cX10_moves r) : ∀ (a0_ : Nat) (x1_ : Int32) (x2_ : Int32) (x3_ : Int32) (M : sg_M), sg_K Yc a0_ 10 → fX10_moves N a0_ x1_ x2_ x3_ M = some r → sg_T Yc ad X 4 0 [(0, .ref (ad a0_)), (1, .int x1_), (2, .int x2_), (3, .int x3_)] [] M := by
  intro a0_ x1_ x2_ x3_ M hq0 h
  unfold fX10_moves at h
  refine i_aload_n C dX10_moves_0 0 rfl ?_
  refine i_iload_n C dX10_moves_1 1 rfl ?_
  refine s_vcI C [_] vmX10_hasNode lkX10_160 rfl rfl (by decide) hq0 (by decide) rfl rfl (Nat.le_of_ble_eq_true rfl) dX10_moves_2 (ctX10_hasNode C.inj hq0) h (fun x2 M1 h => ?_)
  refine s_if_eq C 23 (by decide) dX10_moves_5 h (fun _ h => ?_) (fun _ h => ?_)
  · refine s_ldc2 C (-2 : Int64) kl_X10_188 dX10_moves_23 ?_
    exact s_lret C E dX10_moves_26 h
  · refine i_aload_n C dX10_moves_8 0 rfl ?_
    refine i_iload_n C dX10_moves_9 2 rfl ?_
    refine s_vcI C [_] vmX10_hasNode lkX10_160 rfl rfl (by decide) hq0 (by decide) rfl rfl (Nat.le_of_ble_eq_true rfl) dX10_moves_10 (ctX10_hasNode C.inj hq0) h (fun x4 M3 h => ?_)
    refine s_if_eq C 23 (by decide) dX10_moves_13 h (fun _ h => ?_) (fun _ h => ?_)
    · refine s_ldc2 C (-2 : Int64) kl_X10_188 dX10_moves_23 ?_
      exact s_lret C E dX10_moves_26 h
    · refine i_iload_n C dX10_moves_16 3 rfl ?_
      refine s_scI C [_] smX10_isPart lkX10_185 (by decide) rfl rfl (Nat.le_of_ble_eq_true rfl) dX10_moves_17 (ctX10_isPart C.inj ) h (fun x6 M5 h => ?_)
      refine s_if_ne C 27 (by decide) dX10_moves_20 h (fun _ h => ?_) (fun _ h => ?_)
      · refine s_ldc2 C (-2 : Int64) kl_X10_188 dX10_moves_23 ?_
        exact s_lret C E dX10_moves_26 h
      · refine i_aload_n C dX10_moves_27 0 rfl ?_
        refine s_vcR C [] vmX10_now lkX10_139 rfl rfl (by decide) hq0 (by decide) rfl rfl (Nat.le_of_ble_eq_true rfl) dX10_moves_28 (ctX10_now C.inj hq0) h (fun x8 M7 hfx8 h => ?_)
        refine i_iload_n C dX10_moves_31 1 rfl ?_
        refine s_vcI C [_] vmX1_isDead lkX10_176 rfl rfl (by decide) (krX10_now hq0 hfx8) (by decide) rfl rfl (Nat.le_of_ble_eq_true rfl) dX10_moves_32 (ctX1_isDead C.inj (krX10_now hq0 hfx8)) h (fun x10 M9 h => ?_)
        refine s_if_ne C 49 (by decide) dX10_moves_35 h (fun _ h => ?_) (fun _ h => ?_)
        · refine i_aload_n C dX10_moves_38 0 rfl ?_
          refine s_vcR C [] vmX10_now lkX10_139 rfl rfl (by decide) hq0 (by decide) rfl rfl (Nat.le_of_ble_eq_true rfl) dX10_moves_39 (ctX10_now C.inj hq0) h (fun x12 M11 hfx12 h => ?_)
          refine i_iload_n C dX10_moves_42 2 rfl ?_
          refine s_vcI C [_] vmX1_isDead lkX10_176 rfl rfl (by decide) (krX10_now hq0 hfx12) (by decide) rfl rfl (Nat.le_of_ble_eq_true rfl) dX10_moves_43 (ctX1_isDead C.inj (krX10_now hq0 hfx12)) h (fun x14 M13 h => ?_)
          refine s_if_eq C 53 (by decide) dX10_moves_46 h (fun _ h => ?_) (fun _ h => ?_)
          · refine i_aload_n C dX10_moves_53 0 rfl ?_
            refine gf10_42 C hq0 dX10_moves_54 ?_
            refine i_aload_n C dX10_moves_57 0 rfl ?_
            refine gf10_19 C hq0 dX10_moves_58 ?_
            refine i_aload_n C dX10_moves_61 0 rfl ?_
            refine gf10_19 C hq0 dX10_moves_62 ?_
            refine gf10_136 C (ky10_1 hq0) dX10_moves_65 ?_
            refine i_iload_n C dX10_moves_68 2 rfl ?_
            refine s_vcV C [_, _, _] vmX1_settleUnit lkX10_225 rfl rfl (by decide) (ky10_6 hq0) (by decide) rfl rfl (Nat.le_of_ble_eq_true rfl) dX10_moves_69 (ctX1_settleUnit C.inj (ky10_6 hq0) (ky10_1 hq0)) h (fun M15 h => ?_)
            refine i_aload_n C dX10_moves_72 0 rfl ?_
            refine gf10_42 C hq0 dX10_moves_73 ?_
            refine gf10_192 C (ky10_6 hq0) dX10_moves_76 ?_
            refine i_iload_n C dX10_moves_79 1 rfl ?_
            refine s_lald C (ky1_2 (ky10_6 hq0)) dX10_moves_80 h (fun h => ?_)
            refine i_aload_n C dX10_moves_81 0 rfl ?_
            refine gf10_42 C hq0 dX10_moves_82 ?_
            refine gf10_196 C (ky10_6 hq0) dX10_moves_85 ?_
            refine i_iload_n C dX10_moves_88 3 rfl ?_
            refine s_scL C [_, _, _] smX10_partOf lkX10_200 (by decide) rfl rfl (Nat.le_of_ble_eq_true rfl) dX10_moves_89 (ctX10_partOf C.inj ) h (fun x17 M16 h => ?_)
            exact s_lret C E dX10_moves_92 h
          · refine s_ldc2 C (-1 : Int64) kl_X10_190 dX10_moves_49 ?_
            exact s_lret C E dX10_moves_52 h
        · refine s_ldc2 C (-1 : Int64) kl_X10_190 dX10_moves_49 ?_
          exact s_lret C E dX10_moves_52 h
theorem ctX10_moves {ad : Nat → Nat} {V : sg_V} {N : Nat} (hi : sg_inj Yc ad) {a0_ : Nat} {x1_ : Int32} {x2_ : Int32} {x3_ : Int32} {M : sg_M} (hq0 : sg_K Yc a0_ 10) : ∀ res, fX10_moves N a0_ x1_ x2_ x3_ M = some res → sg_cL Yc ad V yX10_moves cX10_moves 4 4 [.ref (ad a0_), .int x1_, .int x2_, .int x3_] M res := fun res h => sg_bodyL (by decide) hi (Nat.le_of_ble_eq_true rfl) (fun X hX C E => by subst hX; exact tX10_moves C E _ _ _ _  _ hq0 h)
def fX10_resists (N : Nat) (a0_ : Nat) (x1_ : Int32) (x2_ : Int32) (x3_ : Int32) (M : sg_M) : Option (Int64 × sg_M) :=
  sg_b (fX10_hasNode N a0_ x1_ M) (fun (x2 : Int32) (M1 : sg_M) =>
  if x2 = 0 then (
  some ((-2 : Int64), M1)) else (
  sg_b (fX10_hasNode N a0_ x2_ M1) (fun (x4 : Int32) (M3 : sg_M) =>
  if x4 = 0 then (
  some ((-2 : Int64), M3)) else (
  sg_b (fX10_isPart N x3_ M3) (fun (x6 : Int32) (M5 : sg_M) =>
  if x6 = 0 then (
  some ((-2 : Int64), M5)) else (
  sg_bv (fX1_settleUnit N (Yc.2.2.2 a0_ 6) (Yc.2.2.2 a0_ 1) ((1 : Int32) <<< (x1_ &&& 31)) x2_ M5) (fun M7 : sg_M =>
  sg_b (fX1_isDead N (Yc.2.2.2 a0_ 6) x2_ M7) (fun (x9 : Int32) (M8 : sg_M) =>
  if x9 = 0 then (
  if sg_ib x2_ (Yc.2.2.1 (Yc.2.2.2 (Yc.2.2.2 a0_ 6) 2)) = true then
  sg_b (fX10_partOf N (M8.2 (Yc.2.2.2 (Yc.2.2.2 a0_ 6) 2) (x2_).toNatClampNeg) (M8.2 (Yc.2.2.2 a0_ 6) 1) x3_ M8) (fun (x11 : Int64) (M10 : sg_M) =>
  some (x11, M10))
  else none) else (
  some ((-1 : Int64), M8))))))))))
set_option maxHeartbeats 4000000 in
set_option maxRecDepth 100000 in
theorem tX10_resists {ad : Nat → Nat} {X : sg_X} {N : Nat} {r : Int64 × sg_M} (C : sg_C Yc ad X cX10_resists RX10 4 4) (E : sg_eL Yc ad X cX10_resists r) : ∀ (a0_ : Nat) (x1_ : Int32) (x2_ : Int32) (x3_ : Int32) (M : sg_M), sg_K Yc a0_ 10 → fX10_resists N a0_ x1_ x2_ x3_ M = some r → sg_T Yc ad X 4 0 [(0, .ref (ad a0_)), (1, .int x1_), (2, .int x2_), (3, .int x3_)] [] M := by
  intro a0_ x1_ x2_ x3_ M hq0 h
  unfold fX10_resists at h
  refine i_aload_n C dX10_resists_0 0 rfl ?_
  refine i_iload_n C dX10_resists_1 1 rfl ?_
  refine s_vcI C [_] vmX10_hasNode lkX10_160 rfl rfl (by decide) hq0 (by decide) rfl rfl (Nat.le_of_ble_eq_true rfl) dX10_resists_2 (ctX10_hasNode C.inj hq0) h (fun x2 M1 h => ?_)
  refine s_if_eq C 23 (by decide) dX10_resists_5 h (fun _ h => ?_) (fun _ h => ?_)
  · refine s_ldc2 C (-2 : Int64) kl_X10_188 dX10_resists_23 ?_
    exact s_lret C E dX10_resists_26 h
  · refine i_aload_n C dX10_resists_8 0 rfl ?_
    refine i_iload_n C dX10_resists_9 2 rfl ?_
    refine s_vcI C [_] vmX10_hasNode lkX10_160 rfl rfl (by decide) hq0 (by decide) rfl rfl (Nat.le_of_ble_eq_true rfl) dX10_resists_10 (ctX10_hasNode C.inj hq0) h (fun x4 M3 h => ?_)
    refine s_if_eq C 23 (by decide) dX10_resists_13 h (fun _ h => ?_) (fun _ h => ?_)
    · refine s_ldc2 C (-2 : Int64) kl_X10_188 dX10_resists_23 ?_
      exact s_lret C E dX10_resists_26 h
    · refine i_iload_n C dX10_resists_16 3 rfl ?_
      refine s_scI C [_] smX10_isPart lkX10_185 (by decide) rfl rfl (Nat.le_of_ble_eq_true rfl) dX10_resists_17 (ctX10_isPart C.inj ) h (fun x6 M5 h => ?_)
      refine s_if_ne C 27 (by decide) dX10_resists_20 h (fun _ h => ?_) (fun _ h => ?_)
      · refine s_ldc2 C (-2 : Int64) kl_X10_188 dX10_resists_23 ?_
        exact s_lret C E dX10_resists_26 h
      · refine i_aload_n C dX10_resists_27 0 rfl ?_
        refine gf10_42 C hq0 dX10_resists_28 ?_
        refine i_aload_n C dX10_resists_31 0 rfl ?_
        refine gf10_19 C hq0 dX10_resists_32 ?_
        refine s_iconst C (1 : Int32) dX10_resists_35 (by decide) ?_
        refine i_iload_n C dX10_resists_36 1 rfl ?_
        refine s_ishl C dX10_resists_37 ?_
        refine i_iload_n C dX10_resists_38 2 rfl ?_
        refine s_vcV C [_, _, _] vmX1_settleUnit lkX10_225 rfl rfl (by decide) (ky10_6 hq0) (by decide) rfl rfl (Nat.le_of_ble_eq_true rfl) dX10_resists_39 (ctX1_settleUnit C.inj (ky10_6 hq0) (ky10_1 hq0)) h (fun M7 h => ?_)
        refine i_aload_n C dX10_resists_42 0 rfl ?_
        refine gf10_42 C hq0 dX10_resists_43 ?_
        refine i_iload_n C dX10_resists_46 2 rfl ?_
        refine s_vcI C [_] vmX1_isDead lkX10_176 rfl rfl (by decide) (ky10_6 hq0) (by decide) rfl rfl (Nat.le_of_ble_eq_true rfl) dX10_resists_47 (ctX1_isDead C.inj (ky10_6 hq0)) h (fun x9 M8 h => ?_)
        refine s_if_eq C 59 (by decide) dX10_resists_50 h (fun _ h => ?_) (fun _ h => ?_)
        · refine i_aload_n C dX10_resists_59 0 rfl ?_
          refine gf10_42 C hq0 dX10_resists_60 ?_
          refine gf10_192 C (ky10_6 hq0) dX10_resists_63 ?_
          refine i_iload_n C dX10_resists_66 2 rfl ?_
          refine s_lald C (ky1_2 (ky10_6 hq0)) dX10_resists_67 h (fun h => ?_)
          refine i_aload_n C dX10_resists_68 0 rfl ?_
          refine gf10_42 C hq0 dX10_resists_69 ?_
          refine gf10_196 C (ky10_6 hq0) dX10_resists_72 ?_
          refine i_iload_n C dX10_resists_75 3 rfl ?_
          refine s_scL C [_, _, _] smX10_partOf lkX10_200 (by decide) rfl rfl (Nat.le_of_ble_eq_true rfl) dX10_resists_76 (ctX10_partOf C.inj ) h (fun x11 M10 h => ?_)
          exact s_lret C E dX10_resists_79 h
        · refine s_ldc2 C (-1 : Int64) kl_X10_190 dX10_resists_53 ?_
          refine s_goto C 79 (by decide) dX10_resists_56 ?_
          exact s_lret C E dX10_resists_79 h
theorem ctX10_resists {ad : Nat → Nat} {V : sg_V} {N : Nat} (hi : sg_inj Yc ad) {a0_ : Nat} {x1_ : Int32} {x2_ : Int32} {x3_ : Int32} {M : sg_M} (hq0 : sg_K Yc a0_ 10) : ∀ res, fX10_resists N a0_ x1_ x2_ x3_ M = some res → sg_cL Yc ad V yX10_resists cX10_resists 4 4 [.ref (ad a0_), .int x1_, .int x2_, .int x3_] M res := fun res h => sg_bodyL (by decide) hi (Nat.le_of_ble_eq_true rfl) (fun X hX C E => by subst hX; exact tX10_resists C E _ _ _ _  _ hq0 h)
def fX10_most (N : Nat) (a0_ : Nat) (x1_ : Int32) (x2_ : Int32) (M : sg_M) : Option (Int64 × sg_M) :=
  sg_b (fX10_hasNode N a0_ x1_ M) (fun (x2 : Int32) (M1 : sg_M) =>
  if x2 = 0 then (
  some ((-2 : Int64), M1)) else (
  sg_b (fX10_isPart N x2_ M1) (fun (x4 : Int32) (M3 : sg_M) =>
  if x4 = 0 then (
  some ((-2 : Int64), M3)) else (
  sg_b (fX10_now N a0_ M3) (fun (x6 : Nat) (M5 : sg_M) =>
  sg_b (fX1_isDead N x6 x1_ M5) (fun (x8 : Int32) (M7 : sg_M) =>
  if x8 = 0 then (
  sg_bv (fX0_drawAgainst N (Yc.2.2.2 a0_ 7) (Yc.2.2.2 a0_ 1) x1_ M7) (fun M9 : sg_M =>
  sg_b (fX10_partOf N (M9.2 (Yc.2.2.2 a0_ 7) 0) (M9.2 (Yc.2.2.2 a0_ 7) 1) x2_ M9) (fun (x11 : Int64) (M10 : sg_M) =>
  some (x11, M10)))) else (
  some ((-1 : Int64), M7))))))))
set_option maxHeartbeats 4000000 in
set_option maxRecDepth 100000 in
theorem tX10_most {ad : Nat → Nat} {X : sg_X} {N : Nat} {r : Int64 × sg_M} (C : sg_C Yc ad X cX10_most RX10 3 5) (E : sg_eL Yc ad X cX10_most r) : ∀ (a0_ : Nat) (x1_ : Int32) (x2_ : Int32) (M : sg_M), sg_K Yc a0_ 10 → fX10_most N a0_ x1_ x2_ M = some r → sg_T Yc ad X 3 0 [(0, .ref (ad a0_)), (1, .int x1_), (2, .int x2_)] [] M := by
  intro a0_ x1_ x2_ M hq0 h
  unfold fX10_most at h
  refine i_aload_n C dX10_most_0 0 rfl ?_
  refine i_iload_n C dX10_most_1 1 rfl ?_
  refine s_vcI C [_] vmX10_hasNode lkX10_160 rfl rfl (by decide) hq0 (by decide) rfl rfl (Nat.le_of_ble_eq_true rfl) dX10_most_2 (ctX10_hasNode C.inj hq0) h (fun x2 M1 h => ?_)
  refine s_if_eq C 15 (by decide) dX10_most_5 h (fun _ h => ?_) (fun _ h => ?_)
  · refine s_ldc2 C (-2 : Int64) kl_X10_188 dX10_most_15 ?_
    exact s_lret C E dX10_most_18 h
  · refine i_iload_n C dX10_most_8 2 rfl ?_
    refine s_scI C [_] smX10_isPart lkX10_185 (by decide) rfl rfl (Nat.le_of_ble_eq_true rfl) dX10_most_9 (ctX10_isPart C.inj ) h (fun x4 M3 h => ?_)
    refine s_if_ne C 19 (by decide) dX10_most_12 h (fun _ h => ?_) (fun _ h => ?_)
    · refine s_ldc2 C (-2 : Int64) kl_X10_188 dX10_most_15 ?_
      exact s_lret C E dX10_most_18 h
    · refine i_aload_n C dX10_most_19 0 rfl ?_
      refine s_vcR C [] vmX10_now lkX10_139 rfl rfl (by decide) hq0 (by decide) rfl rfl (Nat.le_of_ble_eq_true rfl) dX10_most_20 (ctX10_now C.inj hq0) h (fun x6 M5 hfx6 h => ?_)
      refine i_iload_n C dX10_most_23 1 rfl ?_
      refine s_vcI C [_] vmX1_isDead lkX10_176 rfl rfl (by decide) (krX10_now hq0 hfx6) (by decide) rfl rfl (Nat.le_of_ble_eq_true rfl) dX10_most_24 (ctX1_isDead C.inj (krX10_now hq0 hfx6)) h (fun x8 M7 h => ?_)
      refine s_if_eq C 34 (by decide) dX10_most_27 h (fun _ h => ?_) (fun _ h => ?_)
      · refine i_aload_n C dX10_most_34 0 rfl ?_
        refine gf10_48 C hq0 dX10_most_35 ?_
        refine i_aload_n C dX10_most_38 0 rfl ?_
        refine gf10_19 C hq0 dX10_most_39 ?_
        refine i_iload_n C dX10_most_42 1 rfl ?_
        refine s_vcV C [_, _] vmX0_drawAgainst lkX10_229 rfl rfl (by decide) (ky10_7 hq0) (by decide) rfl rfl (Nat.le_of_ble_eq_true rfl) dX10_most_43 (ctX0_drawAgainst C.inj (ky10_7 hq0) (ky10_1 hq0)) h (fun M9 h => ?_)
        refine i_aload_n C dX10_most_46 0 rfl ?_
        refine gf10_48 C hq0 dX10_most_47 ?_
        refine gf10_233 C (ky10_7 hq0) dX10_most_50 ?_
        refine i_aload_n C dX10_most_53 0 rfl ?_
        refine gf10_48 C hq0 dX10_most_54 ?_
        refine gf10_235 C (ky10_7 hq0) dX10_most_57 ?_
        refine i_iload_n C dX10_most_60 2 rfl ?_
        refine s_scL C [_, _, _] smX10_partOf lkX10_200 (by decide) rfl rfl (Nat.le_of_ble_eq_true rfl) dX10_most_61 (ctX10_partOf C.inj ) h (fun x11 M10 h => ?_)
        exact s_lret C E dX10_most_64 h
      · refine s_ldc2 C (-1 : Int64) kl_X10_190 dX10_most_30 ?_
        exact s_lret C E dX10_most_33 h
theorem ctX10_most {ad : Nat → Nat} {V : sg_V} {N : Nat} (hi : sg_inj Yc ad) {a0_ : Nat} {x1_ : Int32} {x2_ : Int32} {M : sg_M} (hq0 : sg_K Yc a0_ 10) : ∀ res, fX10_most N a0_ x1_ x2_ M = some res → sg_cL Yc ad V yX10_most cX10_most 3 5 [.ref (ad a0_), .int x1_, .int x2_] M res := fun res h => sg_bodyL (by decide) hi (Nat.le_of_ble_eq_true rfl) (fun X hX C E => by subst hX; exact tX10_most C E _ _ _  _ hq0 h)
def fX10_drawn (N : Nat) (a0_ : Nat) (x1_ : Int32) (x2_ : Int32) (M : sg_M) : Option (Int32 × sg_M) :=
  sg_b (fX10_hasNode N a0_ x1_ M) (fun (x2 : Int32) (M1 : sg_M) =>
  if x2 = 0 then (
  some ((-2 : Int32), M1)) else (
  sg_b (fX10_hasNode N a0_ x2_ M1) (fun (x4 : Int32) (M3 : sg_M) =>
  if x4 = 0 then (
  some ((-2 : Int32), M3)) else (
  sg_b (fX10_now N a0_ M3) (fun (x6 : Nat) (M5 : sg_M) =>
  sg_b (fX1_isDead N x6 x1_ M5) (fun (x8 : Int32) (M7 : sg_M) =>
  if x8 = 0 then (
  sg_bv (fX0_drawAgainst N (Yc.2.2.2 a0_ 7) (Yc.2.2.2 a0_ 1) x1_ M7) (fun M9 : sg_M =>
  if sg_ib x2_ (Yc.2.2.1 (Yc.2.2.2 (Yc.2.2.2 a0_ 7) 2)) = true then
  some ((M9.1 (Yc.2.2.2 (Yc.2.2.2 a0_ 7) 2) (x2_).toNatClampNeg), M9)
  else none)) else (
  some ((-1 : Int32), M7))))))))
set_option maxHeartbeats 4000000 in
set_option maxRecDepth 100000 in
theorem tX10_drawn {ad : Nat → Nat} {X : sg_X} {N : Nat} {r : Int32 × sg_M} (C : sg_C Yc ad X cX10_drawn RX10 3 5) (E : sg_eI Yc ad X cX10_drawn .int r) : ∀ (a0_ : Nat) (x1_ : Int32) (x2_ : Int32) (M : sg_M), sg_K Yc a0_ 10 → fX10_drawn N a0_ x1_ x2_ M = some r → sg_T Yc ad X 3 0 [(0, .ref (ad a0_)), (1, .int x1_), (2, .int x2_)] [] M := by
  intro a0_ x1_ x2_ M hq0 h
  unfold fX10_drawn at h
  refine i_aload_n C dX10_drawn_0 0 rfl ?_
  refine i_iload_n C dX10_drawn_1 1 rfl ?_
  refine s_vcI C [_] vmX10_hasNode lkX10_160 rfl rfl (by decide) hq0 (by decide) rfl rfl (Nat.le_of_ble_eq_true rfl) dX10_drawn_2 (ctX10_hasNode C.inj hq0) h (fun x2 M1 h => ?_)
  refine s_if_eq C 16 (by decide) dX10_drawn_5 h (fun _ h => ?_) (fun _ h => ?_)
  · refine s_bipush C (-2 : Int32) dX10_drawn_16 (by decide) ?_
    exact s_iret C E dX10_drawn_18 h
  · refine i_aload_n C dX10_drawn_8 0 rfl ?_
    refine i_iload_n C dX10_drawn_9 2 rfl ?_
    refine s_vcI C [_] vmX10_hasNode lkX10_160 rfl rfl (by decide) hq0 (by decide) rfl rfl (Nat.le_of_ble_eq_true rfl) dX10_drawn_10 (ctX10_hasNode C.inj hq0) h (fun x4 M3 h => ?_)
    refine s_if_ne C 19 (by decide) dX10_drawn_13 h (fun _ h => ?_) (fun _ h => ?_)
    · refine s_bipush C (-2 : Int32) dX10_drawn_16 (by decide) ?_
      exact s_iret C E dX10_drawn_18 h
    · refine i_aload_n C dX10_drawn_19 0 rfl ?_
      refine s_vcR C [] vmX10_now lkX10_139 rfl rfl (by decide) hq0 (by decide) rfl rfl (Nat.le_of_ble_eq_true rfl) dX10_drawn_20 (ctX10_now C.inj hq0) h (fun x6 M5 hfx6 h => ?_)
      refine i_iload_n C dX10_drawn_23 1 rfl ?_
      refine s_vcI C [_] vmX1_isDead lkX10_176 rfl rfl (by decide) (krX10_now hq0 hfx6) (by decide) rfl rfl (Nat.le_of_ble_eq_true rfl) dX10_drawn_24 (ctX1_isDead C.inj (krX10_now hq0 hfx6)) h (fun x8 M7 h => ?_)
      refine s_if_eq C 32 (by decide) dX10_drawn_27 h (fun _ h => ?_) (fun _ h => ?_)
      · refine i_aload_n C dX10_drawn_32 0 rfl ?_
        refine gf10_48 C hq0 dX10_drawn_33 ?_
        refine i_aload_n C dX10_drawn_36 0 rfl ?_
        refine gf10_19 C hq0 dX10_drawn_37 ?_
        refine i_iload_n C dX10_drawn_40 1 rfl ?_
        refine s_vcV C [_, _] vmX0_drawAgainst lkX10_229 rfl rfl (by decide) (ky10_7 hq0) (by decide) rfl rfl (Nat.le_of_ble_eq_true rfl) dX10_drawn_41 (ctX0_drawAgainst C.inj (ky10_7 hq0) (ky10_1 hq0)) h (fun M9 h => ?_)
        refine i_aload_n C dX10_drawn_44 0 rfl ?_
        refine gf10_48 C hq0 dX10_drawn_45 ?_
        refine gf10_236 C (ky10_7 hq0) dX10_drawn_48 ?_
        refine i_iload_n C dX10_drawn_51 2 rfl ?_
        refine s_iald C (ky0_2 (ky10_7 hq0)) dX10_drawn_52 h (fun h => ?_)
        exact s_iret C E dX10_drawn_53 h
      · refine s_iconst C (-1 : Int32) dX10_drawn_30 (by decide) ?_
        exact s_iret C E dX10_drawn_31 h
theorem ctX10_drawn {ad : Nat → Nat} {V : sg_V} {N : Nat} (hi : sg_inj Yc ad) {a0_ : Nat} {x1_ : Int32} {x2_ : Int32} {M : sg_M} (hq0 : sg_K Yc a0_ 10) : ∀ res, fX10_drawn N a0_ x1_ x2_ M = some res → sg_cI Yc ad V yX10_drawn cX10_drawn 3 .int 5 [.ref (ad a0_), .int x1_, .int x2_] M res := fun res h => sg_bodyI (by decide) hi (Nat.le_of_ble_eq_true rfl) (fun X hX C E => by subst hX; exact tX10_drawn C E _ _ _  _ hq0 h)
def gX10_foe_85 (N : Nat) (k20 : (Nat × Int32 × Int64 × Int64 × Int32) → sg_M → Option (Int32 × sg_M)) (a0_ : Nat) (x6_ : Int32) (M : sg_M) : Option (Int32 × sg_M) :=
  sg_m x6_ (fun x1 : Int32 =>
  sg_m (M.2 (Yc.2.2.2 a0_ 7) 0) (fun x2 : Int64 =>
  sg_m (M.2 (Yc.2.2.2 a0_ 7) 1) (fun x3 : Int64 =>
  sg_m (x6_ + (1 : Int32)) (fun x4 : Int32 =>
  k20 (a0_, x1, x2, x3, x4) M))))
set_option maxHeartbeats 4000000 in
set_option maxRecDepth 100000 in
theorem tX10_foe_85 {ad : Nat → Nat} {X : sg_X} {N : Nat} {r : Int32 × sg_M} (C : sg_C Yc ad X cX10_foe RX10 7 5) (E : sg_eI Yc ad X cX10_foe .int r) {k20 : (Nat × Int32 × Int64 × Int64 × Int32) → sg_M → Option (Int32 × sg_M)} (hk20 : ∀ (s : Nat × Int32 × Int64 × Int64 × Int32) (M : sg_M), k20 s M = some r → sg_K Yc s.1 10 → sg_T Yc ad X 7 20 [(0, .ref (ad (s.1))), (1, .int (s.2.1)), (2, .long (s.2.2.1)), (4, .long (s.2.2.2.1)), (6, .int (s.2.2.2.2))] [] M) : ∀ (a0_ : Nat) (x6_ : Int32) (M : sg_M), gX10_foe_85 N k20 a0_ x6_ M = some r → sg_K Yc a0_ 10 → sg_T Yc ad X 7 85 [(0, .ref (ad a0_)), (6, .int x6_)] [] M := by
  intro a0_ x6_ M h hq0
  unfold gX10_foe_85 at h
  refine i_iload C dX10_foe_85 1 rfl ?_
  refine z_gi h (fun x1 h => ?_)
  refine i_istore_n (lv9 := [(1, _), (0, _), (6, _)]) C 1 dX10_foe_87 rfl (by decide) rfl ?_
  refine i_aload_n C dX10_foe_88 1 rfl ?_
  refine gf10_48 C hq0 dX10_foe_89 ?_
  refine gf10_233 C (ky10_7 hq0) dX10_foe_92 ?_
  refine z_gl h (fun x2 h => ?_)
  refine i_lstore_n (lv9 := [(2, _), (1, _), (0, _), (6, _)]) C 2 dX10_foe_95 rfl (by decide) rfl ?_
  refine i_aload_n C dX10_foe_96 2 rfl ?_
  refine gf10_48 C hq0 dX10_foe_97 ?_
  refine gf10_235 C (ky10_7 hq0) dX10_foe_100 ?_
  refine z_gl h (fun x3 h => ?_)
  refine i_lstore (lv9 := [(4, _), (2, _), (1, _), (0, _), (6, _)]) C dX10_foe_103 (by decide) rfl ?_
  refine z_iinc (n := 1) (c9 := (1 : Int32)) (by decide) h (fun x4 hx h => ?_)
  refine i_iinc (lv9 := [(6, _), (4, _), (2, _), (1, _), (0, _)]) C dX10_foe_105 4 rfl hx (by decide) rfl ?_
  refine s_goto C 20 (by decide) dX10_foe_108 ?_
  exact sg_T.to (hk20 _ _ h hq0) [4, 3, 2, 1, 0] rfl
def bX10_foe_20 (N : Nat)  (k20 : (Nat × Int32 × Int64 × Int64 × Int32) → sg_M → Option (Int32 × sg_M)) (s : Nat × Int32 × Int64 × Int64 × Int32) (M : sg_M) : Option (Int32 × sg_M) :=
  if (M.1 (Yc.2.2.2 s.1 1) 5) ≤ s.2.2.2.2 then (
  some (s.2.1, M)) else (
  sg_b (fX10_now N s.1 M) (fun (x6 : Nat) (M5 : sg_M) =>
  sg_b (fX1_isDead N x6 s.2.2.2.2 M5) (fun (x8 : Int32) (M7 : sg_M) =>
  if x8 = 0 then (
  sg_bv (fX0_drawAgainst N (Yc.2.2.2 s.1 7) (Yc.2.2.2 s.1 1) s.2.2.2.2 M7) (fun M9 : sg_M =>
  if s.2.1 = (-1 : Int32) then (
  gX10_foe_85 N k20 s.1 s.2.2.2.2 M9) else (
  if (lg_cmp ((M9.2 (Yc.2.2.2 s.1 7) 0) * s.2.2.2.1) (s.2.2.1 * (M9.2 (Yc.2.2.2 s.1 7) 1))) ≤ 0 then (
  sg_m (s.2.2.2.2 + (1 : Int32)) (fun x10 : Int32 =>
  k20 (s.1, s.2.1, s.2.2.1, s.2.2.2.1, x10) M9)) else (
  gX10_foe_85 N k20 s.1 s.2.2.2.2 M9)))) else (
  sg_m (s.2.2.2.2 + (1 : Int32)) (fun x11 : Int32 =>
  k20 (s.1, s.2.1, s.2.2.1, s.2.2.2.1, x11) M7)))))
def gX10_foe_20 (N : Nat)  : (Nat × Int32 × Int64 × Int64 × Int32) → sg_M → Option (Int32 × sg_M) := sg_lp (bX10_foe_20 N ) N
set_option maxHeartbeats 4000000 in
set_option maxRecDepth 100000 in
theorem tX10_foe_20 {ad : Nat → Nat} {X : sg_X} {N : Nat} {r : Int32 × sg_M} (C : sg_C Yc ad X cX10_foe RX10 7 5) (E : sg_eI Yc ad X cX10_foe .int r)  : ∀ (s : Nat × Int32 × Int64 × Int64 × Int32) (M : sg_M), gX10_foe_20 N s M = some r → sg_K Yc s.1 10 → sg_T Yc ad X 7 20 [(0, .ref (ad (s.1))), (1, .int (s.2.1)), (2, .long (s.2.2.1)), (4, .long (s.2.2.2.1)), (6, .int (s.2.2.2.2))] [] M := by
  have key : ∀ n : Nat, ∀ (s : Nat × Int32 × Int64 × Int64 × Int32) (M : sg_M), sg_lp (bX10_foe_20 N) n s M = some r → sg_K Yc s.1 10 → sg_T Yc ad X 7 20 [(0, .ref (ad (s.1))), (1, .int (s.2.1)), (2, .long (s.2.2.1)), (4, .long (s.2.2.2.1)), (6, .int (s.2.2.2.2))] [] M := by
    intro n
    induction n with
    | zero => intro s M h; cases h
    | succ n ih =>
      intro s M h hq0
      have h : bX10_foe_20 N (sg_lp (bX10_foe_20 N) n) s M = some r := h
      generalize sg_lp (bX10_foe_20 N) n = k20 at h ih
      have hk20 := ih
      unfold bX10_foe_20 at h
      refine i_iload C dX10_foe_20 4 rfl ?_
      refine i_aload_n C dX10_foe_22 0 rfl ?_
      refine gf10_19 C hq0 dX10_foe_23 ?_
      refine gf10_213 C (ky10_1 hq0) dX10_foe_26 ?_
      refine s_icmp_ge C 111 (by decide) dX10_foe_29 h (fun _ h => ?_) (fun _ h => ?_)
      · refine i_iload_n C dX10_foe_111 1 rfl ?_
        exact s_iret C E dX10_foe_112 h
      · refine i_aload_n C dX10_foe_32 0 rfl ?_
        refine s_vcR C [] vmX10_now lkX10_139 rfl rfl (by decide) hq0 (by decide) rfl rfl (Nat.le_of_ble_eq_true rfl) dX10_foe_33 (ctX10_now C.inj hq0) h (fun x6 M5 hfx6 h => ?_)
        refine i_iload C dX10_foe_36 4 rfl ?_
        refine s_vcI C [_] vmX1_isDead lkX10_176 rfl rfl (by decide) (krX10_now hq0 hfx6) (by decide) rfl rfl (Nat.le_of_ble_eq_true rfl) dX10_foe_38 (ctX1_isDead C.inj (krX10_now hq0 hfx6)) h (fun x8 M7 h => ?_)
        refine s_if_ne C 105 (by decide) dX10_foe_41 h (fun _ h => ?_) (fun _ h => ?_)
        · refine i_aload_n C dX10_foe_44 0 rfl ?_
          refine gf10_48 C hq0 dX10_foe_45 ?_
          refine i_aload_n C dX10_foe_48 0 rfl ?_
          refine gf10_19 C hq0 dX10_foe_49 ?_
          refine i_iload C dX10_foe_52 4 rfl ?_
          refine s_vcV C [_, _] vmX0_drawAgainst lkX10_229 rfl rfl (by decide) (ky10_7 hq0) (by decide) rfl rfl (Nat.le_of_ble_eq_true rfl) dX10_foe_54 (ctX0_drawAgainst C.inj (ky10_7 hq0) (ky10_1 hq0)) h (fun M9 h => ?_)
          refine i_iload_n C dX10_foe_57 1 rfl ?_
          refine s_iconst C (-1 : Int32) dX10_foe_58 (by decide) ?_
          refine s_icmp_eq C 85 (by decide) dX10_foe_59 h (fun _ h => ?_) (fun _ h => ?_)
          · exact sg_T.to (tX10_foe_85 C E hk20 _ _ _ h hq0) [0, 4] rfl
          · refine i_aload_n C dX10_foe_62 0 rfl ?_
            refine gf10_48 C hq0 dX10_foe_63 ?_
            refine gf10_233 C (ky10_7 hq0) dX10_foe_66 ?_
            refine i_lload C dX10_foe_69 3 rfl ?_
            refine s_lmul C dX10_foe_71 ?_
            refine i_lload_n C dX10_foe_72 2 rfl ?_
            refine i_aload_n C dX10_foe_73 0 rfl ?_
            refine gf10_48 C hq0 dX10_foe_74 ?_
            refine gf10_235 C (ky10_7 hq0) dX10_foe_77 ?_
            refine s_lmul C dX10_foe_80 ?_
            refine s_lcmp C dX10_foe_81 ?_
            refine s_if_le C 105 (by decide) dX10_foe_82 h (fun _ h => ?_) (fun _ h => ?_)
            · refine z_iinc (n := 1) (c9 := (1 : Int32)) (by decide) h (fun x10 hx h => ?_)
              refine i_iinc (lv9 := [(6, _), (0, _), (1, _), (2, _), (4, _)]) C dX10_foe_105 4 rfl hx (by decide) rfl ?_
              refine s_goto C 20 (by decide) dX10_foe_108 ?_
              exact sg_T.to (hk20 _ _ h hq0) [1, 2, 3, 4, 0] rfl
            · exact sg_T.to (tX10_foe_85 C E hk20 _ _ _ h hq0) [0, 4] rfl
        · refine z_iinc (n := 1) (c9 := (1 : Int32)) (by decide) h (fun x11 hx h => ?_)
          refine i_iinc (lv9 := [(6, _), (0, _), (1, _), (2, _), (4, _)]) C dX10_foe_105 4 rfl hx (by decide) rfl ?_
          refine s_goto C 20 (by decide) dX10_foe_108 ?_
          exact sg_T.to (hk20 _ _ h hq0) [1, 2, 3, 4, 0] rfl
  exact key N
def fX10_foe (N : Nat) (a0_ : Nat) (M : sg_M) : Option (Int32 × sg_M) :=
  sg_b (fX10_noGrid N a0_ M) (fun (x13 : Int32) (M12 : sg_M) =>
  if x13 = 0 then (
  sg_m (-1 : Int32) (fun x14 : Int32 =>
  sg_m (0 : Int64) (fun x15 : Int64 =>
  sg_m (1 : Int64) (fun x16 : Int64 =>
  sg_m (0 : Int32) (fun x17 : Int32 =>
  gX10_foe_20 N (a0_, x14, x15, x16, x17) M12))))) else (
  some ((-2 : Int32), M12)))
set_option maxHeartbeats 4000000 in
set_option maxRecDepth 100000 in
theorem tX10_foe {ad : Nat → Nat} {X : sg_X} {N : Nat} {r : Int32 × sg_M} (C : sg_C Yc ad X cX10_foe RX10 7 5) (E : sg_eI Yc ad X cX10_foe .int r) : ∀ (a0_ : Nat) (M : sg_M), sg_K Yc a0_ 10 → fX10_foe N a0_ M = some r → sg_T Yc ad X 7 0 [(0, .ref (ad a0_))] [] M := by
  intro a0_ M hq0 h
  unfold fX10_foe at h
  refine i_aload_n C dX10_foe_0 0 rfl ?_
  refine s_vcI C [] vmX10_noGrid lkX10_179 rfl rfl (by decide) hq0 (by decide) rfl rfl (Nat.le_of_ble_eq_true rfl) dX10_foe_1 (ctX10_noGrid C.inj hq0) h (fun x13 M12 h => ?_)
  refine s_if_eq C 10 (by decide) dX10_foe_4 h (fun _ h => ?_) (fun _ h => ?_)
  · refine s_iconst C (-1 : Int32) dX10_foe_10 (by decide) ?_
    refine z_gi h (fun x14 h => ?_)
    refine i_istore_n (lv9 := [(1, _), (0, _)]) C 1 dX10_foe_11 rfl (by decide) rfl ?_
    refine s_lconst C (0 : Int64) dX10_foe_12 (by decide) ?_
    refine z_gl h (fun x15 h => ?_)
    refine i_lstore_n (lv9 := [(2, _), (1, _), (0, _)]) C 2 dX10_foe_13 rfl (by decide) rfl ?_
    refine s_lconst C (1 : Int64) dX10_foe_14 (by decide) ?_
    refine z_gl h (fun x16 h => ?_)
    refine i_lstore (lv9 := [(4, _), (2, _), (1, _), (0, _)]) C dX10_foe_15 (by decide) rfl ?_
    refine s_iconst C (0 : Int32) dX10_foe_17 (by decide) ?_
    refine z_gi h (fun x17 h => ?_)
    refine i_istore (lv9 := [(6, _), (4, _), (2, _), (1, _), (0, _)]) C dX10_foe_18 (by decide) rfl ?_
    exact sg_T.to (tX10_foe_20 C E _ _ h hq0) [4, 3, 2, 1, 0] rfl
  · refine s_bipush C (-2 : Int32) dX10_foe_7 (by decide) ?_
    exact s_iret C E dX10_foe_9 h
theorem ctX10_foe {ad : Nat → Nat} {V : sg_V} {N : Nat} (hi : sg_inj Yc ad) {a0_ : Nat} {M : sg_M} (hq0 : sg_K Yc a0_ 10) : ∀ res, fX10_foe N a0_ M = some res → sg_cI Yc ad V yX10_foe cX10_foe 7 .int 5 [.ref (ad a0_)] M res := fun res h => sg_bodyI (by decide) hi (Nat.le_of_ble_eq_true rfl) (fun X hX C E => by subst hX; exact tX10_foe C E _  _ hq0 h)
def bX10_unsafe_14 (N : Nat)  (k14 : (Nat × Int32 × Int32) → sg_M → Option (Int32 × sg_M)) (s : Nat × Int32 × Int32) (M : sg_M) : Option (Int32 × sg_M) :=
  if (M.1 (Yc.2.2.2 s.1 1) 5) ≤ s.2.2 then (
  some (s.2.1, M)) else (
  sg_b (fX10_now N s.1 M) (fun (x2 : Nat) (M1 : sg_M) =>
  sg_b (fX1_isDead N x2 s.2.2 M1) (fun (x4 : Int32) (M3 : sg_M) =>
  if x4 = 0 then (
  sg_bv (fX0_drawAgainst N (Yc.2.2.2 s.1 7) (Yc.2.2.2 s.1 1) s.2.2 M3) (fun M5 : sg_M =>
  if (lg_cmp (M5.2 (Yc.2.2.2 s.1 7) 0) (((M5.1 (Yc.2.2.2 s.1 1) 2)).toInt64 * (M5.2 (Yc.2.2.2 s.1 7) 1))) ≤ 0 then (
  sg_m (s.2.2 + (1 : Int32)) (fun x6 : Int32 =>
  k14 (s.1, s.2.1, x6) M5)) else (
  sg_m (s.2.1 ||| ((1 : Int32) <<< (s.2.2 &&& 31))) (fun x7 : Int32 =>
  sg_m (s.2.2 + (1 : Int32)) (fun x8 : Int32 =>
  k14 (s.1, x7, x8) M5))))) else (
  sg_m (s.2.2 + (1 : Int32)) (fun x9 : Int32 =>
  k14 (s.1, s.2.1, x9) M3)))))
def gX10_unsafe_14 (N : Nat)  : (Nat × Int32 × Int32) → sg_M → Option (Int32 × sg_M) := sg_lp (bX10_unsafe_14 N ) N
set_option maxHeartbeats 4000000 in
set_option maxRecDepth 100000 in
theorem tX10_unsafe_14 {ad : Nat → Nat} {X : sg_X} {N : Nat} {r : Int32 × sg_M} (C : sg_C Yc ad X cX10_unsafe RX10 3 5) (E : sg_eI Yc ad X cX10_unsafe .int r)  : ∀ (s : Nat × Int32 × Int32) (M : sg_M), gX10_unsafe_14 N s M = some r → sg_K Yc s.1 10 → sg_T Yc ad X 3 14 [(0, .ref (ad (s.1))), (1, .int (s.2.1)), (2, .int (s.2.2))] [] M := by
  have key : ∀ n : Nat, ∀ (s : Nat × Int32 × Int32) (M : sg_M), sg_lp (bX10_unsafe_14 N) n s M = some r → sg_K Yc s.1 10 → sg_T Yc ad X 3 14 [(0, .ref (ad (s.1))), (1, .int (s.2.1)), (2, .int (s.2.2))] [] M := by
    intro n
    induction n with
    | zero => intro s M h; cases h
    | succ n ih =>
      intro s M h hq0
      have h : bX10_unsafe_14 N (sg_lp (bX10_unsafe_14 N) n) s M = some r := h
      generalize sg_lp (bX10_unsafe_14 N) n = k14 at h ih
      have hk14 := ih
      unfold bX10_unsafe_14 at h
      refine i_iload_n C dX10_unsafe_14 2 rfl ?_
      refine i_aload_n C dX10_unsafe_15 0 rfl ?_
      refine gf10_19 C hq0 dX10_unsafe_16 ?_
      refine gf10_213 C (ky10_1 hq0) dX10_unsafe_19 ?_
      refine s_icmp_ge C 87 (by decide) dX10_unsafe_22 h (fun _ h => ?_) (fun _ h => ?_)
      · refine i_iload_n C dX10_unsafe_87 1 rfl ?_
        exact s_iret C E dX10_unsafe_88 h
      · refine i_aload_n C dX10_unsafe_25 0 rfl ?_
        refine s_vcR C [] vmX10_now lkX10_139 rfl rfl (by decide) hq0 (by decide) rfl rfl (Nat.le_of_ble_eq_true rfl) dX10_unsafe_26 (ctX10_now C.inj hq0) h (fun x2 M1 hfx2 h => ?_)
        refine i_iload_n C dX10_unsafe_29 2 rfl ?_
        refine s_vcI C [_] vmX1_isDead lkX10_176 rfl rfl (by decide) (krX10_now hq0 hfx2) (by decide) rfl rfl (Nat.le_of_ble_eq_true rfl) dX10_unsafe_30 (ctX1_isDead C.inj (krX10_now hq0 hfx2)) h (fun x4 M3 h => ?_)
        refine s_if_ne C 81 (by decide) dX10_unsafe_33 h (fun _ h => ?_) (fun _ h => ?_)
        · refine i_aload_n C dX10_unsafe_36 0 rfl ?_
          refine gf10_48 C hq0 dX10_unsafe_37 ?_
          refine i_aload_n C dX10_unsafe_40 0 rfl ?_
          refine gf10_19 C hq0 dX10_unsafe_41 ?_
          refine i_iload_n C dX10_unsafe_44 2 rfl ?_
          refine s_vcV C [_, _] vmX0_drawAgainst lkX10_229 rfl rfl (by decide) (ky10_7 hq0) (by decide) rfl rfl (Nat.le_of_ble_eq_true rfl) dX10_unsafe_45 (ctX0_drawAgainst C.inj (ky10_7 hq0) (ky10_1 hq0)) h (fun M5 h => ?_)
          refine i_aload_n C dX10_unsafe_48 0 rfl ?_
          refine gf10_48 C hq0 dX10_unsafe_49 ?_
          refine gf10_233 C (ky10_7 hq0) dX10_unsafe_52 ?_
          refine i_aload_n C dX10_unsafe_55 0 rfl ?_
          refine gf10_19 C hq0 dX10_unsafe_56 ?_
          refine gf10_124 C (ky10_1 hq0) dX10_unsafe_59 ?_
          refine s_i2l C dX10_unsafe_62 ?_
          refine i_aload_n C dX10_unsafe_63 0 rfl ?_
          refine gf10_48 C hq0 dX10_unsafe_64 ?_
          refine gf10_235 C (ky10_7 hq0) dX10_unsafe_67 ?_
          refine s_lmul C dX10_unsafe_70 ?_
          refine s_lcmp C dX10_unsafe_71 ?_
          refine s_if_le C 81 (by decide) dX10_unsafe_72 h (fun _ h => ?_) (fun _ h => ?_)
          · refine z_iinc (n := 1) (c9 := (1 : Int32)) (by decide) h (fun x6 hx h => ?_)
            refine i_iinc (lv9 := [(2, _), (0, _), (1, _)]) C dX10_unsafe_81 2 rfl hx (by decide) rfl ?_
            refine s_goto C 14 (by decide) dX10_unsafe_84 ?_
            exact sg_T.to (hk14 _ _ h hq0) [1, 2, 0] rfl
          · refine i_iload_n C dX10_unsafe_75 1 rfl ?_
            refine s_iconst C (1 : Int32) dX10_unsafe_76 (by decide) ?_
            refine i_iload_n C dX10_unsafe_77 2 rfl ?_
            refine s_ishl C dX10_unsafe_78 ?_
            refine s_ior C dX10_unsafe_79 ?_
            refine z_gi h (fun x7 h => ?_)
            refine i_istore_n (lv9 := [(1, _), (0, _), (2, _)]) C 1 dX10_unsafe_80 rfl (by decide) rfl ?_
            refine z_iinc (n := 1) (c9 := (1 : Int32)) (by decide) h (fun x8 hx h => ?_)
            refine i_iinc (lv9 := [(2, _), (1, _), (0, _)]) C dX10_unsafe_81 2 rfl hx (by decide) rfl ?_
            refine s_goto C 14 (by decide) dX10_unsafe_84 ?_
            exact sg_T.to (hk14 _ _ h hq0) [2, 1, 0] rfl
        · refine z_iinc (n := 1) (c9 := (1 : Int32)) (by decide) h (fun x9 hx h => ?_)
          refine i_iinc (lv9 := [(2, _), (0, _), (1, _)]) C dX10_unsafe_81 2 rfl hx (by decide) rfl ?_
          refine s_goto C 14 (by decide) dX10_unsafe_84 ?_
          exact sg_T.to (hk14 _ _ h hq0) [1, 2, 0] rfl
  exact key N
def fX10_unsafe (N : Nat) (a0_ : Nat) (M : sg_M) : Option (Int32 × sg_M) :=
  sg_b (fX10_noGrid N a0_ M) (fun (x11 : Int32) (M10 : sg_M) =>
  if x11 = 0 then (
  sg_m (0 : Int32) (fun x12 : Int32 =>
  sg_m (0 : Int32) (fun x13 : Int32 =>
  gX10_unsafe_14 N (a0_, x12, x13) M10))) else (
  some ((-2 : Int32), M10)))
set_option maxHeartbeats 4000000 in
set_option maxRecDepth 100000 in
theorem tX10_unsafe {ad : Nat → Nat} {X : sg_X} {N : Nat} {r : Int32 × sg_M} (C : sg_C Yc ad X cX10_unsafe RX10 3 5) (E : sg_eI Yc ad X cX10_unsafe .int r) : ∀ (a0_ : Nat) (M : sg_M), sg_K Yc a0_ 10 → fX10_unsafe N a0_ M = some r → sg_T Yc ad X 3 0 [(0, .ref (ad a0_))] [] M := by
  intro a0_ M hq0 h
  unfold fX10_unsafe at h
  refine i_aload_n C dX10_unsafe_0 0 rfl ?_
  refine s_vcI C [] vmX10_noGrid lkX10_179 rfl rfl (by decide) hq0 (by decide) rfl rfl (Nat.le_of_ble_eq_true rfl) dX10_unsafe_1 (ctX10_noGrid C.inj hq0) h (fun x11 M10 h => ?_)
  refine s_if_eq C 10 (by decide) dX10_unsafe_4 h (fun _ h => ?_) (fun _ h => ?_)
  · refine s_iconst C (0 : Int32) dX10_unsafe_10 (by decide) ?_
    refine z_gi h (fun x12 h => ?_)
    refine i_istore_n (lv9 := [(1, _), (0, _)]) C 1 dX10_unsafe_11 rfl (by decide) rfl ?_
    refine s_iconst C (0 : Int32) dX10_unsafe_12 (by decide) ?_
    refine z_gi h (fun x13 h => ?_)
    refine i_istore_n (lv9 := [(2, _), (1, _), (0, _)]) C 2 dX10_unsafe_13 rfl (by decide) rfl ?_
    exact sg_T.to (tX10_unsafe_14 C E _ _ h hq0) [2, 1, 0] rfl
  · refine s_bipush C (-2 : Int32) dX10_unsafe_7 (by decide) ?_
    exact s_iret C E dX10_unsafe_9 h
theorem ctX10_unsafe {ad : Nat → Nat} {V : sg_V} {N : Nat} (hi : sg_inj Yc ad) {a0_ : Nat} {M : sg_M} (hq0 : sg_K Yc a0_ 10) : ∀ res, fX10_unsafe N a0_ M = some res → sg_cI Yc ad V yX10_unsafe cX10_unsafe 3 .int 5 [.ref (ad a0_)] M res := fun res h => sg_bodyI (by decide) hi (Nat.le_of_ble_eq_true rfl) (fun X hX C E => by subst hX; exact tX10_unsafe C E _  _ hq0 h)
def bX10_tight_40 (N : Nat)  (k40 : (Nat × Int32 × Int32) → sg_M → Option (Int32 × sg_M)) (s : Nat × Int32 × Int32) (M : sg_M) : Option (Int32 × sg_M) :=
  if (4 : Int32) ≤ s.2.2 then (
  some (s.2.1, M)) else (
  if sg_ib s.2.2 (Yc.2.2.1 (Yc.2.2.2 (Yc.2.2.2 s.1 7) 3)) = true then
  if (M.1 (Yc.2.2.2 (Yc.2.2.2 s.1 7) 3) (s.2.2).toNatClampNeg) = 0 then (
  sg_m (s.2.1 ||| ((1 : Int32) <<< (s.2.2 &&& 31))) (fun x1 : Int32 =>
  sg_m (s.2.2 + (1 : Int32)) (fun x2 : Int32 =>
  k40 (s.1, x1, x2) M))) else (
  sg_m (s.2.2 + (1 : Int32)) (fun x3 : Int32 =>
  k40 (s.1, s.2.1, x3) M))
  else none)
def gX10_tight_40 (N : Nat)  : (Nat × Int32 × Int32) → sg_M → Option (Int32 × sg_M) := sg_lp (bX10_tight_40 N ) N
set_option maxHeartbeats 4000000 in
set_option maxRecDepth 100000 in
theorem tX10_tight_40 {ad : Nat → Nat} {X : sg_X} {N : Nat} {r : Int32 × sg_M} (C : sg_C Yc ad X cX10_tight RX10 4 5) (E : sg_eI Yc ad X cX10_tight .int r)  : ∀ (s : Nat × Int32 × Int32) (M : sg_M), gX10_tight_40 N s M = some r → sg_K Yc s.1 10 → sg_T Yc ad X 4 40 [(0, .ref (ad (s.1))), (2, .int (s.2.1)), (3, .int (s.2.2))] [] M := by
  have key : ∀ n : Nat, ∀ (s : Nat × Int32 × Int32) (M : sg_M), sg_lp (bX10_tight_40 N) n s M = some r → sg_K Yc s.1 10 → sg_T Yc ad X 4 40 [(0, .ref (ad (s.1))), (2, .int (s.2.1)), (3, .int (s.2.2))] [] M := by
    intro n
    induction n with
    | zero => intro s M h; cases h
    | succ n ih =>
      intro s M h hq0
      have h : bX10_tight_40 N (sg_lp (bX10_tight_40 N) n) s M = some r := h
      generalize sg_lp (bX10_tight_40 N) n = k40 at h ih
      have hk40 := ih
      unfold bX10_tight_40 at h
      refine i_iload_n C dX10_tight_40 2 rfl ?_
      refine s_iconst C (4 : Int32) dX10_tight_41 (by decide) ?_
      refine s_icmp_ge C 69 (by decide) dX10_tight_42 h (fun _ h => ?_) (fun _ h => ?_)
      · refine i_iload_n C dX10_tight_69 1 rfl ?_
        exact s_iret C E dX10_tight_70 h
      · refine i_aload_n C dX10_tight_45 0 rfl ?_
        refine gf10_48 C hq0 dX10_tight_46 ?_
        refine gf10_239 C (ky10_7 hq0) dX10_tight_49 ?_
        refine i_iload_n C dX10_tight_52 2 rfl ?_
        refine s_iald C (ky0_3 (ky10_7 hq0)) dX10_tight_53 h (fun h => ?_)
        refine s_if_ne C 63 (by decide) dX10_tight_54 h (fun _ h => ?_) (fun _ h => ?_)
        · refine i_iload_n C dX10_tight_57 1 rfl ?_
          refine s_iconst C (1 : Int32) dX10_tight_58 (by decide) ?_
          refine i_iload_n C dX10_tight_59 2 rfl ?_
          refine s_ishl C dX10_tight_60 ?_
          refine s_ior C dX10_tight_61 ?_
          refine z_gi h (fun x1 h => ?_)
          refine i_istore_n (lv9 := [(2, _), (0, _), (3, _)]) C 2 dX10_tight_62 rfl (by decide) rfl ?_
          refine z_iinc (n := 1) (c9 := (1 : Int32)) (by decide) h (fun x2 hx h => ?_)
          refine i_iinc (lv9 := [(3, _), (2, _), (0, _)]) C dX10_tight_63 2 rfl hx (by decide) rfl ?_
          refine s_goto C 40 (by decide) dX10_tight_66 ?_
          exact sg_T.to (hk40 _ _ h hq0) [2, 1, 0] rfl
        · refine z_iinc (n := 1) (c9 := (1 : Int32)) (by decide) h (fun x3 hx h => ?_)
          refine i_iinc (lv9 := [(3, _), (0, _), (2, _)]) C dX10_tight_63 2 rfl hx (by decide) rfl ?_
          refine s_goto C 40 (by decide) dX10_tight_66 ?_
          exact sg_T.to (hk40 _ _ h hq0) [1, 2, 0] rfl
  exact key N
def fX10_tight (N : Nat) (a0_ : Nat) (x1_ : Int32) (M : sg_M) : Option (Int32 × sg_M) :=
  sg_b (fX10_hasNode N a0_ x1_ M) (fun (x5 : Int32) (M4 : sg_M) =>
  if x5 = 0 then (
  some ((-2 : Int32), M4)) else (
  sg_b (fX10_now N a0_ M4) (fun (x7 : Nat) (M6 : sg_M) =>
  sg_b (fX1_isDead N x7 x1_ M6) (fun (x9 : Int32) (M8 : sg_M) =>
  if x9 = 0 then (
  sg_bv (fX0_drawAgainst N (Yc.2.2.2 a0_ 7) (Yc.2.2.2 a0_ 1) x1_ M8) (fun M10 : sg_M =>
  sg_m (0 : Int32) (fun x11 : Int32 =>
  sg_m (0 : Int32) (fun x12 : Int32 =>
  gX10_tight_40 N (a0_, x11, x12) M10)))) else (
  some ((-1 : Int32), M8))))))
set_option maxHeartbeats 4000000 in
set_option maxRecDepth 100000 in
theorem tX10_tight {ad : Nat → Nat} {X : sg_X} {N : Nat} {r : Int32 × sg_M} (C : sg_C Yc ad X cX10_tight RX10 4 5) (E : sg_eI Yc ad X cX10_tight .int r) : ∀ (a0_ : Nat) (x1_ : Int32) (M : sg_M), sg_K Yc a0_ 10 → fX10_tight N a0_ x1_ M = some r → sg_T Yc ad X 4 0 [(0, .ref (ad a0_)), (1, .int x1_)] [] M := by
  intro a0_ x1_ M hq0 h
  unfold fX10_tight at h
  refine i_aload_n C dX10_tight_0 0 rfl ?_
  refine i_iload_n C dX10_tight_1 1 rfl ?_
  refine s_vcI C [_] vmX10_hasNode lkX10_160 rfl rfl (by decide) hq0 (by decide) rfl rfl (Nat.le_of_ble_eq_true rfl) dX10_tight_2 (ctX10_hasNode C.inj hq0) h (fun x5 M4 h => ?_)
  refine s_if_ne C 11 (by decide) dX10_tight_5 h (fun _ h => ?_) (fun _ h => ?_)
  · refine s_bipush C (-2 : Int32) dX10_tight_8 (by decide) ?_
    exact s_iret C E dX10_tight_10 h
  · refine i_aload_n C dX10_tight_11 0 rfl ?_
    refine s_vcR C [] vmX10_now lkX10_139 rfl rfl (by decide) hq0 (by decide) rfl rfl (Nat.le_of_ble_eq_true rfl) dX10_tight_12 (ctX10_now C.inj hq0) h (fun x7 M6 hfx7 h => ?_)
    refine i_iload_n C dX10_tight_15 1 rfl ?_
    refine s_vcI C [_] vmX1_isDead lkX10_176 rfl rfl (by decide) (krX10_now hq0 hfx7) (by decide) rfl rfl (Nat.le_of_ble_eq_true rfl) dX10_tight_16 (ctX1_isDead C.inj (krX10_now hq0 hfx7)) h (fun x9 M8 h => ?_)
    refine s_if_eq C 24 (by decide) dX10_tight_19 h (fun _ h => ?_) (fun _ h => ?_)
    · refine i_aload_n C dX10_tight_24 0 rfl ?_
      refine gf10_48 C hq0 dX10_tight_25 ?_
      refine i_aload_n C dX10_tight_28 0 rfl ?_
      refine gf10_19 C hq0 dX10_tight_29 ?_
      refine i_iload_n C dX10_tight_32 1 rfl ?_
      refine s_vcV C [_, _] vmX0_drawAgainst lkX10_229 rfl rfl (by decide) (ky10_7 hq0) (by decide) rfl rfl (Nat.le_of_ble_eq_true rfl) dX10_tight_33 (ctX0_drawAgainst C.inj (ky10_7 hq0) (ky10_1 hq0)) h (fun M10 h => ?_)
      refine s_iconst C (0 : Int32) dX10_tight_36 (by decide) ?_
      refine z_gi h (fun x11 h => ?_)
      refine i_istore_n (lv9 := [(2, _), (0, _), (1, _)]) C 2 dX10_tight_37 rfl (by decide) rfl ?_
      refine s_iconst C (0 : Int32) dX10_tight_38 (by decide) ?_
      refine z_gi h (fun x12 h => ?_)
      refine i_istore_n (lv9 := [(3, _), (2, _), (0, _), (1, _)]) C 3 dX10_tight_39 rfl (by decide) rfl ?_
      exact sg_T.to (tX10_tight_40 C E _ _ h hq0) [2, 1, 0] rfl
    · refine s_iconst C (-1 : Int32) dX10_tight_22 (by decide) ?_
      exact s_iret C E dX10_tight_23 h
theorem ctX10_tight {ad : Nat → Nat} {V : sg_V} {N : Nat} (hi : sg_inj Yc ad) {a0_ : Nat} {x1_ : Int32} {M : sg_M} (hq0 : sg_K Yc a0_ 10) : ∀ res, fX10_tight N a0_ x1_ M = some res → sg_cI Yc ad V yX10_tight cX10_tight 4 .int 5 [.ref (ad a0_), .int x1_] M res := fun res h => sg_bodyI (by decide) hi (Nat.le_of_ble_eq_true rfl) (fun X hX C E => by subst hX; exact tX10_tight C E _ _  _ hq0 h)
def bX10_share_78 (N : Nat)  (k78 : (Nat × Int32 × Int32 × Int64 × Int32) → sg_M → Option (Int64 × sg_M)) (s : Nat × Int32 × Int32 × Int64 × Int32) (M : sg_M) : Option (Int64 × sg_M) :=
  if (M.1 (Yc.2.2.2 s.1 1) 5) ≤ s.2.2.2.2 then (
  if (lg_cmp s.2.2.2.1 (0 : Int64)) = 0 then (
  sg_b (fX10_partOf N (0 : Int64) (1 : Int64) s.2.2.1 M) (fun (x2 : Int64) (M1 : sg_M) =>
  some (x2, M1))) else (
  if sg_ib s.2.1 (Yc.2.2.1 (Yc.2.2.2 (Yc.2.2.2 s.1 1) 12)) = true then
  if sg_ib s.2.1 (Yc.2.2.1 (Yc.2.2.2 (Yc.2.2.2 s.1 6) 2)) = true then
  sg_b (fX10_partOf N (((M.1 (Yc.2.2.2 (Yc.2.2.2 s.1 1) 12) (s.2.1).toNatClampNeg)).toInt64 * (M.2 (Yc.2.2.2 (Yc.2.2.2 s.1 6) 2) (s.2.1).toNatClampNeg)) s.2.2.2.1 s.2.2.1 M) (fun (x4 : Int64) (M3 : sg_M) =>
  some (x4, M3))
  else none
  else none)) else (
  if sg_ib s.2.2.2.2 (Yc.2.2.1 (Yc.2.2.2 (Yc.2.2.2 s.1 1) 12)) = true then
  if sg_ib s.2.2.2.2 (Yc.2.2.1 (Yc.2.2.2 (Yc.2.2.2 s.1 6) 2)) = true then
  sg_m (s.2.2.2.1 + (((M.1 (Yc.2.2.2 (Yc.2.2.2 s.1 1) 12) (s.2.2.2.2).toNatClampNeg)).toInt64 * (M.2 (Yc.2.2.2 (Yc.2.2.2 s.1 6) 2) (s.2.2.2.2).toNatClampNeg))) (fun x5 : Int64 =>
  sg_m (s.2.2.2.2 + (1 : Int32)) (fun x6 : Int32 =>
  k78 (s.1, s.2.1, s.2.2.1, x5, x6) M))
  else none
  else none)
def gX10_share_78 (N : Nat)  : (Nat × Int32 × Int32 × Int64 × Int32) → sg_M → Option (Int64 × sg_M) := sg_lp (bX10_share_78 N ) N
set_option maxHeartbeats 4000000 in
set_option maxRecDepth 100000 in
theorem tX10_share_78 {ad : Nat → Nat} {X : sg_X} {N : Nat} {r : Int64 × sg_M} (C : sg_C Yc ad X cX10_share RX10 7 4) (E : sg_eL Yc ad X cX10_share r)  : ∀ (s : Nat × Int32 × Int32 × Int64 × Int32) (M : sg_M), gX10_share_78 N s M = some r → sg_K Yc s.1 10 → sg_T Yc ad X 7 78 [(0, .ref (ad (s.1))), (2, .int (s.2.1)), (3, .int (s.2.2.1)), (4, .long (s.2.2.2.1)), (6, .int (s.2.2.2.2))] [] M := by
  have key : ∀ n : Nat, ∀ (s : Nat × Int32 × Int32 × Int64 × Int32) (M : sg_M), sg_lp (bX10_share_78 N) n s M = some r → sg_K Yc s.1 10 → sg_T Yc ad X 7 78 [(0, .ref (ad (s.1))), (2, .int (s.2.1)), (3, .int (s.2.2.1)), (4, .long (s.2.2.2.1)), (6, .int (s.2.2.2.2))] [] M := by
    intro n
    induction n with
    | zero => intro s M h; cases h
    | succ n ih =>
      intro s M h hq0
      have h : bX10_share_78 N (sg_lp (bX10_share_78 N) n) s M = some r := h
      generalize sg_lp (bX10_share_78 N) n = k78 at h ih
      have hk78 := ih
      unfold bX10_share_78 at h
      refine i_iload C dX10_share_78 4 rfl ?_
      refine i_aload_n C dX10_share_80 0 rfl ?_
      refine gf10_19 C hq0 dX10_share_81 ?_
      refine gf10_213 C (ky10_1 hq0) dX10_share_84 ?_
      refine s_icmp_ge C 123 (by decide) dX10_share_87 h (fun _ h => ?_) (fun _ h => ?_)
      · refine i_lload C dX10_share_123 3 rfl ?_
        refine s_lconst C (0 : Int64) dX10_share_125 (by decide) ?_
        refine s_lcmp C dX10_share_126 ?_
        refine s_if_ne C 137 (by decide) dX10_share_127 h (fun _ h => ?_) (fun _ h => ?_)
        · refine s_lconst C (0 : Int64) dX10_share_130 (by decide) ?_
          refine s_lconst C (1 : Int64) dX10_share_131 (by decide) ?_
          refine i_iload_n C dX10_share_132 2 rfl ?_
          refine s_scL C [_, _, _] smX10_partOf lkX10_200 (by decide) rfl rfl (Nat.le_of_ble_eq_true rfl) dX10_share_133 (ctX10_partOf C.inj ) h (fun x2 M1 h => ?_)
          exact s_lret C E dX10_share_136 h
        · refine i_aload_n C dX10_share_137 0 rfl ?_
          refine gf10_19 C hq0 dX10_share_138 ?_
          refine gf10_170 C (ky10_1 hq0) dX10_share_141 ?_
          refine i_iload_n C dX10_share_144 1 rfl ?_
          refine s_iald C (ky4_12 (ky10_1 hq0)) dX10_share_145 h (fun h => ?_)
          refine s_i2l C dX10_share_146 ?_
          refine i_aload_n C dX10_share_147 0 rfl ?_
          refine gf10_42 C hq0 dX10_share_148 ?_
          refine gf10_192 C (ky10_6 hq0) dX10_share_151 ?_
          refine i_iload_n C dX10_share_154 1 rfl ?_
          refine s_lald C (ky1_2 (ky10_6 hq0)) dX10_share_155 h (fun h => ?_)
          refine s_lmul C dX10_share_156 ?_
          refine i_lload C dX10_share_157 3 rfl ?_
          refine i_iload_n C dX10_share_159 2 rfl ?_
          refine s_scL C [_, _, _] smX10_partOf lkX10_200 (by decide) rfl rfl (Nat.le_of_ble_eq_true rfl) dX10_share_160 (ctX10_partOf C.inj ) h (fun x4 M3 h => ?_)
          exact s_lret C E dX10_share_163 h
      · refine i_lload C dX10_share_90 3 rfl ?_
        refine i_aload_n C dX10_share_92 0 rfl ?_
        refine gf10_19 C hq0 dX10_share_93 ?_
        refine gf10_170 C (ky10_1 hq0) dX10_share_96 ?_
        refine i_iload C dX10_share_99 4 rfl ?_
        refine s_iald C (ky4_12 (ky10_1 hq0)) dX10_share_101 h (fun h => ?_)
        refine s_i2l C dX10_share_102 ?_
        refine i_aload_n C dX10_share_103 0 rfl ?_
        refine gf10_42 C hq0 dX10_share_104 ?_
        refine gf10_192 C (ky10_6 hq0) dX10_share_107 ?_
        refine i_iload C dX10_share_110 4 rfl ?_
        refine s_lald C (ky1_2 (ky10_6 hq0)) dX10_share_112 h (fun h => ?_)
        refine s_lmul C dX10_share_113 ?_
        refine s_ladd C dX10_share_114 ?_
        refine z_gl h (fun x5 h => ?_)
        refine i_lstore (lv9 := [(4, _), (0, _), (2, _), (3, _), (6, _)]) C dX10_share_115 (by decide) rfl ?_
        refine z_iinc (n := 1) (c9 := (1 : Int32)) (by decide) h (fun x6 hx h => ?_)
        refine i_iinc (lv9 := [(6, _), (4, _), (0, _), (2, _), (3, _)]) C dX10_share_117 4 rfl hx (by decide) rfl ?_
        refine s_goto C 78 (by decide) dX10_share_120 ?_
        exact sg_T.to (hk78 _ _ h hq0) [2, 3, 4, 1, 0] rfl
  exact key N
def fX10_share (N : Nat) (a0_ : Nat) (x1_ : Int32) (x2_ : Int32) (x3_ : Int32) (M : sg_M) : Option (Int64 × sg_M) :=
  sg_b (fX10_hasNode N a0_ x1_ M) (fun (x8 : Int32) (M7 : sg_M) =>
  if x8 = 0 then (
  some ((-2 : Int64), M7)) else (
  sg_b (fX10_hasNode N a0_ x2_ M7) (fun (x10 : Int32) (M9 : sg_M) =>
  if x10 = 0 then (
  some ((-2 : Int64), M9)) else (
  sg_b (fX10_isPart N x3_ M9) (fun (x12 : Int32) (M11 : sg_M) =>
  if x12 = 0 then (
  some ((-2 : Int64), M11)) else (
  sg_b (fX10_now N a0_ M11) (fun (x14 : Nat) (M13 : sg_M) =>
  sg_b (fX1_isDead N x14 x1_ M13) (fun (x16 : Int32) (M15 : sg_M) =>
  if x16 = 0 then (
  sg_b (fX10_now N a0_ M15) (fun (x18 : Nat) (M17 : sg_M) =>
  sg_b (fX1_isDead N x18 x2_ M17) (fun (x20 : Int32) (M19 : sg_M) =>
  if x20 = 0 then (
  sg_bv (fX1_settleUnit N (Yc.2.2.2 a0_ 6) (Yc.2.2.2 a0_ 1) (M19.1 (Yc.2.2.2 a0_ 1) 7) x1_ M19) (fun M21 : sg_M =>
  sg_m (0 : Int64) (fun x22 : Int64 =>
  sg_m (0 : Int32) (fun x23 : Int32 =>
  gX10_share_78 N (a0_, x2_, x3_, x22, x23) M21)))) else (
  some ((-1 : Int64), M19))))) else (
  some ((-1 : Int64), M15))))))))))
set_option maxHeartbeats 4000000 in
set_option maxRecDepth 100000 in
theorem tX10_share {ad : Nat → Nat} {X : sg_X} {N : Nat} {r : Int64 × sg_M} (C : sg_C Yc ad X cX10_share RX10 7 4) (E : sg_eL Yc ad X cX10_share r) : ∀ (a0_ : Nat) (x1_ : Int32) (x2_ : Int32) (x3_ : Int32) (M : sg_M), sg_K Yc a0_ 10 → fX10_share N a0_ x1_ x2_ x3_ M = some r → sg_T Yc ad X 7 0 [(0, .ref (ad a0_)), (1, .int x1_), (2, .int x2_), (3, .int x3_)] [] M := by
  intro a0_ x1_ x2_ x3_ M hq0 h
  unfold fX10_share at h
  refine i_aload_n C dX10_share_0 0 rfl ?_
  refine i_iload_n C dX10_share_1 1 rfl ?_
  refine s_vcI C [_] vmX10_hasNode lkX10_160 rfl rfl (by decide) hq0 (by decide) rfl rfl (Nat.le_of_ble_eq_true rfl) dX10_share_2 (ctX10_hasNode C.inj hq0) h (fun x8 M7 h => ?_)
  refine s_if_eq C 23 (by decide) dX10_share_5 h (fun _ h => ?_) (fun _ h => ?_)
  · refine s_ldc2 C (-2 : Int64) kl_X10_188 dX10_share_23 ?_
    exact s_lret C E dX10_share_26 h
  · refine i_aload_n C dX10_share_8 0 rfl ?_
    refine i_iload_n C dX10_share_9 2 rfl ?_
    refine s_vcI C [_] vmX10_hasNode lkX10_160 rfl rfl (by decide) hq0 (by decide) rfl rfl (Nat.le_of_ble_eq_true rfl) dX10_share_10 (ctX10_hasNode C.inj hq0) h (fun x10 M9 h => ?_)
    refine s_if_eq C 23 (by decide) dX10_share_13 h (fun _ h => ?_) (fun _ h => ?_)
    · refine s_ldc2 C (-2 : Int64) kl_X10_188 dX10_share_23 ?_
      exact s_lret C E dX10_share_26 h
    · refine i_iload_n C dX10_share_16 3 rfl ?_
      refine s_scI C [_] smX10_isPart lkX10_185 (by decide) rfl rfl (Nat.le_of_ble_eq_true rfl) dX10_share_17 (ctX10_isPart C.inj ) h (fun x12 M11 h => ?_)
      refine s_if_ne C 27 (by decide) dX10_share_20 h (fun _ h => ?_) (fun _ h => ?_)
      · refine s_ldc2 C (-2 : Int64) kl_X10_188 dX10_share_23 ?_
        exact s_lret C E dX10_share_26 h
      · refine i_aload_n C dX10_share_27 0 rfl ?_
        refine s_vcR C [] vmX10_now lkX10_139 rfl rfl (by decide) hq0 (by decide) rfl rfl (Nat.le_of_ble_eq_true rfl) dX10_share_28 (ctX10_now C.inj hq0) h (fun x14 M13 hfx14 h => ?_)
        refine i_iload_n C dX10_share_31 1 rfl ?_
        refine s_vcI C [_] vmX1_isDead lkX10_176 rfl rfl (by decide) (krX10_now hq0 hfx14) (by decide) rfl rfl (Nat.le_of_ble_eq_true rfl) dX10_share_32 (ctX1_isDead C.inj (krX10_now hq0 hfx14)) h (fun x16 M15 h => ?_)
        refine s_if_ne C 49 (by decide) dX10_share_35 h (fun _ h => ?_) (fun _ h => ?_)
        · refine i_aload_n C dX10_share_38 0 rfl ?_
          refine s_vcR C [] vmX10_now lkX10_139 rfl rfl (by decide) hq0 (by decide) rfl rfl (Nat.le_of_ble_eq_true rfl) dX10_share_39 (ctX10_now C.inj hq0) h (fun x18 M17 hfx18 h => ?_)
          refine i_iload_n C dX10_share_42 2 rfl ?_
          refine s_vcI C [_] vmX1_isDead lkX10_176 rfl rfl (by decide) (krX10_now hq0 hfx18) (by decide) rfl rfl (Nat.le_of_ble_eq_true rfl) dX10_share_43 (ctX1_isDead C.inj (krX10_now hq0 hfx18)) h (fun x20 M19 h => ?_)
          refine s_if_eq C 53 (by decide) dX10_share_46 h (fun _ h => ?_) (fun _ h => ?_)
          · refine i_aload_n C dX10_share_53 0 rfl ?_
            refine gf10_42 C hq0 dX10_share_54 ?_
            refine i_aload_n C dX10_share_57 0 rfl ?_
            refine gf10_19 C hq0 dX10_share_58 ?_
            refine i_aload_n C dX10_share_61 0 rfl ?_
            refine gf10_19 C hq0 dX10_share_62 ?_
            refine gf10_136 C (ky10_1 hq0) dX10_share_65 ?_
            refine i_iload_n C dX10_share_68 1 rfl ?_
            refine s_vcV C [_, _, _] vmX1_settleUnit lkX10_225 rfl rfl (by decide) (ky10_6 hq0) (by decide) rfl rfl (Nat.le_of_ble_eq_true rfl) dX10_share_69 (ctX1_settleUnit C.inj (ky10_6 hq0) (ky10_1 hq0)) h (fun M21 h => ?_)
            refine s_lconst C (0 : Int64) dX10_share_72 (by decide) ?_
            refine z_gl h (fun x22 h => ?_)
            refine i_lstore (lv9 := [(4, _), (0, _), (1, _), (2, _), (3, _)]) C dX10_share_73 (by decide) rfl ?_
            refine s_iconst C (0 : Int32) dX10_share_75 (by decide) ?_
            refine z_gi h (fun x23 h => ?_)
            refine i_istore (lv9 := [(6, _), (4, _), (0, _), (1, _), (2, _), (3, _)]) C dX10_share_76 (by decide) rfl ?_
            exact sg_T.to (tX10_share_78 C E _ _ h hq0) [2, 4, 5, 1, 0] rfl
          · refine s_ldc2 C (-1 : Int64) kl_X10_190 dX10_share_49 ?_
            exact s_lret C E dX10_share_52 h
        · refine s_ldc2 C (-1 : Int64) kl_X10_190 dX10_share_49 ?_
          exact s_lret C E dX10_share_52 h
theorem ctX10_share {ad : Nat → Nat} {V : sg_V} {N : Nat} (hi : sg_inj Yc ad) {a0_ : Nat} {x1_ : Int32} {x2_ : Int32} {x3_ : Int32} {M : sg_M} (hq0 : sg_K Yc a0_ 10) : ∀ res, fX10_share N a0_ x1_ x2_ x3_ M = some res → sg_cL Yc ad V yX10_share cX10_share 7 4 [.ref (ad a0_), .int x1_, .int x2_, .int x3_] M res := fun res h => sg_bodyL (by decide) hi (Nat.le_of_ble_eq_true rfl) (fun X hX C E => by subst hX; exact tX10_share C E _ _ _ _  _ hq0 h)
def gX10_fedFrom_115 (N : Nat) (k26 : (Nat × Int32 × Nat × Int32 × Int64 × Int32) → sg_M → Option (Int32 × sg_M)) (a0_ : Nat) (x1_ : Int32) (a2_ : Nat) (x3_ : Int32) (x4_ : Int64) (x6_ : Int32) (x7_ : Int32) (y0_ : Int64) (M : sg_M) : Option (Int32 × sg_M) :=
  sg_m y0_ (fun x1 : Int64 =>
  if (lg_cmp x1 x4_) ≤ 0 then (
  sg_m (x6_ + (1 : Int32)) (fun x2 : Int32 =>
  k26 (a0_, x1_, a2_, x3_, x4_, x2) M)) else (
  sg_m x1 (fun x3 : Int64 =>
  if x7_ = 0 then (
  if sg_ib x6_ (Yc.2.2.1 (Yc.2.2.2 (Yc.2.2.2 a0_ 1) 10)) = true then
  sg_m (M.1 (Yc.2.2.2 (Yc.2.2.2 a0_ 1) 10) (x6_).toNatClampNeg) (fun x4 : Int32 =>
  sg_m (x6_ + (1 : Int32)) (fun x5 : Int32 =>
  k26 (a0_, x1_, a2_, x4, x3, x5) M))
  else none) else (
  if sg_ib x6_ (Yc.2.2.1 (Yc.2.2.2 (Yc.2.2.2 a0_ 1) 9)) = true then
  sg_m (M.1 (Yc.2.2.2 (Yc.2.2.2 a0_ 1) 9) (x6_).toNatClampNeg) (fun x6 : Int32 =>
  sg_m (x6_ + (1 : Int32)) (fun x7 : Int32 =>
  k26 (a0_, x1_, a2_, x6, x3, x7) M))
  else none))))
set_option maxHeartbeats 4000000 in
set_option maxRecDepth 100000 in
theorem tX10_fedFrom_115 {ad : Nat → Nat} {X : sg_X} {N : Nat} {r : Int32 × sg_M} (C : sg_C Yc ad X cX10_fedFrom RX10 12 4) (E : sg_eI Yc ad X cX10_fedFrom .int r) {k26 : (Nat × Int32 × Nat × Int32 × Int64 × Int32) → sg_M → Option (Int32 × sg_M)} (hk26 : ∀ (s : Nat × Int32 × Nat × Int32 × Int64 × Int32) (M : sg_M), k26 s M = some r → sg_K Yc s.1 10 → sg_K Yc s.2.2.1 1 → sg_T Yc ad X 12 26 [(0, .ref (ad (s.1))), (1, .int (s.2.1)), (2, .ref (ad (s.2.2.1))), (3, .int (s.2.2.2.1)), (4, .long (s.2.2.2.2.1)), (6, .int (s.2.2.2.2.2))] [] M) : ∀ (a0_ : Nat) (x1_ : Int32) (a2_ : Nat) (x3_ : Int32) (x4_ : Int64) (x6_ : Int32) (x7_ : Int32) (y0_ : Int64) (M : sg_M), gX10_fedFrom_115 N k26 a0_ x1_ a2_ x3_ x4_ x6_ x7_ y0_ M = some r → sg_K Yc a0_ 10 → sg_K Yc a2_ 1 → sg_T Yc ad X 12 115 [(0, .ref (ad a0_)), (1, .int x1_), (2, .ref (ad a2_)), (3, .int x3_), (4, .long x4_), (6, .int x6_), (7, .int x7_)] [.long y0_] M := by
  intro a0_ x1_ a2_ x3_ x4_ x6_ x7_ y0_ M h hq0 hq2
  unfold gX10_fedFrom_115 at h
  refine z_gl h (fun x1 h => ?_)
  refine i_lstore (lv9 := [(10, _), (0, _), (1, _), (2, _), (3, _), (4, _), (6, _), (7, _)]) C dX10_fedFrom_115 (by decide) rfl ?_
  refine i_lload C dX10_fedFrom_117 0 rfl ?_
  refine i_lload C dX10_fedFrom_119 5 rfl ?_
  refine s_lcmp C dX10_fedFrom_121 ?_
  refine s_if_le C 158 (by decide) dX10_fedFrom_122 h (fun _ h => ?_) (fun _ h => ?_)
  · refine z_iinc (n := 1) (c9 := (1 : Int32)) (by decide) h (fun x2 hx h => ?_)
    refine i_iinc (lv9 := [(6, _), (10, _), (0, _), (1, _), (2, _), (3, _), (4, _), (7, _)]) C dX10_fedFrom_158 6 rfl hx (by decide) rfl ?_
    refine s_goto C 26 (by decide) dX10_fedFrom_161 ?_
    exact sg_T.to (hk26 _ _ h hq0 hq2) [2, 3, 4, 5, 6, 0] rfl
  · refine i_lload C dX10_fedFrom_125 0 rfl ?_
    refine z_gl h (fun x3 h => ?_)
    refine i_lstore (lv9 := [(4, _), (10, _), (0, _), (1, _), (2, _), (3, _), (6, _), (7, _)]) C dX10_fedFrom_127 (by decide) rfl ?_
    refine i_iload C dX10_fedFrom_129 7 rfl ?_
    refine s_if_eq C 147 (by decide) dX10_fedFrom_131 h (fun _ h => ?_) (fun _ h => ?_)
    · refine i_aload_n C dX10_fedFrom_147 2 rfl ?_
      refine gf10_19 C hq0 dX10_fedFrom_148 ?_
      refine gf10_154 C (ky10_1 hq0) dX10_fedFrom_151 ?_
      refine i_iload C dX10_fedFrom_154 6 rfl ?_
      refine s_iald C (ky4_10 (ky10_1 hq0)) dX10_fedFrom_156 h (fun h => ?_)
      refine z_gi h (fun x4 h => ?_)
      refine i_istore_n (lv9 := [(3, _), (4, _), (10, _), (0, _), (1, _), (2, _), (6, _), (7, _)]) C 3 dX10_fedFrom_157 rfl (by decide) rfl ?_
      refine z_iinc (n := 1) (c9 := (1 : Int32)) (by decide) h (fun x5 hx h => ?_)
      refine i_iinc (lv9 := [(6, _), (3, _), (4, _), (10, _), (0, _), (1, _), (2, _), (7, _)]) C dX10_fedFrom_158 6 rfl hx (by decide) rfl ?_
      refine s_goto C 26 (by decide) dX10_fedFrom_161 ?_
      exact sg_T.to (hk26 _ _ h hq0 hq2) [4, 5, 6, 1, 2, 0] rfl
    · refine i_aload_n C dX10_fedFrom_134 2 rfl ?_
      refine gf10_19 C hq0 dX10_fedFrom_135 ?_
      refine gf10_150 C (ky10_1 hq0) dX10_fedFrom_138 ?_
      refine i_iload C dX10_fedFrom_141 6 rfl ?_
      refine s_iald C (ky4_9 (ky10_1 hq0)) dX10_fedFrom_143 h (fun h => ?_)
      refine s_goto C 157 (by decide) dX10_fedFrom_144 ?_
      refine z_gi h (fun x6 h => ?_)
      refine i_istore_n (lv9 := [(3, _), (4, _), (10, _), (0, _), (1, _), (2, _), (6, _), (7, _)]) C 3 dX10_fedFrom_157 rfl (by decide) rfl ?_
      refine z_iinc (n := 1) (c9 := (1 : Int32)) (by decide) h (fun x7 hx h => ?_)
      refine i_iinc (lv9 := [(6, _), (3, _), (4, _), (10, _), (0, _), (1, _), (2, _), (7, _)]) C dX10_fedFrom_158 6 rfl hx (by decide) rfl ?_
      refine s_goto C 26 (by decide) dX10_fedFrom_161 ?_
      exact sg_T.to (hk26 _ _ h hq0 hq2) [4, 5, 6, 1, 2, 0] rfl
def gX10_fedFrom_78 (N : Nat) (k26 : (Nat × Int32 × Nat × Int32 × Int64 × Int32) → sg_M → Option (Int32 × sg_M)) (a0_ : Nat) (x1_ : Int32) (a2_ : Nat) (x3_ : Int32) (x4_ : Int64) (x6_ : Int32) (x7_ : Int32) (M : sg_M) : Option (Int32 × sg_M) :=
  if sg_ib x6_ (Yc.2.2.1 (Yc.2.2.2 (Yc.2.2.2 a0_ 1) 11)) = true then
  sg_b (fX1_rise N a2_ (Yc.2.2.2 a0_ 1) x6_ M) (fun (x9 : Int64) (M8 : sg_M) =>
  sg_m (((M.1 (Yc.2.2.2 (Yc.2.2.2 a0_ 1) 11) (x6_).toNatClampNeg)).toInt64 * x9) (fun x10 : Int64 =>
  if x7_ = 0 then (
  gX10_fedFrom_115 N k26 a0_ x1_ a2_ x3_ x4_ x6_ x7_ (-x10) M8) else (
  gX10_fedFrom_115 N k26 a0_ x1_ a2_ x3_ x4_ x6_ x7_ x10 M8)))
  else none
set_option maxHeartbeats 4000000 in
set_option maxRecDepth 100000 in
theorem tX10_fedFrom_78 {ad : Nat → Nat} {X : sg_X} {N : Nat} {r : Int32 × sg_M} (C : sg_C Yc ad X cX10_fedFrom RX10 12 4) (E : sg_eI Yc ad X cX10_fedFrom .int r) {k26 : (Nat × Int32 × Nat × Int32 × Int64 × Int32) → sg_M → Option (Int32 × sg_M)} (hk26 : ∀ (s : Nat × Int32 × Nat × Int32 × Int64 × Int32) (M : sg_M), k26 s M = some r → sg_K Yc s.1 10 → sg_K Yc s.2.2.1 1 → sg_T Yc ad X 12 26 [(0, .ref (ad (s.1))), (1, .int (s.2.1)), (2, .ref (ad (s.2.2.1))), (3, .int (s.2.2.2.1)), (4, .long (s.2.2.2.2.1)), (6, .int (s.2.2.2.2.2))] [] M) : ∀ (a0_ : Nat) (x1_ : Int32) (a2_ : Nat) (x3_ : Int32) (x4_ : Int64) (x6_ : Int32) (x7_ : Int32) (M : sg_M), gX10_fedFrom_78 N k26 a0_ x1_ a2_ x3_ x4_ x6_ x7_ M = some r → sg_K Yc a0_ 10 → sg_K Yc a2_ 1 → sg_T Yc ad X 12 78 [(0, .ref (ad a0_)), (1, .int x1_), (2, .ref (ad a2_)), (3, .int x3_), (4, .long x4_), (6, .int x6_), (7, .int x7_)] [] M := by
  intro a0_ x1_ a2_ x3_ x4_ x6_ x7_ M h hq0 hq2
  unfold gX10_fedFrom_78 at h
  refine i_aload_n C dX10_fedFrom_78 0 rfl ?_
  refine gf10_19 C hq0 dX10_fedFrom_79 ?_
  refine gf10_157 C (ky10_1 hq0) dX10_fedFrom_82 ?_
  refine i_iload C dX10_fedFrom_85 5 rfl ?_
  refine s_iald C (ky4_11 (ky10_1 hq0)) dX10_fedFrom_87 h (fun h => ?_)
  refine s_i2l C dX10_fedFrom_88 ?_
  refine i_aload_n C dX10_fedFrom_89 2 rfl ?_
  refine i_aload_n C dX10_fedFrom_90 0 rfl ?_
  refine gf10_19 C hq0 dX10_fedFrom_91 ?_
  refine i_iload C dX10_fedFrom_94 5 rfl ?_
  refine s_vcL C [_, _] vmX1_rise lkX10_206 rfl rfl (by decide) hq2 (by decide) rfl rfl (Nat.le_of_ble_eq_true rfl) dX10_fedFrom_96 (ctX1_rise C.inj hq2 (ky10_1 hq0)) h (fun x9 M8 h => ?_)
  refine s_lmul C dX10_fedFrom_99 ?_
  refine z_gl h (fun x10 h => ?_)
  refine i_lstore (lv9 := [(8, _), (0, _), (1, _), (2, _), (3, _), (4, _), (6, _), (7, _)]) C dX10_fedFrom_100 (by decide) rfl ?_
  refine i_iload C dX10_fedFrom_102 7 rfl ?_
  refine s_if_eq C 112 (by decide) dX10_fedFrom_104 h (fun _ h => ?_) (fun _ h => ?_)
  · refine i_lload C dX10_fedFrom_112 0 rfl ?_
    refine s_lneg C dX10_fedFrom_114 ?_
    exact sg_T.to (tX10_fedFrom_115 C E hk26 _ _ _ _ _ _ _ _ _ h hq0 hq2) [1, 2, 3, 4, 5, 6, 7] rfl
  · refine i_lload C dX10_fedFrom_107 0 rfl ?_
    refine s_goto C 115 (by decide) dX10_fedFrom_109 ?_
    exact sg_T.to (tX10_fedFrom_115 C E hk26 _ _ _ _ _ _ _ _ _ h hq0 hq2) [1, 2, 3, 4, 5, 6, 7] rfl
def gX10_fedFrom_57 (N : Nat) (k26 : (Nat × Int32 × Nat × Int32 × Int64 × Int32) → sg_M → Option (Int32 × sg_M)) (a0_ : Nat) (x1_ : Int32) (a2_ : Nat) (x3_ : Int32) (x4_ : Int64) (x6_ : Int32) (y0_ : Int32) (M : sg_M) : Option (Int32 × sg_M) :=
  sg_m y0_ (fun x11 : Int32 =>
  if x11 = 0 then (
  if sg_ib x6_ (Yc.2.2.1 (Yc.2.2.2 (Yc.2.2.2 a0_ 1) 9)) = true then
  if (M.1 (Yc.2.2.2 (Yc.2.2.2 a0_ 1) 9) (x6_).toNatClampNeg) = x1_ then (
  gX10_fedFrom_78 N k26 a0_ x1_ a2_ x3_ x4_ x6_ x11 M) else (
  sg_m (x6_ + (1 : Int32)) (fun x12 : Int32 =>
  k26 (a0_, x1_, a2_, x3_, x4_, x12) M))
  else none) else (
  gX10_fedFrom_78 N k26 a0_ x1_ a2_ x3_ x4_ x6_ x11 M))
set_option maxHeartbeats 4000000 in
set_option maxRecDepth 100000 in
theorem tX10_fedFrom_57 {ad : Nat → Nat} {X : sg_X} {N : Nat} {r : Int32 × sg_M} (C : sg_C Yc ad X cX10_fedFrom RX10 12 4) (E : sg_eI Yc ad X cX10_fedFrom .int r) {k26 : (Nat × Int32 × Nat × Int32 × Int64 × Int32) → sg_M → Option (Int32 × sg_M)} (hk26 : ∀ (s : Nat × Int32 × Nat × Int32 × Int64 × Int32) (M : sg_M), k26 s M = some r → sg_K Yc s.1 10 → sg_K Yc s.2.2.1 1 → sg_T Yc ad X 12 26 [(0, .ref (ad (s.1))), (1, .int (s.2.1)), (2, .ref (ad (s.2.2.1))), (3, .int (s.2.2.2.1)), (4, .long (s.2.2.2.2.1)), (6, .int (s.2.2.2.2.2))] [] M) : ∀ (a0_ : Nat) (x1_ : Int32) (a2_ : Nat) (x3_ : Int32) (x4_ : Int64) (x6_ : Int32) (y0_ : Int32) (M : sg_M), gX10_fedFrom_57 N k26 a0_ x1_ a2_ x3_ x4_ x6_ y0_ M = some r → sg_K Yc a0_ 10 → sg_K Yc a2_ 1 → sg_T Yc ad X 12 57 [(0, .ref (ad a0_)), (1, .int x1_), (2, .ref (ad a2_)), (3, .int x3_), (4, .long x4_), (6, .int x6_)] [.int y0_] M := by
  intro a0_ x1_ a2_ x3_ x4_ x6_ y0_ M h hq0 hq2
  unfold gX10_fedFrom_57 at h
  refine z_gi h (fun x11 h => ?_)
  refine i_istore (lv9 := [(7, _), (0, _), (1, _), (2, _), (3, _), (4, _), (6, _)]) C dX10_fedFrom_57 (by decide) rfl ?_
  refine i_iload C dX10_fedFrom_59 0 rfl ?_
  refine s_if_ne C 78 (by decide) dX10_fedFrom_61 h (fun _ h => ?_) (fun _ h => ?_)
  · refine i_aload_n C dX10_fedFrom_64 1 rfl ?_
    refine gf10_19 C hq0 dX10_fedFrom_65 ?_
    refine gf10_150 C (ky10_1 hq0) dX10_fedFrom_68 ?_
    refine i_iload C dX10_fedFrom_71 6 rfl ?_
    refine s_iald C (ky4_9 (ky10_1 hq0)) dX10_fedFrom_73 h (fun h => ?_)
    refine i_iload_n C dX10_fedFrom_74 2 rfl ?_
    refine s_icmp_ne C 158 (by decide) dX10_fedFrom_75 h (fun _ h => ?_) (fun _ h => ?_)
    · exact sg_T.to (tX10_fedFrom_78 C E hk26 _ _ _ _ _ _ _ _ h hq0 hq2) [1, 2, 3, 4, 5, 6, 0] rfl
    · refine z_iinc (n := 1) (c9 := (1 : Int32)) (by decide) h (fun x12 hx h => ?_)
      refine i_iinc (lv9 := [(6, _), (7, _), (0, _), (1, _), (2, _), (3, _), (4, _)]) C dX10_fedFrom_158 6 rfl hx (by decide) rfl ?_
      refine s_goto C 26 (by decide) dX10_fedFrom_161 ?_
      exact sg_T.to (hk26 _ _ h hq0 hq2) [2, 3, 4, 5, 6, 0] rfl
  · exact sg_T.to (tX10_fedFrom_78 C E hk26 _ _ _ _ _ _ _ _ h hq0 hq2) [1, 2, 3, 4, 5, 6, 0] rfl
def bX10_fedFrom_26 (N : Nat)  (k26 : (Nat × Int32 × Nat × Int32 × Int64 × Int32) → sg_M → Option (Int32 × sg_M)) (s : Nat × Int32 × Nat × Int32 × Int64 × Int32) (M : sg_M) : Option (Int32 × sg_M) :=
  if (M.1 (Yc.2.2.2 s.1 1) 6) ≤ s.2.2.2.2.2 then (
  some (s.2.2.2.1, M)) else (
  if sg_ib s.2.2.2.2.2 (Yc.2.2.1 (Yc.2.2.2 (Yc.2.2.2 s.1 1) 10)) = true then
  if (M.1 (Yc.2.2.2 (Yc.2.2.2 s.1 1) 10) (s.2.2.2.2.2).toNatClampNeg) = s.2.1 then (
  gX10_fedFrom_57 N k26 s.1 s.2.1 s.2.2.1 s.2.2.2.1 s.2.2.2.2.1 s.2.2.2.2.2 (1 : Int32) M) else (
  gX10_fedFrom_57 N k26 s.1 s.2.1 s.2.2.1 s.2.2.2.1 s.2.2.2.2.1 s.2.2.2.2.2 (0 : Int32) M)
  else none)
def gX10_fedFrom_26 (N : Nat)  : (Nat × Int32 × Nat × Int32 × Int64 × Int32) → sg_M → Option (Int32 × sg_M) := sg_lp (bX10_fedFrom_26 N ) N
set_option maxHeartbeats 4000000 in
set_option maxRecDepth 100000 in
theorem tX10_fedFrom_26 {ad : Nat → Nat} {X : sg_X} {N : Nat} {r : Int32 × sg_M} (C : sg_C Yc ad X cX10_fedFrom RX10 12 4) (E : sg_eI Yc ad X cX10_fedFrom .int r)  : ∀ (s : Nat × Int32 × Nat × Int32 × Int64 × Int32) (M : sg_M), gX10_fedFrom_26 N s M = some r → sg_K Yc s.1 10 → sg_K Yc s.2.2.1 1 → sg_T Yc ad X 12 26 [(0, .ref (ad (s.1))), (1, .int (s.2.1)), (2, .ref (ad (s.2.2.1))), (3, .int (s.2.2.2.1)), (4, .long (s.2.2.2.2.1)), (6, .int (s.2.2.2.2.2))] [] M := by
  have key : ∀ n : Nat, ∀ (s : Nat × Int32 × Nat × Int32 × Int64 × Int32) (M : sg_M), sg_lp (bX10_fedFrom_26 N) n s M = some r → sg_K Yc s.1 10 → sg_K Yc s.2.2.1 1 → sg_T Yc ad X 12 26 [(0, .ref (ad (s.1))), (1, .int (s.2.1)), (2, .ref (ad (s.2.2.1))), (3, .int (s.2.2.2.1)), (4, .long (s.2.2.2.2.1)), (6, .int (s.2.2.2.2.2))] [] M := by
    intro n
    induction n with
    | zero => intro s M h; cases h
    | succ n ih =>
      intro s M h hq0 hq2
      have h : bX10_fedFrom_26 N (sg_lp (bX10_fedFrom_26 N) n) s M = some r := h
      generalize sg_lp (bX10_fedFrom_26 N) n = k26 at h ih
      have hk26 := ih
      unfold bX10_fedFrom_26 at h
      refine i_iload C dX10_fedFrom_26 5 rfl ?_
      refine i_aload_n C dX10_fedFrom_28 0 rfl ?_
      refine gf10_19 C hq0 dX10_fedFrom_29 ?_
      refine gf10_130 C (ky10_1 hq0) dX10_fedFrom_32 ?_
      refine s_icmp_ge C 164 (by decide) dX10_fedFrom_35 h (fun _ h => ?_) (fun _ h => ?_)
      · refine i_iload_n C dX10_fedFrom_164 3 rfl ?_
        exact s_iret C E dX10_fedFrom_165 h
      · refine i_aload_n C dX10_fedFrom_38 0 rfl ?_
        refine gf10_19 C hq0 dX10_fedFrom_39 ?_
        refine gf10_154 C (ky10_1 hq0) dX10_fedFrom_42 ?_
        refine i_iload C dX10_fedFrom_45 5 rfl ?_
        refine s_iald C (ky4_10 (ky10_1 hq0)) dX10_fedFrom_47 h (fun h => ?_)
        refine i_iload_n C dX10_fedFrom_48 1 rfl ?_
        refine s_icmp_ne C 56 (by decide) dX10_fedFrom_49 h (fun _ h => ?_) (fun _ h => ?_)
        · refine s_iconst C (1 : Int32) dX10_fedFrom_52 (by decide) ?_
          refine s_goto C 57 (by decide) dX10_fedFrom_53 ?_
          exact sg_T.to (tX10_fedFrom_57 C E hk26 _ _ _ _ _ _ _ _ h hq0 hq2) [0, 1, 2, 3, 4, 5] rfl
        · refine s_iconst C (0 : Int32) dX10_fedFrom_56 (by decide) ?_
          exact sg_T.to (tX10_fedFrom_57 C E hk26 _ _ _ _ _ _ _ _ h hq0 hq2) [0, 1, 2, 3, 4, 5] rfl
  exact key N
def fX10_fedFrom (N : Nat) (a0_ : Nat) (x1_ : Int32) (M : sg_M) : Option (Int32 × sg_M) :=
  sg_b (fX4_isPad N (Yc.2.2.2 a0_ 1) x1_ M) (fun (x14 : Int32) (M13 : sg_M) =>
  if x14 = 0 then (
  sg_b (fX10_now N a0_ M13) (fun (x16 : Nat) (M15 : sg_M) =>
  sg_m (-1 : Int32) (fun x17 : Int32 =>
  sg_m (0 : Int64) (fun x18 : Int64 =>
  sg_m (0 : Int32) (fun x19 : Int32 =>
  gX10_fedFrom_26 N (a0_, x1_, x16, x17, x18, x19) M15))))) else (
  some ((-1 : Int32), M13)))
set_option maxHeartbeats 4000000 in
set_option maxRecDepth 100000 in
theorem tX10_fedFrom {ad : Nat → Nat} {X : sg_X} {N : Nat} {r : Int32 × sg_M} (C : sg_C Yc ad X cX10_fedFrom RX10 12 4) (E : sg_eI Yc ad X cX10_fedFrom .int r) : ∀ (a0_ : Nat) (x1_ : Int32) (M : sg_M), sg_K Yc a0_ 10 → fX10_fedFrom N a0_ x1_ M = some r → sg_T Yc ad X 12 0 [(0, .ref (ad a0_)), (1, .int x1_)] [] M := by
  intro a0_ x1_ M hq0 h
  unfold fX10_fedFrom at h
  refine i_aload_n C dX10_fedFrom_0 0 rfl ?_
  refine gf10_19 C hq0 dX10_fedFrom_1 ?_
  refine i_iload_n C dX10_fedFrom_4 1 rfl ?_
  refine s_vcI C [_] vmX4_isPad lkX10_167 rfl rfl (by decide) (ky10_1 hq0) (by decide) rfl rfl (Nat.le_of_ble_eq_true rfl) dX10_fedFrom_5 (ctX4_isPad C.inj (ky10_1 hq0)) h (fun x14 M13 h => ?_)
  refine s_if_eq C 13 (by decide) dX10_fedFrom_8 h (fun _ h => ?_) (fun _ h => ?_)
  · refine i_aload_n C dX10_fedFrom_13 0 rfl ?_
    refine s_vcR C [] vmX10_now lkX10_139 rfl rfl (by decide) hq0 (by decide) rfl rfl (Nat.le_of_ble_eq_true rfl) dX10_fedFrom_14 (ctX10_now C.inj hq0) h (fun x16 M15 hfx16 h => ?_)
    refine i_astore_n (lv9 := [(2, _), (0, _), (1, _)]) C 2 dX10_fedFrom_17 rfl (by decide) rfl ?_
    refine s_iconst C (-1 : Int32) dX10_fedFrom_18 (by decide) ?_
    refine z_gi h (fun x17 h => ?_)
    refine i_istore_n (lv9 := [(3, _), (2, _), (0, _), (1, _)]) C 3 dX10_fedFrom_19 rfl (by decide) rfl ?_
    refine s_lconst C (0 : Int64) dX10_fedFrom_20 (by decide) ?_
    refine z_gl h (fun x18 h => ?_)
    refine i_lstore (lv9 := [(4, _), (3, _), (2, _), (0, _), (1, _)]) C dX10_fedFrom_21 (by decide) rfl ?_
    refine s_iconst C (0 : Int32) dX10_fedFrom_23 (by decide) ?_
    refine z_gi h (fun x19 h => ?_)
    refine i_istore (lv9 := [(6, _), (4, _), (3, _), (2, _), (0, _), (1, _)]) C dX10_fedFrom_24 (by decide) rfl ?_
    exact sg_T.to (tX10_fedFrom_26 C E _ _ h hq0 (krX10_now hq0 hfx16)) [4, 5, 3, 2, 1, 0] rfl
  · refine s_iconst C (-1 : Int32) dX10_fedFrom_11 (by decide) ?_
    exact s_iret C E dX10_fedFrom_12 h
theorem ctX10_fedFrom {ad : Nat → Nat} {V : sg_V} {N : Nat} (hi : sg_inj Yc ad) {a0_ : Nat} {x1_ : Int32} {M : sg_M} (hq0 : sg_K Yc a0_ 10) : ∀ res, fX10_fedFrom N a0_ x1_ M = some res → sg_cI Yc ad V yX10_fedFrom cX10_fedFrom 12 .int 4 [.ref (ad a0_), .int x1_] M res := fun res h => sg_bodyI (by decide) hi (Nat.le_of_ble_eq_true rfl) (fun X hX C E => by subst hX; exact tX10_fedFrom C E _ _  _ hq0 h)
def bX10_feeder_33 (N : Nat)  (k33 : (Nat × Int32 × Int32 × Int32) → sg_M → Option (Int32 × sg_M)) (s : Nat × Int32 × Int32 × Int32) (M : sg_M) : Option (Int32 × sg_M) :=
  if s.2.1 ≤ s.2.2.2 then (
  some (s.2.2.1, M)) else (
  if s.2.2.1 = (-1 : Int32) then (
  some (s.2.2.1, M)) else (
  sg_b (fX10_fedFrom N s.1 s.2.2.1 M) (fun (x2 : Int32) (M1 : sg_M) =>
  sg_m x2 (fun x3 : Int32 =>
  sg_m (s.2.2.2 + (1 : Int32)) (fun x4 : Int32 =>
  k33 (s.1, s.2.1, x3, x4) M1)))))
def gX10_feeder_33 (N : Nat)  : (Nat × Int32 × Int32 × Int32) → sg_M → Option (Int32 × sg_M) := sg_lp (bX10_feeder_33 N ) N
set_option maxHeartbeats 4000000 in
set_option maxRecDepth 100000 in
theorem tX10_feeder_33 {ad : Nat → Nat} {X : sg_X} {N : Nat} {r : Int32 × sg_M} (C : sg_C Yc ad X cX10_feeder RX10 5 5) (E : sg_eI Yc ad X cX10_feeder .int r)  : ∀ (s : Nat × Int32 × Int32 × Int32) (M : sg_M), gX10_feeder_33 N s M = some r → sg_K Yc s.1 10 → sg_T Yc ad X 5 33 [(0, .ref (ad (s.1))), (2, .int (s.2.1)), (3, .int (s.2.2.1)), (4, .int (s.2.2.2))] [] M := by
  have key : ∀ n : Nat, ∀ (s : Nat × Int32 × Int32 × Int32) (M : sg_M), sg_lp (bX10_feeder_33 N) n s M = some r → sg_K Yc s.1 10 → sg_T Yc ad X 5 33 [(0, .ref (ad (s.1))), (2, .int (s.2.1)), (3, .int (s.2.2.1)), (4, .int (s.2.2.2))] [] M := by
    intro n
    induction n with
    | zero => intro s M h; cases h
    | succ n ih =>
      intro s M h hq0
      have h : bX10_feeder_33 N (sg_lp (bX10_feeder_33 N) n) s M = some r := h
      generalize sg_lp (bX10_feeder_33 N) n = k33 at h ih
      have hk33 := ih
      unfold bX10_feeder_33 at h
      refine i_iload C dX10_feeder_33 3 rfl ?_
      refine i_iload_n C dX10_feeder_35 1 rfl ?_
      refine s_icmp_ge C 56 (by decide) dX10_feeder_36 h (fun _ h => ?_) (fun _ h => ?_)
      · refine i_iload_n C dX10_feeder_56 2 rfl ?_
        exact s_iret C E dX10_feeder_57 h
      · refine i_iload_n C dX10_feeder_39 2 rfl ?_
        refine s_iconst C (-1 : Int32) dX10_feeder_40 (by decide) ?_
        refine s_icmp_eq C 56 (by decide) dX10_feeder_41 h (fun _ h => ?_) (fun _ h => ?_)
        · refine i_iload_n C dX10_feeder_56 2 rfl ?_
          exact s_iret C E dX10_feeder_57 h
        · refine i_aload_n C dX10_feeder_44 0 rfl ?_
          refine i_iload_n C dX10_feeder_45 2 rfl ?_
          refine s_vcI C [_] vmX10_fedFrom lkX10_242 rfl rfl (by decide) hq0 (by decide) rfl rfl (Nat.le_of_ble_eq_true rfl) dX10_feeder_46 (ctX10_fedFrom C.inj hq0) h (fun x2 M1 h => ?_)
          refine z_gi h (fun x3 h => ?_)
          refine i_istore_n (lv9 := [(3, _), (0, _), (2, _), (4, _)]) C 3 dX10_feeder_49 rfl (by decide) rfl ?_
          refine z_iinc (n := 1) (c9 := (1 : Int32)) (by decide) h (fun x4 hx h => ?_)
          refine i_iinc (lv9 := [(4, _), (3, _), (0, _), (2, _)]) C dX10_feeder_50 3 rfl hx (by decide) rfl ?_
          refine s_goto C 33 (by decide) dX10_feeder_53 ?_
          exact sg_T.to (hk33 _ _ h hq0) [2, 3, 1, 0] rfl
  exact key N
def fX10_feeder (N : Nat) (a0_ : Nat) (x1_ : Int32) (x2_ : Int32) (M : sg_M) : Option (Int32 × sg_M) :=
  sg_b (fX10_hasNode N a0_ x1_ M) (fun (x6 : Int32) (M5 : sg_M) =>
  if x6 = 0 then (
  some ((-2 : Int32), M5)) else (
  if 0 ≤ x2_ then (
  if x2_ < (M5.1 (Yc.2.2.2 a0_ 1) 5) then (
  sg_m x1_ (fun x7 : Int32 =>
  sg_m (0 : Int32) (fun x8 : Int32 =>
  gX10_feeder_33 N (a0_, x2_, x7, x8) M5))) else (
  some ((-1 : Int32), M5))) else (
  some ((-2 : Int32), M5))))
set_option maxHeartbeats 4000000 in
set_option maxRecDepth 100000 in
theorem tX10_feeder {ad : Nat → Nat} {X : sg_X} {N : Nat} {r : Int32 × sg_M} (C : sg_C Yc ad X cX10_feeder RX10 5 5) (E : sg_eI Yc ad X cX10_feeder .int r) : ∀ (a0_ : Nat) (x1_ : Int32) (x2_ : Int32) (M : sg_M), sg_K Yc a0_ 10 → fX10_feeder N a0_ x1_ x2_ M = some r → sg_T Yc ad X 5 0 [(0, .ref (ad a0_)), (1, .int x1_), (2, .int x2_)] [] M := by
  intro a0_ x1_ x2_ M hq0 h
  unfold fX10_feeder at h
  refine i_aload_n C dX10_feeder_0 0 rfl ?_
  refine i_iload_n C dX10_feeder_1 1 rfl ?_
  refine s_vcI C [_] vmX10_hasNode lkX10_160 rfl rfl (by decide) hq0 (by decide) rfl rfl (Nat.le_of_ble_eq_true rfl) dX10_feeder_2 (ctX10_hasNode C.inj hq0) h (fun x6 M5 h => ?_)
  refine s_if_eq C 12 (by decide) dX10_feeder_5 h (fun _ h => ?_) (fun _ h => ?_)
  · refine s_bipush C (-2 : Int32) dX10_feeder_12 (by decide) ?_
    exact s_iret C E dX10_feeder_14 h
  · refine i_iload_n C dX10_feeder_8 2 rfl ?_
    refine s_if_ge C 15 (by decide) dX10_feeder_9 h (fun _ h => ?_) (fun _ h => ?_)
    · refine i_iload_n C dX10_feeder_15 2 rfl ?_
      refine i_aload_n C dX10_feeder_16 0 rfl ?_
      refine gf10_19 C hq0 dX10_feeder_17 ?_
      refine gf10_213 C (ky10_1 hq0) dX10_feeder_20 ?_
      refine s_icmp_lt C 28 (by decide) dX10_feeder_23 h (fun _ h => ?_) (fun _ h => ?_)
      · refine i_iload_n C dX10_feeder_28 1 rfl ?_
        refine z_gi h (fun x7 h => ?_)
        refine i_istore_n (lv9 := [(3, _), (0, _), (1, _), (2, _)]) C 3 dX10_feeder_29 rfl (by decide) rfl ?_
        refine s_iconst C (0 : Int32) dX10_feeder_30 (by decide) ?_
        refine z_gi h (fun x8 h => ?_)
        refine i_istore (lv9 := [(4, _), (3, _), (0, _), (1, _), (2, _)]) C dX10_feeder_31 (by decide) rfl ?_
        exact sg_T.to (tX10_feeder_33 C E _ _ h hq0) [2, 4, 1, 0] rfl
      · refine s_iconst C (-1 : Int32) dX10_feeder_26 (by decide) ?_
        exact s_iret C E dX10_feeder_27 h
    · refine s_bipush C (-2 : Int32) dX10_feeder_12 (by decide) ?_
      exact s_iret C E dX10_feeder_14 h
theorem ctX10_feeder {ad : Nat → Nat} {V : sg_V} {N : Nat} (hi : sg_inj Yc ad) {a0_ : Nat} {x1_ : Int32} {x2_ : Int32} {M : sg_M} (hq0 : sg_K Yc a0_ 10) : ∀ res, fX10_feeder N a0_ x1_ x2_ M = some res → sg_cI Yc ad V yX10_feeder cX10_feeder 5 .int 5 [.ref (ad a0_), .int x1_, .int x2_] M res := fun res h => sg_bodyI (by decide) hi (Nat.le_of_ble_eq_true rfl) (fun X hX C E => by subst hX; exact tX10_feeder C E _ _ _  _ hq0 h)
def bX10_parts_16 (N : Nat)  (k16 : (Nat × Int32 × Int32 × Int32) → sg_M → Option (Int32 × sg_M)) (s : Nat × Int32 × Int32 × Int32) (M : sg_M) : Option (Int32 × sg_M) :=
  if (M.1 (Yc.2.2.2 s.1 1) 5) ≤ s.2.2.2 then (
  some (s.2.2.1, M)) else (
  if ((s.2.1 >>> (s.2.2.2 &&& 31)) &&& (1 : Int32)) = 0 then (
  sg_b (fX4_spread N (Yc.2.2.2 s.1 1) (Yc.2.2.2 (Yc.2.2.2 s.1 1) 11) ((1 : Int32) <<< (s.2.2.2 &&& 31)) M) (fun (x2 : Int32) (M1 : sg_M) =>
  sg_m (s.2.1 ||| x2) (fun x3 : Int32 =>
  sg_m (s.2.2.1 + (1 : Int32)) (fun x4 : Int32 =>
  sg_m (s.2.2.2 + (1 : Int32)) (fun x5 : Int32 =>
  k16 (s.1, x3, x4, x5) M1))))) else (
  sg_m (s.2.2.2 + (1 : Int32)) (fun x6 : Int32 =>
  k16 (s.1, s.2.1, s.2.2.1, x6) M)))
def gX10_parts_16 (N : Nat)  : (Nat × Int32 × Int32 × Int32) → sg_M → Option (Int32 × sg_M) := sg_lp (bX10_parts_16 N ) N
set_option maxHeartbeats 4000000 in
set_option maxRecDepth 100000 in
theorem tX10_parts_16 {ad : Nat → Nat} {X : sg_X} {N : Nat} {r : Int32 × sg_M} (C : sg_C Yc ad X cX10_parts RX10 4 1) (E : sg_eI Yc ad X cX10_parts .int r)  : ∀ (s : Nat × Int32 × Int32 × Int32) (M : sg_M), gX10_parts_16 N s M = some r → sg_K Yc s.1 10 → sg_T Yc ad X 4 16 [(0, .ref (ad (s.1))), (1, .int (s.2.1)), (2, .int (s.2.2.1)), (3, .int (s.2.2.2))] [] M := by
  have key : ∀ n : Nat, ∀ (s : Nat × Int32 × Int32 × Int32) (M : sg_M), sg_lp (bX10_parts_16 N) n s M = some r → sg_K Yc s.1 10 → sg_T Yc ad X 4 16 [(0, .ref (ad (s.1))), (1, .int (s.2.1)), (2, .int (s.2.2.1)), (3, .int (s.2.2.2))] [] M := by
    intro n
    induction n with
    | zero => intro s M h; cases h
    | succ n ih =>
      intro s M h hq0
      have h : bX10_parts_16 N (sg_lp (bX10_parts_16 N) n) s M = some r := h
      generalize sg_lp (bX10_parts_16 N) n = k16 at h ih
      have hk16 := ih
      unfold bX10_parts_16 at h
      refine i_iload_n C dX10_parts_16 3 rfl ?_
      refine i_aload_n C dX10_parts_17 0 rfl ?_
      refine gf10_19 C hq0 dX10_parts_18 ?_
      refine gf10_213 C (ky10_1 hq0) dX10_parts_21 ?_
      refine s_icmp_ge C 64 (by decide) dX10_parts_24 h (fun _ h => ?_) (fun _ h => ?_)
      · refine i_iload_n C dX10_parts_64 2 rfl ?_
        exact s_iret C E dX10_parts_65 h
      · refine i_iload_n C dX10_parts_27 1 rfl ?_
        refine i_iload_n C dX10_parts_28 3 rfl ?_
        refine s_ishr C dX10_parts_29 ?_
        refine s_iconst C (1 : Int32) dX10_parts_30 (by decide) ?_
        refine s_iand C dX10_parts_31 ?_
        refine s_if_ne C 58 (by decide) dX10_parts_32 h (fun _ h => ?_) (fun _ h => ?_)
        · refine i_iload_n C dX10_parts_35 1 rfl ?_
          refine i_aload_n C dX10_parts_36 0 rfl ?_
          refine gf10_19 C hq0 dX10_parts_37 ?_
          refine i_aload_n C dX10_parts_40 0 rfl ?_
          refine gf10_19 C hq0 dX10_parts_41 ?_
          refine gf10_157 C (ky10_1 hq0) dX10_parts_44 ?_
          refine s_iconst C (1 : Int32) dX10_parts_47 (by decide) ?_
          refine i_iload_n C dX10_parts_48 3 rfl ?_
          refine s_ishl C dX10_parts_49 ?_
          refine s_vcI C [_, _] vmX4_spread lkX10_246 rfl rfl (by decide) (ky10_1 hq0) (by decide) rfl rfl (Nat.le_of_ble_eq_true rfl) dX10_parts_50 (ctX4_spread C.inj (ky10_1 hq0) (ky4_11 (ky10_1 hq0))) h (fun x2 M1 h => ?_)
          refine s_ior C dX10_parts_53 ?_
          refine z_gi h (fun x3 h => ?_)
          refine i_istore_n (lv9 := [(1, _), (0, _), (2, _), (3, _)]) C 1 dX10_parts_54 rfl (by decide) rfl ?_
          refine z_iinc (n := 1) (c9 := (1 : Int32)) (by decide) h (fun x4 hx h => ?_)
          refine i_iinc (lv9 := [(2, _), (1, _), (0, _), (3, _)]) C dX10_parts_55 2 rfl hx (by decide) rfl ?_
          refine z_iinc (n := 1) (c9 := (1 : Int32)) (by decide) h (fun x5 hx h => ?_)
          refine i_iinc (lv9 := [(3, _), (2, _), (1, _), (0, _)]) C dX10_parts_58 3 rfl hx (by decide) rfl ?_
          refine s_goto C 16 (by decide) dX10_parts_61 ?_
          exact sg_T.to (hk16 _ _ h hq0) [3, 2, 1, 0] rfl
        · refine z_iinc (n := 1) (c9 := (1 : Int32)) (by decide) h (fun x6 hx h => ?_)
          refine i_iinc (lv9 := [(3, _), (0, _), (1, _), (2, _)]) C dX10_parts_58 3 rfl hx (by decide) rfl ?_
          refine s_goto C 16 (by decide) dX10_parts_61 ?_
          exact sg_T.to (hk16 _ _ h hq0) [1, 2, 3, 0] rfl
  exact key N
def fX10_parts (N : Nat) (a0_ : Nat) (M : sg_M) : Option (Int32 × sg_M) :=
  sg_b (fX10_noGrid N a0_ M) (fun (x8 : Int32) (M7 : sg_M) =>
  if x8 = 0 then (
  sg_m (0 : Int32) (fun x9 : Int32 =>
  sg_m (0 : Int32) (fun x10 : Int32 =>
  sg_m (0 : Int32) (fun x11 : Int32 =>
  gX10_parts_16 N (a0_, x9, x10, x11) M7)))) else (
  some ((-2 : Int32), M7)))
set_option maxHeartbeats 4000000 in
set_option maxRecDepth 100000 in
theorem tX10_parts {ad : Nat → Nat} {X : sg_X} {N : Nat} {r : Int32 × sg_M} (C : sg_C Yc ad X cX10_parts RX10 4 1) (E : sg_eI Yc ad X cX10_parts .int r) : ∀ (a0_ : Nat) (M : sg_M), sg_K Yc a0_ 10 → fX10_parts N a0_ M = some r → sg_T Yc ad X 4 0 [(0, .ref (ad a0_))] [] M := by
  intro a0_ M hq0 h
  unfold fX10_parts at h
  refine i_aload_n C dX10_parts_0 0 rfl ?_
  refine s_vcI C [] vmX10_noGrid lkX10_179 rfl rfl (by decide) hq0 (by decide) rfl rfl (Nat.le_of_ble_eq_true rfl) dX10_parts_1 (ctX10_noGrid C.inj hq0) h (fun x8 M7 h => ?_)
  refine s_if_eq C 10 (by decide) dX10_parts_4 h (fun _ h => ?_) (fun _ h => ?_)
  · refine s_iconst C (0 : Int32) dX10_parts_10 (by decide) ?_
    refine z_gi h (fun x9 h => ?_)
    refine i_istore_n (lv9 := [(1, _), (0, _)]) C 1 dX10_parts_11 rfl (by decide) rfl ?_
    refine s_iconst C (0 : Int32) dX10_parts_12 (by decide) ?_
    refine z_gi h (fun x10 h => ?_)
    refine i_istore_n (lv9 := [(2, _), (1, _), (0, _)]) C 2 dX10_parts_13 rfl (by decide) rfl ?_
    refine s_iconst C (0 : Int32) dX10_parts_14 (by decide) ?_
    refine z_gi h (fun x11 h => ?_)
    refine i_istore_n (lv9 := [(3, _), (2, _), (1, _), (0, _)]) C 3 dX10_parts_15 rfl (by decide) rfl ?_
    exact sg_T.to (tX10_parts_16 C E _ _ h hq0) [3, 2, 1, 0] rfl
  · refine s_bipush C (-2 : Int32) dX10_parts_7 (by decide) ?_
    exact s_iret C E dX10_parts_9 h
theorem ctX10_parts {ad : Nat → Nat} {V : sg_V} {N : Nat} (hi : sg_inj Yc ad) {a0_ : Nat} {M : sg_M} (hq0 : sg_K Yc a0_ 10) : ∀ res, fX10_parts N a0_ M = some res → sg_cI Yc ad V yX10_parts cX10_parts 4 .int 1 [.ref (ad a0_)] M res := fun res h => sg_bodyI (by decide) hi (Nat.le_of_ble_eq_true rfl) (fun X hX C E => by subst hX; exact tX10_parts C E _  _ hq0 h)
def fX10_reached (N : Nat) (a0_ : Nat) (x1_ : Int32) (M : sg_M) : Option (Int32 × sg_M) :=
  sg_b (fX10_hasNode N a0_ x1_ M) (fun (x2 : Int32) (M1 : sg_M) =>
  if x2 = 0 then (
  some ((-2 : Int32), M1)) else (
  sg_b (fX4_spread N (Yc.2.2.2 a0_ 1) (Yc.2.2.2 (Yc.2.2.2 a0_ 1) 11) ((1 : Int32) <<< (x1_ &&& 31)) M1) (fun (x4 : Int32) (M3 : sg_M) =>
  some (x4, M3))))
set_option maxHeartbeats 4000000 in
set_option maxRecDepth 100000 in
theorem tX10_reached {ad : Nat → Nat} {X : sg_X} {N : Nat} {r : Int32 × sg_M} (C : sg_C Yc ad X cX10_reached RX10 2 1) (E : sg_eI Yc ad X cX10_reached .int r) : ∀ (a0_ : Nat) (x1_ : Int32) (M : sg_M), sg_K Yc a0_ 10 → fX10_reached N a0_ x1_ M = some r → sg_T Yc ad X 2 0 [(0, .ref (ad a0_)), (1, .int x1_)] [] M := by
  intro a0_ x1_ M hq0 h
  unfold fX10_reached at h
  refine i_aload_n C dX10_reached_0 0 rfl ?_
  refine i_iload_n C dX10_reached_1 1 rfl ?_
  refine s_vcI C [_] vmX10_hasNode lkX10_160 rfl rfl (by decide) hq0 (by decide) rfl rfl (Nat.le_of_ble_eq_true rfl) dX10_reached_2 (ctX10_hasNode C.inj hq0) h (fun x2 M1 h => ?_)
  refine s_if_ne C 11 (by decide) dX10_reached_5 h (fun _ h => ?_) (fun _ h => ?_)
  · refine s_bipush C (-2 : Int32) dX10_reached_8 (by decide) ?_
    exact s_iret C E dX10_reached_10 h
  · refine i_aload_n C dX10_reached_11 0 rfl ?_
    refine gf10_19 C hq0 dX10_reached_12 ?_
    refine i_aload_n C dX10_reached_15 0 rfl ?_
    refine gf10_19 C hq0 dX10_reached_16 ?_
    refine gf10_157 C (ky10_1 hq0) dX10_reached_19 ?_
    refine s_iconst C (1 : Int32) dX10_reached_22 (by decide) ?_
    refine i_iload_n C dX10_reached_23 1 rfl ?_
    refine s_ishl C dX10_reached_24 ?_
    refine s_vcI C [_, _] vmX4_spread lkX10_246 rfl rfl (by decide) (ky10_1 hq0) (by decide) rfl rfl (Nat.le_of_ble_eq_true rfl) dX10_reached_25 (ctX4_spread C.inj (ky10_1 hq0) (ky4_11 (ky10_1 hq0))) h (fun x4 M3 h => ?_)
    exact s_iret C E dX10_reached_28 h
theorem ctX10_reached {ad : Nat → Nat} {V : sg_V} {N : Nat} (hi : sg_inj Yc ad) {a0_ : Nat} {x1_ : Int32} {M : sg_M} (hq0 : sg_K Yc a0_ 10) : ∀ res, fX10_reached N a0_ x1_ M = some res → sg_cI Yc ad V yX10_reached cX10_reached 2 .int 1 [.ref (ad a0_), .int x1_] M res := fun res h => sg_bodyI (by decide) hi (Nat.le_of_ble_eq_true rfl) (fun X hX C E => by subst hX; exact tX10_reached C E _ _  _ hq0 h)
def fX10_heat (N : Nat) (a0_ : Nat) (x1_ : Int32) (x2_ : Int32) (M : sg_M) : Option (Int64 × sg_M) :=
  sg_b (fX10_hasStrap N a0_ x1_ M) (fun (x2 : Int32) (M1 : sg_M) =>
  if x2 = 0 then (
  some ((-2 : Int64), M1)) else (
  sg_b (fX10_isPart N x2_ M1) (fun (x4 : Int32) (M3 : sg_M) =>
  if x4 = 0 then (
  some ((-2 : Int64), M3)) else (
  sg_b (fX10_now N a0_ M3) (fun (x6 : Nat) (M5 : sg_M) =>
  sg_b (fX1_heatAbove N x6 (Yc.2.2.2 a0_ 1) (Yc.2.2.2 (Yc.2.2.2 a0_ 1) 11) x1_ M5) (fun (x8 : Int64) (M7 : sg_M) =>
  sg_b (fX10_partOf N x8 (M7.2 x6 1) x2_ M7) (fun (x10 : Int64) (M9 : sg_M) =>
  some (x10, M9))))))))
set_option maxHeartbeats 4000000 in
set_option maxRecDepth 100000 in
theorem tX10_heat {ad : Nat → Nat} {X : sg_X} {N : Nat} {r : Int64 × sg_M} (C : sg_C Yc ad X cX10_heat RX10 4 4) (E : sg_eL Yc ad X cX10_heat r) : ∀ (a0_ : Nat) (x1_ : Int32) (x2_ : Int32) (M : sg_M), sg_K Yc a0_ 10 → fX10_heat N a0_ x1_ x2_ M = some r → sg_T Yc ad X 4 0 [(0, .ref (ad a0_)), (1, .int x1_), (2, .int x2_)] [] M := by
  intro a0_ x1_ x2_ M hq0 h
  unfold fX10_heat at h
  refine i_aload_n C dX10_heat_0 0 rfl ?_
  refine i_iload_n C dX10_heat_1 1 rfl ?_
  refine s_vcI C [_] vmX10_hasStrap lkX10_146 rfl rfl (by decide) hq0 (by decide) rfl rfl (Nat.le_of_ble_eq_true rfl) dX10_heat_2 (ctX10_hasStrap C.inj hq0) h (fun x2 M1 h => ?_)
  refine s_if_eq C 15 (by decide) dX10_heat_5 h (fun _ h => ?_) (fun _ h => ?_)
  · refine s_ldc2 C (-2 : Int64) kl_X10_188 dX10_heat_15 ?_
    exact s_lret C E dX10_heat_18 h
  · refine i_iload_n C dX10_heat_8 2 rfl ?_
    refine s_scI C [_] smX10_isPart lkX10_185 (by decide) rfl rfl (Nat.le_of_ble_eq_true rfl) dX10_heat_9 (ctX10_isPart C.inj ) h (fun x4 M3 h => ?_)
    refine s_if_ne C 19 (by decide) dX10_heat_12 h (fun _ h => ?_) (fun _ h => ?_)
    · refine s_ldc2 C (-2 : Int64) kl_X10_188 dX10_heat_15 ?_
      exact s_lret C E dX10_heat_18 h
    · refine i_aload_n C dX10_heat_19 0 rfl ?_
      refine s_vcR C [] vmX10_now lkX10_139 rfl rfl (by decide) hq0 (by decide) rfl rfl (Nat.le_of_ble_eq_true rfl) dX10_heat_20 (ctX10_now C.inj hq0) h (fun x6 M5 hfx6 h => ?_)
      refine i_astore_n (lv9 := [(3, _), (0, _), (1, _), (2, _)]) C 3 dX10_heat_23 rfl (by decide) rfl ?_
      refine i_aload_n C dX10_heat_24 0 rfl ?_
      refine i_aload_n C dX10_heat_25 1 rfl ?_
      refine gf10_19 C hq0 dX10_heat_26 ?_
      refine i_aload_n C dX10_heat_29 1 rfl ?_
      refine gf10_19 C hq0 dX10_heat_30 ?_
      refine gf10_157 C (ky10_1 hq0) dX10_heat_33 ?_
      refine i_iload_n C dX10_heat_36 2 rfl ?_
      refine s_vcL C [_, _, _] vmX1_heatAbove lkX10_250 rfl rfl (by decide) (krX10_now hq0 hfx6) (by decide) rfl rfl (Nat.le_of_ble_eq_true rfl) dX10_heat_37 (ctX1_heatAbove C.inj (krX10_now hq0 hfx6) (ky10_1 hq0) (ky4_11 (ky10_1 hq0))) h (fun x8 M7 h => ?_)
      refine i_aload_n C dX10_heat_40 0 rfl ?_
      refine gf10_196 C (krX10_now hq0 hfx6) dX10_heat_41 ?_
      refine i_iload_n C dX10_heat_44 3 rfl ?_
      refine s_scL C [_, _, _] smX10_partOf lkX10_200 (by decide) rfl rfl (Nat.le_of_ble_eq_true rfl) dX10_heat_45 (ctX10_partOf C.inj ) h (fun x10 M9 h => ?_)
      exact s_lret C E dX10_heat_48 h
theorem ctX10_heat {ad : Nat → Nat} {V : sg_V} {N : Nat} (hi : sg_inj Yc ad) {a0_ : Nat} {x1_ : Int32} {x2_ : Int32} {M : sg_M} (hq0 : sg_K Yc a0_ 10) : ∀ res, fX10_heat N a0_ x1_ x2_ M = some res → sg_cL Yc ad V yX10_heat cX10_heat 4 4 [.ref (ad a0_), .int x1_, .int x2_] M res := fun res h => sg_bodyL (by decide) hi (Nat.le_of_ble_eq_true rfl) (fun X hX C E => by subst hX; exact tX10_heat C E _ _ _  _ hq0 h)
def bX10_hottest_22 (N : Nat)  (k22 : (Nat × Nat × Int32 × Int64 × Int32) → sg_M → Option (Int32 × sg_M)) (s : Nat × Nat × Int32 × Int64 × Int32) (M : sg_M) : Option (Int32 × sg_M) :=
  if (M.1 (Yc.2.2.2 s.1 1) 6) ≤ s.2.2.2.2 then (
  some (s.2.2.1, M)) else (
  sg_b (fX1_heatAbove N s.2.1 (Yc.2.2.2 s.1 1) (Yc.2.2.2 (Yc.2.2.2 s.1 1) 11) s.2.2.2.2 M) (fun (x2 : Int64) (M1 : sg_M) =>
  sg_m x2 (fun x3 : Int64 =>
  if (lg_cmp x3 s.2.2.2.1) ≤ 0 then (
  sg_m (s.2.2.2.2 + (1 : Int32)) (fun x4 : Int32 =>
  k22 (s.1, s.2.1, s.2.2.1, s.2.2.2.1, x4) M1)) else (
  sg_m s.2.2.2.2 (fun x5 : Int32 =>
  sg_m x3 (fun x6 : Int64 =>
  sg_m (s.2.2.2.2 + (1 : Int32)) (fun x7 : Int32 =>
  k22 (s.1, s.2.1, x5, x6, x7) M1)))))))
def gX10_hottest_22 (N : Nat)  : (Nat × Nat × Int32 × Int64 × Int32) → sg_M → Option (Int32 × sg_M) := sg_lp (bX10_hottest_22 N ) N
set_option maxHeartbeats 4000000 in
set_option maxRecDepth 100000 in
theorem tX10_hottest_22 {ad : Nat → Nat} {X : sg_X} {N : Nat} {r : Int32 × sg_M} (C : sg_C Yc ad X cX10_hottest RX10 8 4) (E : sg_eI Yc ad X cX10_hottest .int r)  : ∀ (s : Nat × Nat × Int32 × Int64 × Int32) (M : sg_M), gX10_hottest_22 N s M = some r → sg_K Yc s.1 10 → sg_K Yc s.2.1 1 → sg_T Yc ad X 8 22 [(0, .ref (ad (s.1))), (1, .ref (ad (s.2.1))), (2, .int (s.2.2.1)), (3, .long (s.2.2.2.1)), (5, .int (s.2.2.2.2))] [] M := by
  have key : ∀ n : Nat, ∀ (s : Nat × Nat × Int32 × Int64 × Int32) (M : sg_M), sg_lp (bX10_hottest_22 N) n s M = some r → sg_K Yc s.1 10 → sg_K Yc s.2.1 1 → sg_T Yc ad X 8 22 [(0, .ref (ad (s.1))), (1, .ref (ad (s.2.1))), (2, .int (s.2.2.1)), (3, .long (s.2.2.2.1)), (5, .int (s.2.2.2.2))] [] M := by
    intro n
    induction n with
    | zero => intro s M h; cases h
    | succ n ih =>
      intro s M h hq0 hq1
      have h : bX10_hottest_22 N (sg_lp (bX10_hottest_22 N) n) s M = some r := h
      generalize sg_lp (bX10_hottest_22 N) n = k22 at h ih
      have hk22 := ih
      unfold bX10_hottest_22 at h
      refine i_iload C dX10_hottest_22 4 rfl ?_
      refine i_aload_n C dX10_hottest_24 0 rfl ?_
      refine gf10_19 C hq0 dX10_hottest_25 ?_
      refine gf10_130 C (ky10_1 hq0) dX10_hottest_28 ?_
      refine s_icmp_ge C 72 (by decide) dX10_hottest_31 h (fun _ h => ?_) (fun _ h => ?_)
      · refine i_iload_n C dX10_hottest_72 2 rfl ?_
        exact s_iret C E dX10_hottest_73 h
      · refine i_aload_n C dX10_hottest_34 1 rfl ?_
        refine i_aload_n C dX10_hottest_35 0 rfl ?_
        refine gf10_19 C hq0 dX10_hottest_36 ?_
        refine i_aload_n C dX10_hottest_39 0 rfl ?_
        refine gf10_19 C hq0 dX10_hottest_40 ?_
        refine gf10_157 C (ky10_1 hq0) dX10_hottest_43 ?_
        refine i_iload C dX10_hottest_46 4 rfl ?_
        refine s_vcL C [_, _, _] vmX1_heatAbove lkX10_250 rfl rfl (by decide) hq1 (by decide) rfl rfl (Nat.le_of_ble_eq_true rfl) dX10_hottest_48 (ctX1_heatAbove C.inj hq1 (ky10_1 hq0) (ky4_11 (ky10_1 hq0))) h (fun x2 M1 h => ?_)
        refine z_gl h (fun x3 h => ?_)
        refine i_lstore (lv9 := [(6, _), (0, _), (1, _), (2, _), (3, _), (5, _)]) C dX10_hottest_51 (by decide) rfl ?_
        refine i_lload C dX10_hottest_53 0 rfl ?_
        refine i_lload_n C dX10_hottest_55 4 rfl ?_
        refine s_lcmp C dX10_hottest_56 ?_
        refine s_if_le C 66 (by decide) dX10_hottest_57 h (fun _ h => ?_) (fun _ h => ?_)
        · refine z_iinc (n := 1) (c9 := (1 : Int32)) (by decide) h (fun x4 hx h => ?_)
          refine i_iinc (lv9 := [(5, _), (6, _), (0, _), (1, _), (2, _), (3, _)]) C dX10_hottest_66 5 rfl hx (by decide) rfl ?_
          refine s_goto C 22 (by decide) dX10_hottest_69 ?_
          exact sg_T.to (hk22 _ _ h hq0 hq1) [2, 3, 4, 5, 0] rfl
        · refine i_iload C dX10_hottest_60 5 rfl ?_
          refine z_gi h (fun x5 h => ?_)
          refine i_istore_n (lv9 := [(2, _), (6, _), (0, _), (1, _), (3, _), (5, _)]) C 2 dX10_hottest_62 rfl (by decide) rfl ?_
          refine i_lload C dX10_hottest_63 1 rfl ?_
          refine z_gl h (fun x6 h => ?_)
          refine i_lstore_n (lv9 := [(3, _), (2, _), (6, _), (0, _), (1, _), (5, _)]) C 3 dX10_hottest_65 rfl (by decide) rfl ?_
          refine z_iinc (n := 1) (c9 := (1 : Int32)) (by decide) h (fun x7 hx h => ?_)
          refine i_iinc (lv9 := [(5, _), (3, _), (2, _), (6, _), (0, _), (1, _)]) C dX10_hottest_66 5 rfl hx (by decide) rfl ?_
          refine s_goto C 22 (by decide) dX10_hottest_69 ?_
          exact sg_T.to (hk22 _ _ h hq0 hq1) [4, 5, 2, 1, 0] rfl
  exact key N
def fX10_hottest (N : Nat) (a0_ : Nat) (M : sg_M) : Option (Int32 × sg_M) :=
  sg_b (fX10_noGrid N a0_ M) (fun (x9 : Int32) (M8 : sg_M) =>
  if x9 = 0 then (
  sg_b (fX10_now N a0_ M8) (fun (x11 : Nat) (M10 : sg_M) =>
  sg_m (-1 : Int32) (fun x12 : Int32 =>
  sg_m (0 : Int64) (fun x13 : Int64 =>
  sg_m (0 : Int32) (fun x14 : Int32 =>
  gX10_hottest_22 N (a0_, x11, x12, x13, x14) M10))))) else (
  some ((-2 : Int32), M8)))
set_option maxHeartbeats 4000000 in
set_option maxRecDepth 100000 in
theorem tX10_hottest {ad : Nat → Nat} {X : sg_X} {N : Nat} {r : Int32 × sg_M} (C : sg_C Yc ad X cX10_hottest RX10 8 4) (E : sg_eI Yc ad X cX10_hottest .int r) : ∀ (a0_ : Nat) (M : sg_M), sg_K Yc a0_ 10 → fX10_hottest N a0_ M = some r → sg_T Yc ad X 8 0 [(0, .ref (ad a0_))] [] M := by
  intro a0_ M hq0 h
  unfold fX10_hottest at h
  refine i_aload_n C dX10_hottest_0 0 rfl ?_
  refine s_vcI C [] vmX10_noGrid lkX10_179 rfl rfl (by decide) hq0 (by decide) rfl rfl (Nat.le_of_ble_eq_true rfl) dX10_hottest_1 (ctX10_noGrid C.inj hq0) h (fun x9 M8 h => ?_)
  refine s_if_eq C 10 (by decide) dX10_hottest_4 h (fun _ h => ?_) (fun _ h => ?_)
  · refine i_aload_n C dX10_hottest_10 0 rfl ?_
    refine s_vcR C [] vmX10_now lkX10_139 rfl rfl (by decide) hq0 (by decide) rfl rfl (Nat.le_of_ble_eq_true rfl) dX10_hottest_11 (ctX10_now C.inj hq0) h (fun x11 M10 hfx11 h => ?_)
    refine i_astore_n (lv9 := [(1, _), (0, _)]) C 1 dX10_hottest_14 rfl (by decide) rfl ?_
    refine s_iconst C (-1 : Int32) dX10_hottest_15 (by decide) ?_
    refine z_gi h (fun x12 h => ?_)
    refine i_istore_n (lv9 := [(2, _), (1, _), (0, _)]) C 2 dX10_hottest_16 rfl (by decide) rfl ?_
    refine s_lconst C (0 : Int64) dX10_hottest_17 (by decide) ?_
    refine z_gl h (fun x13 h => ?_)
    refine i_lstore_n (lv9 := [(3, _), (2, _), (1, _), (0, _)]) C 3 dX10_hottest_18 rfl (by decide) rfl ?_
    refine s_iconst C (0 : Int32) dX10_hottest_19 (by decide) ?_
    refine z_gi h (fun x14 h => ?_)
    refine i_istore (lv9 := [(5, _), (3, _), (2, _), (1, _), (0, _)]) C dX10_hottest_20 (by decide) rfl ?_
    exact sg_T.to (tX10_hottest_22 C E _ _ h hq0 (krX10_now hq0 hfx11)) [4, 3, 2, 1, 0] rfl
  · refine s_bipush C (-2 : Int32) dX10_hottest_7 (by decide) ?_
    exact s_iret C E dX10_hottest_9 h
theorem ctX10_hottest {ad : Nat → Nat} {V : sg_V} {N : Nat} (hi : sg_inj Yc ad) {a0_ : Nat} {M : sg_M} (hq0 : sg_K Yc a0_ 10) : ∀ res, fX10_hottest N a0_ M = some res → sg_cI Yc ad V yX10_hottest cX10_hottest 8 .int 4 [.ref (ad a0_)] M res := fun res h => sg_bodyI (by decide) hi (Nat.le_of_ble_eq_true rfl) (fun X hX C E => by subst hX; exact tX10_hottest C E _  _ hq0 h)
def fX10_wearing (N : Nat) (a0_ : Nat) (M : sg_M) : Option (Int32 × sg_M) :=
  sg_b (fX10_noGrid N a0_ M) (fun (x2 : Int32) (M1 : sg_M) =>
  if x2 = 0 then (
  sg_b (fX10_now N a0_ M1) (fun (x4 : Nat) (M3 : sg_M) =>
  sg_b (fX1_wearBits N x4 (Yc.2.2.2 a0_ 1) (Yc.2.2.2 (Yc.2.2.2 a0_ 1) 11) M3) (fun (x6 : Int32) (M5 : sg_M) =>
  some (x6, M5)))) else (
  some ((-2 : Int32), M1)))
set_option maxHeartbeats 4000000 in
set_option maxRecDepth 100000 in
theorem tX10_wearing {ad : Nat → Nat} {X : sg_X} {N : Nat} {r : Int32 × sg_M} (C : sg_C Yc ad X cX10_wearing RX10 1 4) (E : sg_eI Yc ad X cX10_wearing .int r) : ∀ (a0_ : Nat) (M : sg_M), sg_K Yc a0_ 10 → fX10_wearing N a0_ M = some r → sg_T Yc ad X 1 0 [(0, .ref (ad a0_))] [] M := by
  intro a0_ M hq0 h
  unfold fX10_wearing at h
  refine i_aload_n C dX10_wearing_0 0 rfl ?_
  refine s_vcI C [] vmX10_noGrid lkX10_179 rfl rfl (by decide) hq0 (by decide) rfl rfl (Nat.le_of_ble_eq_true rfl) dX10_wearing_1 (ctX10_noGrid C.inj hq0) h (fun x2 M1 h => ?_)
  refine s_if_eq C 10 (by decide) dX10_wearing_4 h (fun _ h => ?_) (fun _ h => ?_)
  · refine i_aload_n C dX10_wearing_10 0 rfl ?_
    refine s_vcR C [] vmX10_now lkX10_139 rfl rfl (by decide) hq0 (by decide) rfl rfl (Nat.le_of_ble_eq_true rfl) dX10_wearing_11 (ctX10_now C.inj hq0) h (fun x4 M3 hfx4 h => ?_)
    refine i_aload_n C dX10_wearing_14 0 rfl ?_
    refine gf10_19 C hq0 dX10_wearing_15 ?_
    refine i_aload_n C dX10_wearing_18 0 rfl ?_
    refine gf10_19 C hq0 dX10_wearing_19 ?_
    refine gf10_157 C (ky10_1 hq0) dX10_wearing_22 ?_
    refine s_vcI C [_, _] vmX1_wearBits lkX10_254 rfl rfl (by decide) (krX10_now hq0 hfx4) (by decide) rfl rfl (Nat.le_of_ble_eq_true rfl) dX10_wearing_25 (ctX1_wearBits C.inj (krX10_now hq0 hfx4) (ky10_1 hq0) (ky4_11 (ky10_1 hq0))) h (fun x6 M5 h => ?_)
    exact s_iret C E dX10_wearing_28 h
  · refine s_bipush C (-2 : Int32) dX10_wearing_7 (by decide) ?_
    exact s_iret C E dX10_wearing_9 h
theorem ctX10_wearing {ad : Nat → Nat} {V : sg_V} {N : Nat} (hi : sg_inj Yc ad) {a0_ : Nat} {M : sg_M} (hq0 : sg_K Yc a0_ 10) : ∀ res, fX10_wearing N a0_ M = some res → sg_cI Yc ad V yX10_wearing cX10_wearing 1 .int 4 [.ref (ad a0_)] M res := fun res h => sg_bodyI (by decide) hi (Nat.le_of_ble_eq_true rfl) (fun X hX C E => by subst hX; exact tX10_wearing C E _  _ hq0 h)
def fX10_aged (N : Nat) (a0_ : Nat) (x1_ : Int32) (x2_ : Int32) (M : sg_M) : Option (Int32 × sg_M) :=
  sg_b (fX10_hasStrap N a0_ x2_ M) (fun (x2 : Int32) (M1 : sg_M) =>
  if x2 = 0 then (
  some ((-2 : Int32), M1)) else (
  if x1_ < 0 then (
  some ((-2 : Int32), M1)) else (
  if x1_ ≤ (100 : Int32) then (
  sg_bv (fX9_look N (Yc.2.2.2 a0_ 8) (Yc.2.2.2 a0_ 1) M1) (fun M3 : sg_M =>
  if sg_ib (if (M3.1 (Yc.2.2.2 a0_ 8) 1) < x1_ then (M3.1 (Yc.2.2.2 a0_ 8) 1) else x1_) (Yc.2.2.1 (Yc.2.2.2 (Yc.2.2.2 a0_ 8) 3)) = true then
  if sg_ib x2_ (Yc.2.2.1 (Yc.2.2.2 (Yc.2.2.2 (Yc.2.2.2 a0_ 8) 3) ((if (M3.1 (Yc.2.2.2 a0_ 8) 1) < x1_ then (M3.1 (Yc.2.2.2 a0_ 8) 1) else x1_)).toNatClampNeg)) = true then
  some ((M3.1 (Yc.2.2.2 (Yc.2.2.2 (Yc.2.2.2 a0_ 8) 3) ((if (M3.1 (Yc.2.2.2 a0_ 8) 1) < x1_ then (M3.1 (Yc.2.2.2 a0_ 8) 1) else x1_)).toNatClampNeg) (x2_).toNatClampNeg), M3)
  else none
  else none)) else (
  some ((-2 : Int32), M1)))))
set_option maxHeartbeats 4000000 in
set_option maxRecDepth 100000 in
theorem tX10_aged {ad : Nat → Nat} {X : sg_X} {N : Nat} {r : Int32 × sg_M} (C : sg_C Yc ad X cX10_aged RX10 3 4) (E : sg_eI Yc ad X cX10_aged .int r) : ∀ (a0_ : Nat) (x1_ : Int32) (x2_ : Int32) (M : sg_M), sg_K Yc a0_ 10 → fX10_aged N a0_ x1_ x2_ M = some r → sg_T Yc ad X 3 0 [(0, .ref (ad a0_)), (1, .int x1_), (2, .int x2_)] [] M := by
  intro a0_ x1_ x2_ M hq0 h
  unfold fX10_aged at h
  refine i_aload_n C dX10_aged_0 0 rfl ?_
  refine i_iload_n C dX10_aged_1 2 rfl ?_
  refine s_vcI C [_] vmX10_hasStrap lkX10_146 rfl rfl (by decide) hq0 (by decide) rfl rfl (Nat.le_of_ble_eq_true rfl) dX10_aged_2 (ctX10_hasStrap C.inj hq0) h (fun x2 M1 h => ?_)
  refine s_if_eq C 18 (by decide) dX10_aged_5 h (fun _ h => ?_) (fun _ h => ?_)
  · refine s_bipush C (-2 : Int32) dX10_aged_18 (by decide) ?_
    exact s_iret C E dX10_aged_20 h
  · refine i_iload_n C dX10_aged_8 1 rfl ?_
    refine s_if_lt C 18 (by decide) dX10_aged_9 h (fun _ h => ?_) (fun _ h => ?_)
    · refine s_bipush C (-2 : Int32) dX10_aged_18 (by decide) ?_
      exact s_iret C E dX10_aged_20 h
    · refine i_iload_n C dX10_aged_12 1 rfl ?_
      refine s_bipush C (100 : Int32) dX10_aged_13 (by decide) ?_
      refine s_icmp_le C 21 (by decide) dX10_aged_15 h (fun _ h => ?_) (fun _ h => ?_)
      · refine i_aload_n C dX10_aged_21 0 rfl ?_
        refine gf10_55 C hq0 dX10_aged_22 ?_
        refine i_aload_n C dX10_aged_25 0 rfl ?_
        refine gf10_19 C hq0 dX10_aged_26 ?_
        refine s_vcV C [_] vmX9_look lkX10_258 rfl rfl (by decide) (ky10_8 hq0) (by decide) rfl rfl (Nat.le_of_ble_eq_true rfl) dX10_aged_29 (ctX9_look C.inj (ky10_8 hq0) (ky10_1 hq0)) h (fun M3 h => ?_)
        refine i_aload_n C dX10_aged_32 0 rfl ?_
        refine gf10_55 C hq0 dX10_aged_33 ?_
        refine gf10_261 C (ky10_8 hq0) dX10_aged_36 ?_
        refine i_iload_n C dX10_aged_39 1 rfl ?_
        refine i_aload_n C dX10_aged_40 0 rfl ?_
        refine gf10_55 C hq0 dX10_aged_41 ?_
        refine gf10_264 C (ky10_8 hq0) dX10_aged_44 ?_
        refine s_mmin C (by decide) mmin_X10_267 mmin_1 math_2 mmin_3 (Nat.le_of_ble_eq_true rfl) dX10_aged_47 ?_
        have hb4 := (sg_if h).1
        refine s_aaldI C (ky9_3 (ky10_8 hq0)) dX10_aged_50 h (fun h => ?_)
        refine i_iload_n C dX10_aged_51 2 rfl ?_
        refine s_iald C (ke18 (ky9_3 (ky10_8 hq0)) hb4) dX10_aged_52 h (fun h => ?_)
        exact s_iret C E dX10_aged_53 h
      · refine s_bipush C (-2 : Int32) dX10_aged_18 (by decide) ?_
        exact s_iret C E dX10_aged_20 h
theorem ctX10_aged {ad : Nat → Nat} {V : sg_V} {N : Nat} (hi : sg_inj Yc ad) {a0_ : Nat} {x1_ : Int32} {x2_ : Int32} {M : sg_M} (hq0 : sg_K Yc a0_ 10) : ∀ res, fX10_aged N a0_ x1_ x2_ M = some res → sg_cI Yc ad V yX10_aged cX10_aged 3 .int 4 [.ref (ad a0_), .int x1_, .int x2_] M res := fun res h => sg_bodyI (by decide) hi (Nat.le_of_ble_eq_true rfl) (fun X hX C E => by subst hX; exact tX10_aged C E _ _ _  _ hq0 h)
def fX10_lasts (N : Nat) (a0_ : Nat) (M : sg_M) : Option (Int32 × sg_M) :=
  sg_b (fX10_noGrid N a0_ M) (fun (x2 : Int32) (M1 : sg_M) =>
  if x2 = 0 then (
  sg_bv (fX9_look N (Yc.2.2.2 a0_ 8) (Yc.2.2.2 a0_ 1) M1) (fun M3 : sg_M =>
  some ((M3.1 (Yc.2.2.2 a0_ 8) 2), M3))) else (
  some ((-2 : Int32), M1)))
set_option maxHeartbeats 4000000 in
set_option maxRecDepth 100000 in
theorem tX10_lasts {ad : Nat → Nat} {X : sg_X} {N : Nat} {r : Int32 × sg_M} (C : sg_C Yc ad X cX10_lasts RX10 1 4) (E : sg_eI Yc ad X cX10_lasts .int r) : ∀ (a0_ : Nat) (M : sg_M), sg_K Yc a0_ 10 → fX10_lasts N a0_ M = some r → sg_T Yc ad X 1 0 [(0, .ref (ad a0_))] [] M := by
  intro a0_ M hq0 h
  unfold fX10_lasts at h
  refine i_aload_n C dX10_lasts_0 0 rfl ?_
  refine s_vcI C [] vmX10_noGrid lkX10_179 rfl rfl (by decide) hq0 (by decide) rfl rfl (Nat.le_of_ble_eq_true rfl) dX10_lasts_1 (ctX10_noGrid C.inj hq0) h (fun x2 M1 h => ?_)
  refine s_if_eq C 10 (by decide) dX10_lasts_4 h (fun _ h => ?_) (fun _ h => ?_)
  · refine i_aload_n C dX10_lasts_10 0 rfl ?_
    refine gf10_55 C hq0 dX10_lasts_11 ?_
    refine i_aload_n C dX10_lasts_14 0 rfl ?_
    refine gf10_19 C hq0 dX10_lasts_15 ?_
    refine s_vcV C [_] vmX9_look lkX10_258 rfl rfl (by decide) (ky10_8 hq0) (by decide) rfl rfl (Nat.le_of_ble_eq_true rfl) dX10_lasts_18 (ctX9_look C.inj (ky10_8 hq0) (ky10_1 hq0)) h (fun M3 h => ?_)
    refine i_aload_n C dX10_lasts_21 0 rfl ?_
    refine gf10_55 C hq0 dX10_lasts_22 ?_
    refine gf10_272 C (ky10_8 hq0) dX10_lasts_25 ?_
    exact s_iret C E dX10_lasts_28 h
  · refine s_bipush C (-2 : Int32) dX10_lasts_7 (by decide) ?_
    exact s_iret C E dX10_lasts_9 h
theorem ctX10_lasts {ad : Nat → Nat} {V : sg_V} {N : Nat} (hi : sg_inj Yc ad) {a0_ : Nat} {M : sg_M} (hq0 : sg_K Yc a0_ 10) : ∀ res, fX10_lasts N a0_ M = some res → sg_cI Yc ad V yX10_lasts cX10_lasts 1 .int 4 [.ref (ad a0_)] M res := fun res h => sg_bodyI (by decide) hi (Nat.le_of_ble_eq_true rfl) (fun X hX C E => by subst hX; exact tX10_lasts C E _  _ hq0 h)
def bX10_worn_24 (N : Nat)  (k24 : (Nat × Int32 × Int32) → sg_M → Option (Int32 × sg_M)) (s : Nat × Int32 × Int32) (M : sg_M) : Option (Int32 × sg_M) :=
  if (M.1 (Yc.2.2.2 s.1 8) 1) < s.2.2 then (
  some ((-1 : Int32), M)) else (
  if sg_ib s.2.2 (Yc.2.2.1 (Yc.2.2.2 (Yc.2.2.2 s.1 8) 3)) = true then
  if sg_ib s.2.1 (Yc.2.2.1 (Yc.2.2.2 (Yc.2.2.2 (Yc.2.2.2 s.1 8) 3) (s.2.2).toNatClampNeg)) = true then
  if (M.1 (Yc.2.2.2 (Yc.2.2.2 (Yc.2.2.2 s.1 8) 3) (s.2.2).toNatClampNeg) (s.2.1).toNatClampNeg) = 0 then (
  some (s.2.2, M)) else (
  sg_m (s.2.2 + (1 : Int32)) (fun x2 : Int32 =>
  k24 (s.1, s.2.1, x2) M))
  else none
  else none)
def gX10_worn_24 (N : Nat)  : (Nat × Int32 × Int32) → sg_M → Option (Int32 × sg_M) := sg_lp (bX10_worn_24 N ) N
set_option maxHeartbeats 4000000 in
set_option maxRecDepth 100000 in
theorem tX10_worn_24 {ad : Nat → Nat} {X : sg_X} {N : Nat} {r : Int32 × sg_M} (C : sg_C Yc ad X cX10_worn RX10 3 4) (E : sg_eI Yc ad X cX10_worn .int r)  : ∀ (s : Nat × Int32 × Int32) (M : sg_M), gX10_worn_24 N s M = some r → sg_K Yc s.1 10 → sg_T Yc ad X 3 24 [(0, .ref (ad (s.1))), (1, .int (s.2.1)), (2, .int (s.2.2))] [] M := by
  have key : ∀ n : Nat, ∀ (s : Nat × Int32 × Int32) (M : sg_M), sg_lp (bX10_worn_24 N) n s M = some r → sg_K Yc s.1 10 → sg_T Yc ad X 3 24 [(0, .ref (ad (s.1))), (1, .int (s.2.1)), (2, .int (s.2.2))] [] M := by
    intro n
    induction n with
    | zero => intro s M h; cases h
    | succ n ih =>
      intro s M h hq0
      have h : bX10_worn_24 N (sg_lp (bX10_worn_24 N) n) s M = some r := h
      generalize sg_lp (bX10_worn_24 N) n = k24 at h ih
      have hk24 := ih
      unfold bX10_worn_24 at h
      refine i_iload_n C dX10_worn_24 2 rfl ?_
      refine i_aload_n C dX10_worn_25 0 rfl ?_
      refine gf10_55 C hq0 dX10_worn_26 ?_
      refine gf10_264 C (ky10_8 hq0) dX10_worn_29 ?_
      refine s_icmp_gt C 57 (by decide) dX10_worn_32 h (fun _ h => ?_) (fun _ h => ?_)
      · refine s_iconst C (-1 : Int32) dX10_worn_57 (by decide) ?_
        exact s_iret C E dX10_worn_58 h
      · refine i_aload_n C dX10_worn_35 0 rfl ?_
        refine gf10_55 C hq0 dX10_worn_36 ?_
        refine gf10_261 C (ky10_8 hq0) dX10_worn_39 ?_
        refine i_iload_n C dX10_worn_42 2 rfl ?_
        have hb1 := (sg_if h).1
        refine s_aaldI C (ky9_3 (ky10_8 hq0)) dX10_worn_43 h (fun h => ?_)
        refine i_iload_n C dX10_worn_44 1 rfl ?_
        refine s_iald C (ke18 (ky9_3 (ky10_8 hq0)) hb1) dX10_worn_45 h (fun h => ?_)
        refine s_if_ne C 51 (by decide) dX10_worn_46 h (fun _ h => ?_) (fun _ h => ?_)
        · refine i_iload_n C dX10_worn_49 2 rfl ?_
          exact s_iret C E dX10_worn_50 h
        · refine z_iinc (n := 1) (c9 := (1 : Int32)) (by decide) h (fun x2 hx h => ?_)
          refine i_iinc (lv9 := [(2, _), (0, _), (1, _)]) C dX10_worn_51 2 rfl hx (by decide) rfl ?_
          refine s_goto C 24 (by decide) dX10_worn_54 ?_
          exact sg_T.to (hk24 _ _ h hq0) [1, 2, 0] rfl
  exact key N
def fX10_worn (N : Nat) (a0_ : Nat) (x1_ : Int32) (M : sg_M) : Option (Int32 × sg_M) :=
  sg_b (fX10_hasStrap N a0_ x1_ M) (fun (x4 : Int32) (M3 : sg_M) =>
  if x4 = 0 then (
  some ((-2 : Int32), M3)) else (
  sg_bv (fX9_look N (Yc.2.2.2 a0_ 8) (Yc.2.2.2 a0_ 1) M3) (fun M5 : sg_M =>
  sg_m (0 : Int32) (fun x6 : Int32 =>
  gX10_worn_24 N (a0_, x1_, x6) M5))))
set_option maxHeartbeats 4000000 in
set_option maxRecDepth 100000 in
theorem tX10_worn {ad : Nat → Nat} {X : sg_X} {N : Nat} {r : Int32 × sg_M} (C : sg_C Yc ad X cX10_worn RX10 3 4) (E : sg_eI Yc ad X cX10_worn .int r) : ∀ (a0_ : Nat) (x1_ : Int32) (M : sg_M), sg_K Yc a0_ 10 → fX10_worn N a0_ x1_ M = some r → sg_T Yc ad X 3 0 [(0, .ref (ad a0_)), (1, .int x1_)] [] M := by
  intro a0_ x1_ M hq0 h
  unfold fX10_worn at h
  refine i_aload_n C dX10_worn_0 0 rfl ?_
  refine i_iload_n C dX10_worn_1 1 rfl ?_
  refine s_vcI C [_] vmX10_hasStrap lkX10_146 rfl rfl (by decide) hq0 (by decide) rfl rfl (Nat.le_of_ble_eq_true rfl) dX10_worn_2 (ctX10_hasStrap C.inj hq0) h (fun x4 M3 h => ?_)
  refine s_if_ne C 11 (by decide) dX10_worn_5 h (fun _ h => ?_) (fun _ h => ?_)
  · refine s_bipush C (-2 : Int32) dX10_worn_8 (by decide) ?_
    exact s_iret C E dX10_worn_10 h
  · refine i_aload_n C dX10_worn_11 0 rfl ?_
    refine gf10_55 C hq0 dX10_worn_12 ?_
    refine i_aload_n C dX10_worn_15 0 rfl ?_
    refine gf10_19 C hq0 dX10_worn_16 ?_
    refine s_vcV C [_] vmX9_look lkX10_258 rfl rfl (by decide) (ky10_8 hq0) (by decide) rfl rfl (Nat.le_of_ble_eq_true rfl) dX10_worn_19 (ctX9_look C.inj (ky10_8 hq0) (ky10_1 hq0)) h (fun M5 h => ?_)
    refine s_iconst C (0 : Int32) dX10_worn_22 (by decide) ?_
    refine z_gi h (fun x6 h => ?_)
    refine i_istore_n (lv9 := [(2, _), (0, _), (1, _)]) C 2 dX10_worn_23 rfl (by decide) rfl ?_
    exact sg_T.to (tX10_worn_24 C E _ _ h hq0) [1, 2, 0] rfl
theorem ctX10_worn {ad : Nat → Nat} {V : sg_V} {N : Nat} (hi : sg_inj Yc ad) {a0_ : Nat} {x1_ : Int32} {M : sg_M} (hq0 : sg_K Yc a0_ 10) : ∀ res, fX10_worn N a0_ x1_ M = some res → sg_cI Yc ad V yX10_worn cX10_worn 3 .int 4 [.ref (ad a0_), .int x1_] M res := fun res h => sg_bodyI (by decide) hi (Nat.le_of_ble_eq_true rfl) (fun X hX C E => by subst hX; exact tX10_worn C E _ _  _ hq0 h)
def fX10_calms (N : Nat) (a0_ : Nat) (M : sg_M) : Option (Int32 × sg_M) :=
  sg_b (fX10_noGrid N a0_ M) (fun (x2 : Int32) (M1 : sg_M) =>
  if x2 = 0 then (
  sg_bv (fX9_look N (Yc.2.2.2 a0_ 8) (Yc.2.2.2 a0_ 1) M1) (fun M3 : sg_M =>
  some ((M3.1 (Yc.2.2.2 a0_ 8) 1), M3))) else (
  some ((-2 : Int32), M1)))
set_option maxHeartbeats 4000000 in
set_option maxRecDepth 100000 in
theorem tX10_calms {ad : Nat → Nat} {X : sg_X} {N : Nat} {r : Int32 × sg_M} (C : sg_C Yc ad X cX10_calms RX10 1 4) (E : sg_eI Yc ad X cX10_calms .int r) : ∀ (a0_ : Nat) (M : sg_M), sg_K Yc a0_ 10 → fX10_calms N a0_ M = some r → sg_T Yc ad X 1 0 [(0, .ref (ad a0_))] [] M := by
  intro a0_ M hq0 h
  unfold fX10_calms at h
  refine i_aload_n C dX10_calms_0 0 rfl ?_
  refine s_vcI C [] vmX10_noGrid lkX10_179 rfl rfl (by decide) hq0 (by decide) rfl rfl (Nat.le_of_ble_eq_true rfl) dX10_calms_1 (ctX10_noGrid C.inj hq0) h (fun x2 M1 h => ?_)
  refine s_if_eq C 10 (by decide) dX10_calms_4 h (fun _ h => ?_) (fun _ h => ?_)
  · refine i_aload_n C dX10_calms_10 0 rfl ?_
    refine gf10_55 C hq0 dX10_calms_11 ?_
    refine i_aload_n C dX10_calms_14 0 rfl ?_
    refine gf10_19 C hq0 dX10_calms_15 ?_
    refine s_vcV C [_] vmX9_look lkX10_258 rfl rfl (by decide) (ky10_8 hq0) (by decide) rfl rfl (Nat.le_of_ble_eq_true rfl) dX10_calms_18 (ctX9_look C.inj (ky10_8 hq0) (ky10_1 hq0)) h (fun M3 h => ?_)
    refine i_aload_n C dX10_calms_21 0 rfl ?_
    refine gf10_55 C hq0 dX10_calms_22 ?_
    refine gf10_264 C (ky10_8 hq0) dX10_calms_25 ?_
    exact s_iret C E dX10_calms_28 h
  · refine s_bipush C (-2 : Int32) dX10_calms_7 (by decide) ?_
    exact s_iret C E dX10_calms_9 h
theorem ctX10_calms {ad : Nat → Nat} {V : sg_V} {N : Nat} (hi : sg_inj Yc ad) {a0_ : Nat} {M : sg_M} (hq0 : sg_K Yc a0_ 10) : ∀ res, fX10_calms N a0_ M = some res → sg_cI Yc ad V yX10_calms cX10_calms 1 .int 4 [.ref (ad a0_)] M res := fun res h => sg_bodyI (by decide) hi (Nat.le_of_ble_eq_true rfl) (fun X hX C E => by subst hX; exact tX10_calms C E _  _ hq0 h)
def fX10_pad (N : Nat) (a0_ : Nat) (x1_ : Int32) (M : sg_M) : Option (Int32 × sg_M) :=
  sg_b (fX10_noGrid N a0_ M) (fun (x2 : Int32) (M1 : sg_M) =>
  if x2 = 0 then (
  if 0 ≤ x1_ then (
  sg_bv (fX5_lookGreedy N (Yc.2.2.2 a0_ 9) (Yc.2.2.2 a0_ 1) M1) (fun M3 : sg_M =>
  if (M3.1 (Yc.2.2.2 a0_ 9) 0) ≤ x1_ then (
  some ((-1 : Int32), M3)) else (
  if sg_ib x1_ (Yc.2.2.1 (Yc.2.2.2 (Yc.2.2.2 a0_ 9) 1)) = true then
  some ((M3.1 (Yc.2.2.2 (Yc.2.2.2 a0_ 9) 1) (x1_).toNatClampNeg), M3)
  else none))) else (
  some ((-2 : Int32), M1))) else (
  some ((-2 : Int32), M1)))
set_option maxHeartbeats 4000000 in
set_option maxRecDepth 100000 in
theorem tX10_pad {ad : Nat → Nat} {X : sg_X} {N : Nat} {r : Int32 × sg_M} (C : sg_C Yc ad X cX10_pad RX10 2 5) (E : sg_eI Yc ad X cX10_pad .int r) : ∀ (a0_ : Nat) (x1_ : Int32) (M : sg_M), sg_K Yc a0_ 10 → fX10_pad N a0_ x1_ M = some r → sg_T Yc ad X 2 0 [(0, .ref (ad a0_)), (1, .int x1_)] [] M := by
  intro a0_ x1_ M hq0 h
  unfold fX10_pad at h
  refine i_aload_n C dX10_pad_0 0 rfl ?_
  refine s_vcI C [] vmX10_noGrid lkX10_179 rfl rfl (by decide) hq0 (by decide) rfl rfl (Nat.le_of_ble_eq_true rfl) dX10_pad_1 (ctX10_noGrid C.inj hq0) h (fun x2 M1 h => ?_)
  refine s_if_ne C 11 (by decide) dX10_pad_4 h (fun _ h => ?_) (fun _ h => ?_)
  · refine i_iload_n C dX10_pad_7 1 rfl ?_
    refine s_if_ge C 14 (by decide) dX10_pad_8 h (fun _ h => ?_) (fun _ h => ?_)
    · refine i_aload_n C dX10_pad_14 0 rfl ?_
      refine gf10_62 C hq0 dX10_pad_15 ?_
      refine i_aload_n C dX10_pad_18 0 rfl ?_
      refine gf10_19 C hq0 dX10_pad_19 ?_
      refine s_vcV C [_] vmX5_lookGreedy lkX10_275 rfl rfl (by decide) (ky10_9 hq0) (by decide) rfl rfl (Nat.le_of_ble_eq_true rfl) dX10_pad_22 (ctX5_lookGreedy C.inj (ky10_9 hq0) (ky10_1 hq0)) h (fun M3 h => ?_)
      refine i_iload_n C dX10_pad_25 1 rfl ?_
      refine i_aload_n C dX10_pad_26 0 rfl ?_
      refine gf10_62 C hq0 dX10_pad_27 ?_
      refine gf10_278 C (ky10_9 hq0) dX10_pad_30 ?_
      refine s_icmp_ge C 48 (by decide) dX10_pad_33 h (fun _ h => ?_) (fun _ h => ?_)
      · refine s_iconst C (-1 : Int32) dX10_pad_48 (by decide) ?_
        exact s_iret C E dX10_pad_49 h
      · refine i_aload_n C dX10_pad_36 0 rfl ?_
        refine gf10_62 C hq0 dX10_pad_37 ?_
        refine gf10_281 C (ky10_9 hq0) dX10_pad_40 ?_
        refine i_iload_n C dX10_pad_43 1 rfl ?_
        refine s_iald C (ky5_1 (ky10_9 hq0)) dX10_pad_44 h (fun h => ?_)
        refine s_goto C 49 (by decide) dX10_pad_45 ?_
        exact s_iret C E dX10_pad_49 h
    · refine s_bipush C (-2 : Int32) dX10_pad_11 (by decide) ?_
      exact s_iret C E dX10_pad_13 h
  · refine s_bipush C (-2 : Int32) dX10_pad_11 (by decide) ?_
    exact s_iret C E dX10_pad_13 h
theorem ctX10_pad {ad : Nat → Nat} {V : sg_V} {N : Nat} (hi : sg_inj Yc ad) {a0_ : Nat} {x1_ : Int32} {M : sg_M} (hq0 : sg_K Yc a0_ 10) : ∀ res, fX10_pad N a0_ x1_ M = some res → sg_cI Yc ad V yX10_pad cX10_pad 2 .int 5 [.ref (ad a0_), .int x1_] M res := fun res h => sg_bodyI (by decide) hi (Nat.le_of_ble_eq_true rfl) (fun X hX C E => by subst hX; exact tX10_pad C E _ _  _ hq0 h)
def fX10_pads (N : Nat) (a0_ : Nat) (x1_ : Int32) (M : sg_M) : Option (Int32 × sg_M) :=
  sg_b (fX10_noGrid N a0_ M) (fun (x2 : Int32) (M1 : sg_M) =>
  if x2 = 0 then (
  if x1_ < 0 then (
  some ((-2 : Int32), M1)) else (
  if x1_ ≤ (9 : Int32) then (
  sg_b (fX5_bestSet N (Yc.2.2.2 a0_ 9) (Yc.2.2.2 a0_ 1) x1_ M1) (fun (x4 : Int32) (M3 : sg_M) =>
  some (x4, M3))) else (
  some ((-2 : Int32), M1)))) else (
  some ((-2 : Int32), M1)))
set_option maxHeartbeats 4000000 in
set_option maxRecDepth 100000 in
theorem tX10_pads {ad : Nat → Nat} {X : sg_X} {N : Nat} {r : Int32 × sg_M} (C : sg_C Yc ad X cX10_pads RX10 2 5) (E : sg_eI Yc ad X cX10_pads .int r) : ∀ (a0_ : Nat) (x1_ : Int32) (M : sg_M), sg_K Yc a0_ 10 → fX10_pads N a0_ x1_ M = some r → sg_T Yc ad X 2 0 [(0, .ref (ad a0_)), (1, .int x1_)] [] M := by
  intro a0_ x1_ M hq0 h
  unfold fX10_pads at h
  refine i_aload_n C dX10_pads_0 0 rfl ?_
  refine s_vcI C [] vmX10_noGrid lkX10_179 rfl rfl (by decide) hq0 (by decide) rfl rfl (Nat.le_of_ble_eq_true rfl) dX10_pads_1 (ctX10_noGrid C.inj hq0) h (fun x2 M1 h => ?_)
  refine s_if_ne C 17 (by decide) dX10_pads_4 h (fun _ h => ?_) (fun _ h => ?_)
  · refine i_iload_n C dX10_pads_7 1 rfl ?_
    refine s_if_lt C 17 (by decide) dX10_pads_8 h (fun _ h => ?_) (fun _ h => ?_)
    · refine s_bipush C (-2 : Int32) dX10_pads_17 (by decide) ?_
      exact s_iret C E dX10_pads_19 h
    · refine i_iload_n C dX10_pads_11 1 rfl ?_
      refine s_bipush C (9 : Int32) dX10_pads_12 (by decide) ?_
      refine s_icmp_le C 20 (by decide) dX10_pads_14 h (fun _ h => ?_) (fun _ h => ?_)
      · refine i_aload_n C dX10_pads_20 0 rfl ?_
        refine gf10_62 C hq0 dX10_pads_21 ?_
        refine i_aload_n C dX10_pads_24 0 rfl ?_
        refine gf10_19 C hq0 dX10_pads_25 ?_
        refine i_iload_n C dX10_pads_28 1 rfl ?_
        refine s_vcI C [_, _] vmX5_bestSet lkX10_284 rfl rfl (by decide) (ky10_9 hq0) (by decide) rfl rfl (Nat.le_of_ble_eq_true rfl) dX10_pads_29 (ctX5_bestSet C.inj (ky10_9 hq0) (ky10_1 hq0)) h (fun x4 M3 h => ?_)
        exact s_iret C E dX10_pads_32 h
      · refine s_bipush C (-2 : Int32) dX10_pads_17 (by decide) ?_
        exact s_iret C E dX10_pads_19 h
  · refine s_bipush C (-2 : Int32) dX10_pads_17 (by decide) ?_
    exact s_iret C E dX10_pads_19 h
theorem ctX10_pads {ad : Nat → Nat} {V : sg_V} {N : Nat} (hi : sg_inj Yc ad) {a0_ : Nat} {x1_ : Int32} {M : sg_M} (hq0 : sg_K Yc a0_ 10) : ∀ res, fX10_pads N a0_ x1_ M = some res → sg_cI Yc ad V yX10_pads cX10_pads 2 .int 5 [.ref (ad a0_), .int x1_] M res := fun res h => sg_bodyI (by decide) hi (Nat.le_of_ble_eq_true rfl) (fun X hX C E => by subst hX; exact tX10_pads C E _ _  _ hq0 h)
def fX10_padded (N : Nat) (a0_ : Nat) (x1_ : Int32) (x2_ : Int32) (M : sg_M) : Option (Int64 × sg_M) :=
  sg_b (fX10_noGrid N a0_ M) (fun (x2 : Int32) (M1 : sg_M) =>
  if x2 = 0 then (
  if x1_ < 0 then (
  some ((-2 : Int64), M1)) else (
  if (9 : Int32) < x1_ then (
  some ((-2 : Int64), M1)) else (
  sg_b (fX10_isPart N x2_ M1) (fun (x4 : Int32) (M3 : sg_M) =>
  if x4 = 0 then (
  some ((-2 : Int64), M3)) else (
  sg_b (fX5_bestSet N (Yc.2.2.2 a0_ 9) (Yc.2.2.2 a0_ 1) x1_ M3) (fun (x6 : Int32) (M5 : sg_M) =>
  if x6 = (-1 : Int32) then (
  some ((-1 : Int64), M5)) else (
  if sg_ib x1_ (Yc.2.2.1 (Yc.2.2.2 (Yc.2.2.2 a0_ 9) 2)) = true then
  sg_b (fX10_partOf N (M5.2 (Yc.2.2.2 (Yc.2.2.2 (Yc.2.2.2 a0_ 9) 2) (x1_).toNatClampNeg) 1) (M5.2 (Yc.2.2.2 (Yc.2.2.2 (Yc.2.2.2 a0_ 9) 2) (x1_).toNatClampNeg) 2) x2_ M5) (fun (x9 : Int64) (M8 : sg_M) =>
  some (x9, M8))
  else none))))))) else (
  some ((-2 : Int64), M1)))
set_option maxHeartbeats 4000000 in
set_option maxRecDepth 100000 in
theorem tX10_padded {ad : Nat → Nat} {X : sg_X} {N : Nat} {r : Int64 × sg_M} (C : sg_C Yc ad X cX10_padded RX10 4 5) (E : sg_eL Yc ad X cX10_padded r) : ∀ (a0_ : Nat) (x1_ : Int32) (x2_ : Int32) (M : sg_M), sg_K Yc a0_ 10 → fX10_padded N a0_ x1_ x2_ M = some r → sg_T Yc ad X 4 0 [(0, .ref (ad a0_)), (1, .int x1_), (2, .int x2_)] [] M := by
  intro a0_ x1_ x2_ M hq0 h
  unfold fX10_padded at h
  refine i_aload_n C dX10_padded_0 0 rfl ?_
  refine s_vcI C [] vmX10_noGrid lkX10_179 rfl rfl (by decide) hq0 (by decide) rfl rfl (Nat.le_of_ble_eq_true rfl) dX10_padded_1 (ctX10_noGrid C.inj hq0) h (fun x2 M1 h => ?_)
  refine s_if_ne C 24 (by decide) dX10_padded_4 h (fun _ h => ?_) (fun _ h => ?_)
  · refine i_iload_n C dX10_padded_7 1 rfl ?_
    refine s_if_lt C 24 (by decide) dX10_padded_8 h (fun _ h => ?_) (fun _ h => ?_)
    · refine s_ldc2 C (-2 : Int64) kl_X10_188 dX10_padded_24 ?_
      exact s_lret C E dX10_padded_27 h
    · refine i_iload_n C dX10_padded_11 1 rfl ?_
      refine s_bipush C (9 : Int32) dX10_padded_12 (by decide) ?_
      refine s_icmp_gt C 24 (by decide) dX10_padded_14 h (fun _ h => ?_) (fun _ h => ?_)
      · refine s_ldc2 C (-2 : Int64) kl_X10_188 dX10_padded_24 ?_
        exact s_lret C E dX10_padded_27 h
      · refine i_iload_n C dX10_padded_17 2 rfl ?_
        refine s_scI C [_] smX10_isPart lkX10_185 (by decide) rfl rfl (Nat.le_of_ble_eq_true rfl) dX10_padded_18 (ctX10_isPart C.inj ) h (fun x4 M3 h => ?_)
        refine s_if_ne C 28 (by decide) dX10_padded_21 h (fun _ h => ?_) (fun _ h => ?_)
        · refine s_ldc2 C (-2 : Int64) kl_X10_188 dX10_padded_24 ?_
          exact s_lret C E dX10_padded_27 h
        · refine i_aload_n C dX10_padded_28 0 rfl ?_
          refine gf10_62 C hq0 dX10_padded_29 ?_
          refine i_aload_n C dX10_padded_32 0 rfl ?_
          refine gf10_19 C hq0 dX10_padded_33 ?_
          refine i_iload_n C dX10_padded_36 1 rfl ?_
          refine s_vcI C [_, _] vmX5_bestSet lkX10_284 rfl rfl (by decide) (ky10_9 hq0) (by decide) rfl rfl (Nat.le_of_ble_eq_true rfl) dX10_padded_37 (ctX5_bestSet C.inj (ky10_9 hq0) (ky10_1 hq0)) h (fun x6 M5 h => ?_)
          refine s_iconst C (-1 : Int32) dX10_padded_40 (by decide) ?_
          refine s_icmp_ne C 48 (by decide) dX10_padded_41 h (fun _ h => ?_) (fun _ h => ?_)
          · refine s_ldc2 C (-1 : Int64) kl_X10_190 dX10_padded_44 ?_
            exact s_lret C E dX10_padded_47 h
          · refine i_aload_n C dX10_padded_48 0 rfl ?_
            refine gf10_62 C hq0 dX10_padded_49 ?_
            refine gf10_288 C (ky10_9 hq0) dX10_padded_52 ?_
            refine i_iload_n C dX10_padded_55 1 rfl ?_
            have hb7 := (sg_if h).1
            refine s_aaldP C (ky5_2 (ky10_9 hq0)) dX10_padded_56 h (fun h => ?_)
            refine i_astore_n (lv9 := [(3, _), (0, _), (1, _), (2, _)]) C 3 dX10_padded_57 rfl (by decide) rfl ?_
            refine i_aload_n C dX10_padded_58 0 rfl ?_
            refine gf10_292 C (ke17 (ky5_2 (ky10_9 hq0)) hb7) dX10_padded_59 ?_
            refine i_aload_n C dX10_padded_62 0 rfl ?_
            refine gf10_293 C (ke17 (ky5_2 (ky10_9 hq0)) hb7) dX10_padded_63 ?_
            refine i_iload_n C dX10_padded_66 3 rfl ?_
            refine s_scL C [_, _, _] smX10_partOf lkX10_200 (by decide) rfl rfl (Nat.le_of_ble_eq_true rfl) dX10_padded_67 (ctX10_partOf C.inj ) h (fun x9 M8 h => ?_)
            exact s_lret C E dX10_padded_70 h
  · refine s_ldc2 C (-2 : Int64) kl_X10_188 dX10_padded_24 ?_
    exact s_lret C E dX10_padded_27 h
theorem ctX10_padded {ad : Nat → Nat} {V : sg_V} {N : Nat} (hi : sg_inj Yc ad) {a0_ : Nat} {x1_ : Int32} {x2_ : Int32} {M : sg_M} (hq0 : sg_K Yc a0_ 10) : ∀ res, fX10_padded N a0_ x1_ x2_ M = some res → sg_cL Yc ad V yX10_padded cX10_padded 4 5 [.ref (ad a0_), .int x1_, .int x2_] M res := fun res h => sg_bodyL (by decide) hi (Nat.le_of_ble_eq_true rfl) (fun X hX C E => by subst hX; exact tX10_padded C E _ _ _  _ hq0 h)
def bX10_enough_12 (N : Nat)  (k12 : (Nat × Int32) → sg_M → Option (Int32 × sg_M)) (s : Nat × Int32) (M : sg_M) : Option (Int32 × sg_M) :=
  if (9 : Int32) < s.2 then (
  some ((-1 : Int32), M)) else (
  sg_b (fX5_bestSet N (Yc.2.2.2 s.1 9) (Yc.2.2.2 s.1 1) s.2 M) (fun (x2 : Int32) (M1 : sg_M) =>
  if x2 = (-1 : Int32) then (
  sg_m (s.2 + (1 : Int32)) (fun x3 : Int32 =>
  k12 (s.1, x3) M1)) else (
  if sg_ib s.2 (Yc.2.2.1 (Yc.2.2.2 (Yc.2.2.2 s.1 9) 2)) = true then
  sg_b (fX7_isWithin N (Yc.2.2.2 (Yc.2.2.2 (Yc.2.2.2 s.1 9) 2) (s.2).toNatClampNeg) (M1.1 (Yc.2.2.2 s.1 1) 2) M1) (fun (x6 : Int32) (M5 : sg_M) =>
  if x6 = 0 then (
  sg_m (s.2 + (1 : Int32)) (fun x7 : Int32 =>
  k12 (s.1, x7) M5)) else (
  some (s.2, M5)))
  else none)))
def gX10_enough_12 (N : Nat)  : (Nat × Int32) → sg_M → Option (Int32 × sg_M) := sg_lp (bX10_enough_12 N ) N
set_option maxHeartbeats 4000000 in
set_option maxRecDepth 100000 in
theorem tX10_enough_12 {ad : Nat → Nat} {X : sg_X} {N : Nat} {r : Int32 × sg_M} (C : sg_C Yc ad X cX10_enough RX10 2 5) (E : sg_eI Yc ad X cX10_enough .int r)  : ∀ (s : Nat × Int32) (M : sg_M), gX10_enough_12 N s M = some r → sg_K Yc s.1 10 → sg_T Yc ad X 2 12 [(0, .ref (ad (s.1))), (1, .int (s.2))] [] M := by
  have key : ∀ n : Nat, ∀ (s : Nat × Int32) (M : sg_M), sg_lp (bX10_enough_12 N) n s M = some r → sg_K Yc s.1 10 → sg_T Yc ad X 2 12 [(0, .ref (ad (s.1))), (1, .int (s.2))] [] M := by
    intro n
    induction n with
    | zero => intro s M h; cases h
    | succ n ih =>
      intro s M h hq0
      have h : bX10_enough_12 N (sg_lp (bX10_enough_12 N) n) s M = some r := h
      generalize sg_lp (bX10_enough_12 N) n = k12 at h ih
      have hk12 := ih
      unfold bX10_enough_12 at h
      refine i_iload_n C dX10_enough_12 1 rfl ?_
      refine s_bipush C (9 : Int32) dX10_enough_13 (by decide) ?_
      refine s_icmp_gt C 64 (by decide) dX10_enough_15 h (fun _ h => ?_) (fun _ h => ?_)
      · refine s_iconst C (-1 : Int32) dX10_enough_64 (by decide) ?_
        exact s_iret C E dX10_enough_65 h
      · refine i_aload_n C dX10_enough_18 0 rfl ?_
        refine gf10_62 C hq0 dX10_enough_19 ?_
        refine i_aload_n C dX10_enough_22 0 rfl ?_
        refine gf10_19 C hq0 dX10_enough_23 ?_
        refine i_iload_n C dX10_enough_26 1 rfl ?_
        refine s_vcI C [_, _] vmX5_bestSet lkX10_284 rfl rfl (by decide) (ky10_9 hq0) (by decide) rfl rfl (Nat.le_of_ble_eq_true rfl) dX10_enough_27 (ctX5_bestSet C.inj (ky10_9 hq0) (ky10_1 hq0)) h (fun x2 M1 h => ?_)
        refine s_iconst C (-1 : Int32) dX10_enough_30 (by decide) ?_
        refine s_icmp_eq C 58 (by decide) dX10_enough_31 h (fun _ h => ?_) (fun _ h => ?_)
        · refine z_iinc (n := 1) (c9 := (1 : Int32)) (by decide) h (fun x3 hx h => ?_)
          refine i_iinc (lv9 := [(1, _), (0, _)]) C dX10_enough_58 1 rfl hx (by decide) rfl ?_
          refine s_goto C 12 (by decide) dX10_enough_61 ?_
          exact sg_T.to (hk12 _ _ h hq0) [1, 0] rfl
        · refine i_aload_n C dX10_enough_34 0 rfl ?_
          refine gf10_62 C hq0 dX10_enough_35 ?_
          refine gf10_288 C (ky10_9 hq0) dX10_enough_38 ?_
          refine i_iload_n C dX10_enough_41 1 rfl ?_
          have hb4 := (sg_if h).1
          refine s_aaldP C (ky5_2 (ky10_9 hq0)) dX10_enough_42 h (fun h => ?_)
          refine i_aload_n C dX10_enough_43 0 rfl ?_
          refine gf10_19 C hq0 dX10_enough_44 ?_
          refine gf10_124 C (ky10_1 hq0) dX10_enough_47 ?_
          refine s_vcI C [_] vmX7_isWithin lkX10_220 rfl rfl (by decide) (ke17 (ky5_2 (ky10_9 hq0)) hb4) (by decide) rfl rfl (Nat.le_of_ble_eq_true rfl) dX10_enough_50 (ctX7_isWithin C.inj (ke17 (ky5_2 (ky10_9 hq0)) hb4)) h (fun x6 M5 h => ?_)
          refine s_if_eq C 58 (by decide) dX10_enough_53 h (fun _ h => ?_) (fun _ h => ?_)
          · refine z_iinc (n := 1) (c9 := (1 : Int32)) (by decide) h (fun x7 hx h => ?_)
            refine i_iinc (lv9 := [(1, _), (0, _)]) C dX10_enough_58 1 rfl hx (by decide) rfl ?_
            refine s_goto C 12 (by decide) dX10_enough_61 ?_
            exact sg_T.to (hk12 _ _ h hq0) [1, 0] rfl
          · refine i_iload_n C dX10_enough_56 1 rfl ?_
            exact s_iret C E dX10_enough_57 h
  exact key N
def fX10_enough (N : Nat) (a0_ : Nat) (M : sg_M) : Option (Int32 × sg_M) :=
  sg_b (fX10_noGrid N a0_ M) (fun (x9 : Int32) (M8 : sg_M) =>
  if x9 = 0 then (
  sg_m (0 : Int32) (fun x10 : Int32 =>
  gX10_enough_12 N (a0_, x10) M8)) else (
  some ((-2 : Int32), M8)))
set_option maxHeartbeats 4000000 in
set_option maxRecDepth 100000 in
theorem tX10_enough {ad : Nat → Nat} {X : sg_X} {N : Nat} {r : Int32 × sg_M} (C : sg_C Yc ad X cX10_enough RX10 2 5) (E : sg_eI Yc ad X cX10_enough .int r) : ∀ (a0_ : Nat) (M : sg_M), sg_K Yc a0_ 10 → fX10_enough N a0_ M = some r → sg_T Yc ad X 2 0 [(0, .ref (ad a0_))] [] M := by
  intro a0_ M hq0 h
  unfold fX10_enough at h
  refine i_aload_n C dX10_enough_0 0 rfl ?_
  refine s_vcI C [] vmX10_noGrid lkX10_179 rfl rfl (by decide) hq0 (by decide) rfl rfl (Nat.le_of_ble_eq_true rfl) dX10_enough_1 (ctX10_noGrid C.inj hq0) h (fun x9 M8 h => ?_)
  refine s_if_eq C 10 (by decide) dX10_enough_4 h (fun _ h => ?_) (fun _ h => ?_)
  · refine s_iconst C (0 : Int32) dX10_enough_10 (by decide) ?_
    refine z_gi h (fun x10 h => ?_)
    refine i_istore_n (lv9 := [(1, _), (0, _)]) C 1 dX10_enough_11 rfl (by decide) rfl ?_
    exact sg_T.to (tX10_enough_12 C E _ _ h hq0) [1, 0] rfl
  · refine s_bipush C (-2 : Int32) dX10_enough_7 (by decide) ?_
    exact s_iret C E dX10_enough_9 h
theorem ctX10_enough {ad : Nat → Nat} {V : sg_V} {N : Nat} (hi : sg_inj Yc ad) {a0_ : Nat} {M : sg_M} (hq0 : sg_K Yc a0_ 10) : ∀ res, fX10_enough N a0_ M = some res → sg_cI Yc ad V yX10_enough cX10_enough 2 .int 5 [.ref (ad a0_)] M res := fun res h => sg_bodyI (by decide) hi (Nat.le_of_ble_eq_true rfl) (fun X hX C E => by subst hX; exact tX10_enough C E _  _ hq0 h)
def fX10_widens (N : Nat) (a0_ : Nat) (M : sg_M) : Option (Int32 × sg_M) :=
  sg_b (fX10_noGrid N a0_ M) (fun (x2 : Int32) (M1 : sg_M) =>
  if x2 = 0 then (
  sg_bv (fX8_lookGreedy N (Yc.2.2.2 a0_ 10) (Yc.2.2.2 a0_ 1) M1) (fun M3 : sg_M =>
  some ((M3.1 (Yc.2.2.2 a0_ 10) 0), M3))) else (
  some ((-2 : Int32), M1)))
set_option maxHeartbeats 4000000 in
set_option maxRecDepth 100000 in
theorem tX10_widens {ad : Nat → Nat} {X : sg_X} {N : Nat} {r : Int32 × sg_M} (C : sg_C Yc ad X cX10_widens RX10 1 5) (E : sg_eI Yc ad X cX10_widens .int r) : ∀ (a0_ : Nat) (M : sg_M), sg_K Yc a0_ 10 → fX10_widens N a0_ M = some r → sg_T Yc ad X 1 0 [(0, .ref (ad a0_))] [] M := by
  intro a0_ M hq0 h
  unfold fX10_widens at h
  refine i_aload_n C dX10_widens_0 0 rfl ?_
  refine s_vcI C [] vmX10_noGrid lkX10_179 rfl rfl (by decide) hq0 (by decide) rfl rfl (Nat.le_of_ble_eq_true rfl) dX10_widens_1 (ctX10_noGrid C.inj hq0) h (fun x2 M1 h => ?_)
  refine s_if_eq C 10 (by decide) dX10_widens_4 h (fun _ h => ?_) (fun _ h => ?_)
  · refine i_aload_n C dX10_widens_10 0 rfl ?_
    refine gf10_69 C hq0 dX10_widens_11 ?_
    refine i_aload_n C dX10_widens_14 0 rfl ?_
    refine gf10_19 C hq0 dX10_widens_15 ?_
    refine s_vcV C [_] vmX8_lookGreedy lkX10_294 rfl rfl (by decide) (ky10_10 hq0) (by decide) rfl rfl (Nat.le_of_ble_eq_true rfl) dX10_widens_18 (ctX8_lookGreedy C.inj (ky10_10 hq0) (ky10_1 hq0)) h (fun M3 h => ?_)
    refine i_aload_n C dX10_widens_21 0 rfl ?_
    refine gf10_69 C hq0 dX10_widens_22 ?_
    refine gf10_295 C (ky10_10 hq0) dX10_widens_25 ?_
    exact s_iret C E dX10_widens_28 h
  · refine s_bipush C (-2 : Int32) dX10_widens_7 (by decide) ?_
    exact s_iret C E dX10_widens_9 h
theorem ctX10_widens {ad : Nat → Nat} {V : sg_V} {N : Nat} (hi : sg_inj Yc ad) {a0_ : Nat} {M : sg_M} (hq0 : sg_K Yc a0_ 10) : ∀ res, fX10_widens N a0_ M = some res → sg_cI Yc ad V yX10_widens cX10_widens 1 .int 5 [.ref (ad a0_)] M res := fun res h => sg_bodyI (by decide) hi (Nat.le_of_ble_eq_true rfl) (fun X hX C E => by subst hX; exact tX10_widens C E _  _ hq0 h)
def fX10_widen (N : Nat) (a0_ : Nat) (x1_ : Int32) (M : sg_M) : Option (Int32 × sg_M) :=
  sg_b (fX10_noGrid N a0_ M) (fun (x2 : Int32) (M1 : sg_M) =>
  if x2 = 0 then (
  if 0 ≤ x1_ then (
  sg_bv (fX8_lookGreedy N (Yc.2.2.2 a0_ 10) (Yc.2.2.2 a0_ 1) M1) (fun M3 : sg_M =>
  if (M3.1 (Yc.2.2.2 a0_ 10) 0) ≤ x1_ then (
  some ((-1 : Int32), M3)) else (
  if sg_ib x1_ (Yc.2.2.1 (Yc.2.2.2 (Yc.2.2.2 a0_ 10) 2)) = true then
  some ((M3.1 (Yc.2.2.2 (Yc.2.2.2 a0_ 10) 2) (x1_).toNatClampNeg), M3)
  else none))) else (
  some ((-2 : Int32), M1))) else (
  some ((-2 : Int32), M1)))
set_option maxHeartbeats 4000000 in
set_option maxRecDepth 100000 in
theorem tX10_widen {ad : Nat → Nat} {X : sg_X} {N : Nat} {r : Int32 × sg_M} (C : sg_C Yc ad X cX10_widen RX10 2 5) (E : sg_eI Yc ad X cX10_widen .int r) : ∀ (a0_ : Nat) (x1_ : Int32) (M : sg_M), sg_K Yc a0_ 10 → fX10_widen N a0_ x1_ M = some r → sg_T Yc ad X 2 0 [(0, .ref (ad a0_)), (1, .int x1_)] [] M := by
  intro a0_ x1_ M hq0 h
  unfold fX10_widen at h
  refine i_aload_n C dX10_widen_0 0 rfl ?_
  refine s_vcI C [] vmX10_noGrid lkX10_179 rfl rfl (by decide) hq0 (by decide) rfl rfl (Nat.le_of_ble_eq_true rfl) dX10_widen_1 (ctX10_noGrid C.inj hq0) h (fun x2 M1 h => ?_)
  refine s_if_ne C 11 (by decide) dX10_widen_4 h (fun _ h => ?_) (fun _ h => ?_)
  · refine i_iload_n C dX10_widen_7 1 rfl ?_
    refine s_if_ge C 14 (by decide) dX10_widen_8 h (fun _ h => ?_) (fun _ h => ?_)
    · refine i_aload_n C dX10_widen_14 0 rfl ?_
      refine gf10_69 C hq0 dX10_widen_15 ?_
      refine i_aload_n C dX10_widen_18 0 rfl ?_
      refine gf10_19 C hq0 dX10_widen_19 ?_
      refine s_vcV C [_] vmX8_lookGreedy lkX10_294 rfl rfl (by decide) (ky10_10 hq0) (by decide) rfl rfl (Nat.le_of_ble_eq_true rfl) dX10_widen_22 (ctX8_lookGreedy C.inj (ky10_10 hq0) (ky10_1 hq0)) h (fun M3 h => ?_)
      refine i_iload_n C dX10_widen_25 1 rfl ?_
      refine i_aload_n C dX10_widen_26 0 rfl ?_
      refine gf10_69 C hq0 dX10_widen_27 ?_
      refine gf10_295 C (ky10_10 hq0) dX10_widen_30 ?_
      refine s_icmp_ge C 48 (by decide) dX10_widen_33 h (fun _ h => ?_) (fun _ h => ?_)
      · refine s_iconst C (-1 : Int32) dX10_widen_48 (by decide) ?_
        exact s_iret C E dX10_widen_49 h
      · refine i_aload_n C dX10_widen_36 0 rfl ?_
        refine gf10_69 C hq0 dX10_widen_37 ?_
        refine gf10_296 C (ky10_10 hq0) dX10_widen_40 ?_
        refine i_iload_n C dX10_widen_43 1 rfl ?_
        refine s_iald C (ky8_2 (ky10_10 hq0)) dX10_widen_44 h (fun h => ?_)
        refine s_goto C 49 (by decide) dX10_widen_45 ?_
        exact s_iret C E dX10_widen_49 h
    · refine s_bipush C (-2 : Int32) dX10_widen_11 (by decide) ?_
      exact s_iret C E dX10_widen_13 h
  · refine s_bipush C (-2 : Int32) dX10_widen_11 (by decide) ?_
    exact s_iret C E dX10_widen_13 h
theorem ctX10_widen {ad : Nat → Nat} {V : sg_V} {N : Nat} (hi : sg_inj Yc ad) {a0_ : Nat} {x1_ : Int32} {M : sg_M} (hq0 : sg_K Yc a0_ 10) : ∀ res, fX10_widen N a0_ x1_ M = some res → sg_cI Yc ad V yX10_widen cX10_widen 2 .int 5 [.ref (ad a0_), .int x1_] M res := fun res h => sg_bodyI (by decide) hi (Nat.le_of_ble_eq_true rfl) (fun X hX C E => by subst hX; exact tX10_widen C E _ _  _ hq0 h)
def fX10_wide (N : Nat) (a0_ : Nat) (M : sg_M) : Option (Int32 × sg_M) :=
  sg_b (fX10_noGrid N a0_ M) (fun (x2 : Int32) (M1 : sg_M) =>
  if x2 = 0 then (
  sg_bv (fX8_lookGreedy N (Yc.2.2.2 a0_ 10) (Yc.2.2.2 a0_ 1) M1) (fun M3 : sg_M =>
  if (M3.1 (Yc.2.2.2 a0_ 10) 1) = 0 then (
  some ((0 : Int32), M3)) else (
  some ((1 : Int32), M3)))) else (
  some ((-2 : Int32), M1)))
set_option maxHeartbeats 4000000 in
set_option maxRecDepth 100000 in
theorem tX10_wide {ad : Nat → Nat} {X : sg_X} {N : Nat} {r : Int32 × sg_M} (C : sg_C Yc ad X cX10_wide RX10 1 5) (E : sg_eI Yc ad X cX10_wide .int r) : ∀ (a0_ : Nat) (M : sg_M), sg_K Yc a0_ 10 → fX10_wide N a0_ M = some r → sg_T Yc ad X 1 0 [(0, .ref (ad a0_))] [] M := by
  intro a0_ M hq0 h
  unfold fX10_wide at h
  refine i_aload_n C dX10_wide_0 0 rfl ?_
  refine s_vcI C [] vmX10_noGrid lkX10_179 rfl rfl (by decide) hq0 (by decide) rfl rfl (Nat.le_of_ble_eq_true rfl) dX10_wide_1 (ctX10_noGrid C.inj hq0) h (fun x2 M1 h => ?_)
  refine s_if_eq C 10 (by decide) dX10_wide_4 h (fun _ h => ?_) (fun _ h => ?_)
  · refine i_aload_n C dX10_wide_10 0 rfl ?_
    refine gf10_69 C hq0 dX10_wide_11 ?_
    refine i_aload_n C dX10_wide_14 0 rfl ?_
    refine gf10_19 C hq0 dX10_wide_15 ?_
    refine s_vcV C [_] vmX8_lookGreedy lkX10_294 rfl rfl (by decide) (ky10_10 hq0) (by decide) rfl rfl (Nat.le_of_ble_eq_true rfl) dX10_wide_18 (ctX8_lookGreedy C.inj (ky10_10 hq0) (ky10_1 hq0)) h (fun M3 h => ?_)
    refine i_aload_n C dX10_wide_21 0 rfl ?_
    refine gf10_69 C hq0 dX10_wide_22 ?_
    refine gf10_297 C (ky10_10 hq0) dX10_wide_25 ?_
    refine s_if_eq C 35 (by decide) dX10_wide_28 h (fun _ h => ?_) (fun _ h => ?_)
    · refine s_iconst C (0 : Int32) dX10_wide_35 (by decide) ?_
      exact s_iret C E dX10_wide_36 h
    · refine s_iconst C (1 : Int32) dX10_wide_31 (by decide) ?_
      refine s_goto C 36 (by decide) dX10_wide_32 ?_
      exact s_iret C E dX10_wide_36 h
  · refine s_bipush C (-2 : Int32) dX10_wide_7 (by decide) ?_
    exact s_iret C E dX10_wide_9 h
theorem ctX10_wide {ad : Nat → Nat} {V : sg_V} {N : Nat} (hi : sg_inj Yc ad) {a0_ : Nat} {M : sg_M} (hq0 : sg_K Yc a0_ 10) : ∀ res, fX10_wide N a0_ M = some res → sg_cI Yc ad V yX10_wide cX10_wide 1 .int 5 [.ref (ad a0_)] M res := fun res h => sg_bodyI (by decide) hi (Nat.le_of_ble_eq_true rfl) (fun X hX C E => by subst hX; exact tX10_wide C E _  _ hq0 h)
def fX10_fewest (N : Nat) (a0_ : Nat) (M : sg_M) : Option (Int32 × sg_M) :=
  sg_b (fX10_noGrid N a0_ M) (fun (x2 : Int32) (M1 : sg_M) =>
  if x2 = 0 then (
  sg_bv (fX8_lookLeast N (Yc.2.2.2 a0_ 10) (Yc.2.2.2 a0_ 1) M1) (fun M3 : sg_M =>
  some ((M3.1 (Yc.2.2.2 a0_ 10) 3), M3))) else (
  some ((-2 : Int32), M1)))
set_option maxHeartbeats 4000000 in
set_option maxRecDepth 100000 in
theorem tX10_fewest {ad : Nat → Nat} {X : sg_X} {N : Nat} {r : Int32 × sg_M} (C : sg_C Yc ad X cX10_fewest RX10 1 6) (E : sg_eI Yc ad X cX10_fewest .int r) : ∀ (a0_ : Nat) (M : sg_M), sg_K Yc a0_ 10 → fX10_fewest N a0_ M = some r → sg_T Yc ad X 1 0 [(0, .ref (ad a0_))] [] M := by
  intro a0_ M hq0 h
  unfold fX10_fewest at h
  refine i_aload_n C dX10_fewest_0 0 rfl ?_
  refine s_vcI C [] vmX10_noGrid lkX10_179 rfl rfl (by decide) hq0 (by decide) rfl rfl (Nat.le_of_ble_eq_true rfl) dX10_fewest_1 (ctX10_noGrid C.inj hq0) h (fun x2 M1 h => ?_)
  refine s_if_eq C 10 (by decide) dX10_fewest_4 h (fun _ h => ?_) (fun _ h => ?_)
  · refine i_aload_n C dX10_fewest_10 0 rfl ?_
    refine gf10_69 C hq0 dX10_fewest_11 ?_
    refine i_aload_n C dX10_fewest_14 0 rfl ?_
    refine gf10_19 C hq0 dX10_fewest_15 ?_
    refine s_vcV C [_] vmX8_lookLeast lkX10_300 rfl rfl (by decide) (ky10_10 hq0) (by decide) rfl rfl (Nat.le_of_ble_eq_true rfl) dX10_fewest_18 (ctX8_lookLeast C.inj (ky10_10 hq0) (ky10_1 hq0)) h (fun M3 h => ?_)
    refine i_aload_n C dX10_fewest_21 0 rfl ?_
    refine gf10_69 C hq0 dX10_fewest_22 ?_
    refine gf10_303 C (ky10_10 hq0) dX10_fewest_25 ?_
    exact s_iret C E dX10_fewest_28 h
  · refine s_bipush C (-2 : Int32) dX10_fewest_7 (by decide) ?_
    exact s_iret C E dX10_fewest_9 h
theorem ctX10_fewest {ad : Nat → Nat} {V : sg_V} {N : Nat} (hi : sg_inj Yc ad) {a0_ : Nat} {M : sg_M} (hq0 : sg_K Yc a0_ 10) : ∀ res, fX10_fewest N a0_ M = some res → sg_cI Yc ad V yX10_fewest cX10_fewest 1 .int 6 [.ref (ad a0_)] M res := fun res h => sg_bodyI (by decide) hi (Nat.le_of_ble_eq_true rfl) (fun X hX C E => by subst hX; exact tX10_fewest C E _  _ hq0 h)
def fX10_few (N : Nat) (a0_ : Nat) (x1_ : Int32) (M : sg_M) : Option (Int32 × sg_M) :=
  sg_b (fX10_noGrid N a0_ M) (fun (x2 : Int32) (M1 : sg_M) =>
  if x2 = 0 then (
  if 0 ≤ x1_ then (
  sg_bv (fX8_lookLeast N (Yc.2.2.2 a0_ 10) (Yc.2.2.2 a0_ 1) M1) (fun M3 : sg_M =>
  if (M3.1 (Yc.2.2.2 a0_ 10) 3) ≤ x1_ then (
  some ((-1 : Int32), M3)) else (
  if sg_ib x1_ (Yc.2.2.1 (Yc.2.2.2 (Yc.2.2.2 a0_ 10) 4)) = true then
  some ((M3.1 (Yc.2.2.2 (Yc.2.2.2 a0_ 10) 4) (x1_).toNatClampNeg), M3)
  else none))) else (
  some ((-2 : Int32), M1))) else (
  some ((-2 : Int32), M1)))
set_option maxHeartbeats 4000000 in
set_option maxRecDepth 100000 in
theorem tX10_few {ad : Nat → Nat} {X : sg_X} {N : Nat} {r : Int32 × sg_M} (C : sg_C Yc ad X cX10_few RX10 2 6) (E : sg_eI Yc ad X cX10_few .int r) : ∀ (a0_ : Nat) (x1_ : Int32) (M : sg_M), sg_K Yc a0_ 10 → fX10_few N a0_ x1_ M = some r → sg_T Yc ad X 2 0 [(0, .ref (ad a0_)), (1, .int x1_)] [] M := by
  intro a0_ x1_ M hq0 h
  unfold fX10_few at h
  refine i_aload_n C dX10_few_0 0 rfl ?_
  refine s_vcI C [] vmX10_noGrid lkX10_179 rfl rfl (by decide) hq0 (by decide) rfl rfl (Nat.le_of_ble_eq_true rfl) dX10_few_1 (ctX10_noGrid C.inj hq0) h (fun x2 M1 h => ?_)
  refine s_if_ne C 11 (by decide) dX10_few_4 h (fun _ h => ?_) (fun _ h => ?_)
  · refine i_iload_n C dX10_few_7 1 rfl ?_
    refine s_if_ge C 14 (by decide) dX10_few_8 h (fun _ h => ?_) (fun _ h => ?_)
    · refine i_aload_n C dX10_few_14 0 rfl ?_
      refine gf10_69 C hq0 dX10_few_15 ?_
      refine i_aload_n C dX10_few_18 0 rfl ?_
      refine gf10_19 C hq0 dX10_few_19 ?_
      refine s_vcV C [_] vmX8_lookLeast lkX10_300 rfl rfl (by decide) (ky10_10 hq0) (by decide) rfl rfl (Nat.le_of_ble_eq_true rfl) dX10_few_22 (ctX8_lookLeast C.inj (ky10_10 hq0) (ky10_1 hq0)) h (fun M3 h => ?_)
      refine i_iload_n C dX10_few_25 1 rfl ?_
      refine i_aload_n C dX10_few_26 0 rfl ?_
      refine gf10_69 C hq0 dX10_few_27 ?_
      refine gf10_303 C (ky10_10 hq0) dX10_few_30 ?_
      refine s_icmp_ge C 48 (by decide) dX10_few_33 h (fun _ h => ?_) (fun _ h => ?_)
      · refine s_iconst C (-1 : Int32) dX10_few_48 (by decide) ?_
        exact s_iret C E dX10_few_49 h
      · refine i_aload_n C dX10_few_36 0 rfl ?_
        refine gf10_69 C hq0 dX10_few_37 ?_
        refine gf10_306 C (ky10_10 hq0) dX10_few_40 ?_
        refine i_iload_n C dX10_few_43 1 rfl ?_
        refine s_iald C (ky8_4 (ky10_10 hq0)) dX10_few_44 h (fun h => ?_)
        refine s_goto C 49 (by decide) dX10_few_45 ?_
        exact s_iret C E dX10_few_49 h
    · refine s_bipush C (-2 : Int32) dX10_few_11 (by decide) ?_
      exact s_iret C E dX10_few_13 h
  · refine s_bipush C (-2 : Int32) dX10_few_11 (by decide) ?_
    exact s_iret C E dX10_few_13 h
theorem ctX10_few {ad : Nat → Nat} {V : sg_V} {N : Nat} (hi : sg_inj Yc ad) {a0_ : Nat} {x1_ : Int32} {M : sg_M} (hq0 : sg_K Yc a0_ 10) : ∀ res, fX10_few N a0_ x1_ M = some res → sg_cI Yc ad V yX10_few cX10_few 2 .int 6 [.ref (ad a0_), .int x1_] M res := fun res h => sg_bodyI (by decide) hi (Nat.le_of_ble_eq_true rfl) (fun X hX C E => by subst hX; exact tX10_few C E _ _  _ hq0 h)
def fX10_slims (N : Nat) (a0_ : Nat) (M : sg_M) : Option (Int32 × sg_M) :=
  sg_b (fX10_noGrid N a0_ M) (fun (x2 : Int32) (M1 : sg_M) =>
  if x2 = 0 then (
  sg_bv (fX8_lookSlim N (Yc.2.2.2 a0_ 10) (Yc.2.2.2 a0_ 1) M1) (fun M3 : sg_M =>
  some ((M3.1 (Yc.2.2.2 a0_ 10) 5), M3))) else (
  some ((-2 : Int32), M1)))
set_option maxHeartbeats 4000000 in
set_option maxRecDepth 100000 in
theorem tX10_slims {ad : Nat → Nat} {X : sg_X} {N : Nat} {r : Int32 × sg_M} (C : sg_C Yc ad X cX10_slims RX10 1 5) (E : sg_eI Yc ad X cX10_slims .int r) : ∀ (a0_ : Nat) (M : sg_M), sg_K Yc a0_ 10 → fX10_slims N a0_ M = some r → sg_T Yc ad X 1 0 [(0, .ref (ad a0_))] [] M := by
  intro a0_ M hq0 h
  unfold fX10_slims at h
  refine i_aload_n C dX10_slims_0 0 rfl ?_
  refine s_vcI C [] vmX10_noGrid lkX10_179 rfl rfl (by decide) hq0 (by decide) rfl rfl (Nat.le_of_ble_eq_true rfl) dX10_slims_1 (ctX10_noGrid C.inj hq0) h (fun x2 M1 h => ?_)
  refine s_if_eq C 10 (by decide) dX10_slims_4 h (fun _ h => ?_) (fun _ h => ?_)
  · refine i_aload_n C dX10_slims_10 0 rfl ?_
    refine gf10_69 C hq0 dX10_slims_11 ?_
    refine i_aload_n C dX10_slims_14 0 rfl ?_
    refine gf10_19 C hq0 dX10_slims_15 ?_
    refine s_vcV C [_] vmX8_lookSlim lkX10_309 rfl rfl (by decide) (ky10_10 hq0) (by decide) rfl rfl (Nat.le_of_ble_eq_true rfl) dX10_slims_18 (ctX8_lookSlim C.inj (ky10_10 hq0) (ky10_1 hq0)) h (fun M3 h => ?_)
    refine i_aload_n C dX10_slims_21 0 rfl ?_
    refine gf10_69 C hq0 dX10_slims_22 ?_
    refine gf10_312 C (ky10_10 hq0) dX10_slims_25 ?_
    exact s_iret C E dX10_slims_28 h
  · refine s_bipush C (-2 : Int32) dX10_slims_7 (by decide) ?_
    exact s_iret C E dX10_slims_9 h
theorem ctX10_slims {ad : Nat → Nat} {V : sg_V} {N : Nat} (hi : sg_inj Yc ad) {a0_ : Nat} {M : sg_M} (hq0 : sg_K Yc a0_ 10) : ∀ res, fX10_slims N a0_ M = some res → sg_cI Yc ad V yX10_slims cX10_slims 1 .int 5 [.ref (ad a0_)] M res := fun res h => sg_bodyI (by decide) hi (Nat.le_of_ble_eq_true rfl) (fun X hX C E => by subst hX; exact tX10_slims C E _  _ hq0 h)
def fX10_slim (N : Nat) (a0_ : Nat) (x1_ : Int32) (M : sg_M) : Option (Int32 × sg_M) :=
  sg_b (fX10_hasStrap N a0_ x1_ M) (fun (x2 : Int32) (M1 : sg_M) =>
  if x2 = 0 then (
  some ((-2 : Int32), M1)) else (
  sg_bv (fX8_lookSlim N (Yc.2.2.2 a0_ 10) (Yc.2.2.2 a0_ 1) M1) (fun M3 : sg_M =>
  if (M3.1 (Yc.2.2.2 a0_ 10) 5) = (-1 : Int32) then (
  some ((-1 : Int32), M3)) else (
  if sg_ib x1_ (Yc.2.2.1 (Yc.2.2.2 (Yc.2.2.2 a0_ 10) 6)) = true then
  some ((M3.1 (Yc.2.2.2 (Yc.2.2.2 a0_ 10) 6) (x1_).toNatClampNeg), M3)
  else none))))
set_option maxHeartbeats 4000000 in
set_option maxRecDepth 100000 in
theorem tX10_slim {ad : Nat → Nat} {X : sg_X} {N : Nat} {r : Int32 × sg_M} (C : sg_C Yc ad X cX10_slim RX10 2 5) (E : sg_eI Yc ad X cX10_slim .int r) : ∀ (a0_ : Nat) (x1_ : Int32) (M : sg_M), sg_K Yc a0_ 10 → fX10_slim N a0_ x1_ M = some r → sg_T Yc ad X 2 0 [(0, .ref (ad a0_)), (1, .int x1_)] [] M := by
  intro a0_ x1_ M hq0 h
  unfold fX10_slim at h
  refine i_aload_n C dX10_slim_0 0 rfl ?_
  refine i_iload_n C dX10_slim_1 1 rfl ?_
  refine s_vcI C [_] vmX10_hasStrap lkX10_146 rfl rfl (by decide) hq0 (by decide) rfl rfl (Nat.le_of_ble_eq_true rfl) dX10_slim_2 (ctX10_hasStrap C.inj hq0) h (fun x2 M1 h => ?_)
  refine s_if_ne C 11 (by decide) dX10_slim_5 h (fun _ h => ?_) (fun _ h => ?_)
  · refine s_bipush C (-2 : Int32) dX10_slim_8 (by decide) ?_
    exact s_iret C E dX10_slim_10 h
  · refine i_aload_n C dX10_slim_11 0 rfl ?_
    refine gf10_69 C hq0 dX10_slim_12 ?_
    refine i_aload_n C dX10_slim_15 0 rfl ?_
    refine gf10_19 C hq0 dX10_slim_16 ?_
    refine s_vcV C [_] vmX8_lookSlim lkX10_309 rfl rfl (by decide) (ky10_10 hq0) (by decide) rfl rfl (Nat.le_of_ble_eq_true rfl) dX10_slim_19 (ctX8_lookSlim C.inj (ky10_10 hq0) (ky10_1 hq0)) h (fun M3 h => ?_)
    refine i_aload_n C dX10_slim_22 0 rfl ?_
    refine gf10_69 C hq0 dX10_slim_23 ?_
    refine gf10_312 C (ky10_10 hq0) dX10_slim_26 ?_
    refine s_iconst C (-1 : Int32) dX10_slim_29 (by decide) ?_
    refine s_icmp_ne C 37 (by decide) dX10_slim_30 h (fun _ h => ?_) (fun _ h => ?_)
    · refine s_iconst C (-1 : Int32) dX10_slim_33 (by decide) ?_
      refine s_goto C 46 (by decide) dX10_slim_34 ?_
      exact s_iret C E dX10_slim_46 h
    · refine i_aload_n C dX10_slim_37 0 rfl ?_
      refine gf10_69 C hq0 dX10_slim_38 ?_
      refine gf10_315 C (ky10_10 hq0) dX10_slim_41 ?_
      refine i_iload_n C dX10_slim_44 1 rfl ?_
      refine s_iald C (ky8_6 (ky10_10 hq0)) dX10_slim_45 h (fun h => ?_)
      exact s_iret C E dX10_slim_46 h
theorem ctX10_slim {ad : Nat → Nat} {V : sg_V} {N : Nat} (hi : sg_inj Yc ad) {a0_ : Nat} {x1_ : Int32} {M : sg_M} (hq0 : sg_K Yc a0_ 10) : ∀ res, fX10_slim N a0_ x1_ M = some res → sg_cI Yc ad V yX10_slim cX10_slim 2 .int 5 [.ref (ad a0_), .int x1_] M res := fun res h => sg_bodyI (by decide) hi (Nat.le_of_ble_eq_true rfl) (fun X hX C E => by subst hX; exact tX10_slim C E _ _  _ hq0 h)
def fX10_without (N : Nat) (a0_ : Nat) (x1_ : Int32) (x2_ : Int32) (M : sg_M) : Option (Int64 × sg_M) :=
  sg_b (fX10_hasStrap N a0_ x1_ M) (fun (x2 : Int32) (M1 : sg_M) =>
  if x2 = 0 then (
  some ((-2 : Int64), M1)) else (
  sg_b (fX10_isPart N x2_ M1) (fun (x4 : Int32) (M3 : sg_M) =>
  if x4 = 0 then (
  some ((-2 : Int64), M3)) else (
  sg_bv (fX3_settleWithout N (Yc.2.2.2 a0_ 11) (Yc.2.2.2 a0_ 1) x1_ x1_ M3) (fun M5 : sg_M =>
  sg_b (fX10_partOf N (M5.2 (Yc.2.2.2 (Yc.2.2.2 (Yc.2.2.2 a0_ 11) 8) 3) 1) (M5.2 (Yc.2.2.2 (Yc.2.2.2 (Yc.2.2.2 a0_ 11) 8) 3) 2) x2_ M5) (fun (x7 : Int64) (M6 : sg_M) =>
  some (x7, M6)))))))
set_option maxHeartbeats 4000000 in
set_option maxRecDepth 100000 in
theorem tX10_without {ad : Nat → Nat} {X : sg_X} {N : Nat} {r : Int64 × sg_M} (C : sg_C Yc ad X cX10_without RX10 4 4) (E : sg_eL Yc ad X cX10_without r) : ∀ (a0_ : Nat) (x1_ : Int32) (x2_ : Int32) (M : sg_M), sg_K Yc a0_ 10 → fX10_without N a0_ x1_ x2_ M = some r → sg_T Yc ad X 4 0 [(0, .ref (ad a0_)), (1, .int x1_), (2, .int x2_)] [] M := by
  intro a0_ x1_ x2_ M hq0 h
  unfold fX10_without at h
  refine i_aload_n C dX10_without_0 0 rfl ?_
  refine i_iload_n C dX10_without_1 1 rfl ?_
  refine s_vcI C [_] vmX10_hasStrap lkX10_146 rfl rfl (by decide) hq0 (by decide) rfl rfl (Nat.le_of_ble_eq_true rfl) dX10_without_2 (ctX10_hasStrap C.inj hq0) h (fun x2 M1 h => ?_)
  refine s_if_eq C 15 (by decide) dX10_without_5 h (fun _ h => ?_) (fun _ h => ?_)
  · refine s_ldc2 C (-2 : Int64) kl_X10_188 dX10_without_15 ?_
    exact s_lret C E dX10_without_18 h
  · refine i_iload_n C dX10_without_8 2 rfl ?_
    refine s_scI C [_] smX10_isPart lkX10_185 (by decide) rfl rfl (Nat.le_of_ble_eq_true rfl) dX10_without_9 (ctX10_isPart C.inj ) h (fun x4 M3 h => ?_)
    refine s_if_ne C 19 (by decide) dX10_without_12 h (fun _ h => ?_) (fun _ h => ?_)
    · refine s_ldc2 C (-2 : Int64) kl_X10_188 dX10_without_15 ?_
      exact s_lret C E dX10_without_18 h
    · refine i_aload_n C dX10_without_19 0 rfl ?_
      refine gf10_76 C hq0 dX10_without_20 ?_
      refine i_aload_n C dX10_without_23 0 rfl ?_
      refine gf10_19 C hq0 dX10_without_24 ?_
      refine i_iload_n C dX10_without_27 1 rfl ?_
      refine i_iload_n C dX10_without_28 1 rfl ?_
      refine s_vcV C [_, _, _] vmX3_settleWithout lkX10_318 rfl rfl (by decide) (ky10_11 hq0) (by decide) rfl rfl (Nat.le_of_ble_eq_true rfl) dX10_without_29 (ctX3_settleWithout C.inj (ky10_11 hq0) (ky10_1 hq0)) h (fun M5 h => ?_)
      refine i_aload_n C dX10_without_32 0 rfl ?_
      refine gf10_76 C hq0 dX10_without_33 ?_
      refine gf10_321 C (ky10_11 hq0) dX10_without_36 ?_
      refine gf10_216 C (ky3_8 (ky10_11 hq0)) dX10_without_39 ?_
      refine i_astore_n (lv9 := [(3, _), (0, _), (1, _), (2, _)]) C 3 dX10_without_42 rfl (by decide) rfl ?_
      refine i_aload_n C dX10_without_43 0 rfl ?_
      refine gf10_292 C (ky1_3 (ky3_8 (ky10_11 hq0))) dX10_without_44 ?_
      refine i_aload_n C dX10_without_47 0 rfl ?_
      refine gf10_293 C (ky1_3 (ky3_8 (ky10_11 hq0))) dX10_without_48 ?_
      refine i_iload_n C dX10_without_51 3 rfl ?_
      refine s_scL C [_, _, _] smX10_partOf lkX10_200 (by decide) rfl rfl (Nat.le_of_ble_eq_true rfl) dX10_without_52 (ctX10_partOf C.inj ) h (fun x7 M6 h => ?_)
      exact s_lret C E dX10_without_55 h
theorem ctX10_without {ad : Nat → Nat} {V : sg_V} {N : Nat} (hi : sg_inj Yc ad) {a0_ : Nat} {x1_ : Int32} {x2_ : Int32} {M : sg_M} (hq0 : sg_K Yc a0_ 10) : ∀ res, fX10_without N a0_ x1_ x2_ M = some res → sg_cL Yc ad V yX10_without cX10_without 4 4 [.ref (ad a0_), .int x1_, .int x2_] M res := fun res h => sg_bodyL (by decide) hi (Nat.le_of_ble_eq_true rfl) (fun X hX C E => by subst hX; exact tX10_without C E _ _ _  _ hq0 h)
def fX10_lost (N : Nat) (a0_ : Nat) (x1_ : Int32) (M : sg_M) : Option (Int32 × sg_M) :=
  sg_b (fX10_hasStrap N a0_ x1_ M) (fun (x2 : Int32) (M1 : sg_M) =>
  if x2 = 0 then (
  some ((-2 : Int32), M1)) else (
  sg_bv (fX3_settleWithout N (Yc.2.2.2 a0_ 11) (Yc.2.2.2 a0_ 1) x1_ x1_ M1) (fun M3 : sg_M =>
  some ((M3.1 (Yc.2.2.2 (Yc.2.2.2 a0_ 11) 8) 0), M3))))
set_option maxHeartbeats 4000000 in
set_option maxRecDepth 100000 in
theorem tX10_lost {ad : Nat → Nat} {X : sg_X} {N : Nat} {r : Int32 × sg_M} (C : sg_C Yc ad X cX10_lost RX10 2 4) (E : sg_eI Yc ad X cX10_lost .int r) : ∀ (a0_ : Nat) (x1_ : Int32) (M : sg_M), sg_K Yc a0_ 10 → fX10_lost N a0_ x1_ M = some r → sg_T Yc ad X 2 0 [(0, .ref (ad a0_)), (1, .int x1_)] [] M := by
  intro a0_ x1_ M hq0 h
  unfold fX10_lost at h
  refine i_aload_n C dX10_lost_0 0 rfl ?_
  refine i_iload_n C dX10_lost_1 1 rfl ?_
  refine s_vcI C [_] vmX10_hasStrap lkX10_146 rfl rfl (by decide) hq0 (by decide) rfl rfl (Nat.le_of_ble_eq_true rfl) dX10_lost_2 (ctX10_hasStrap C.inj hq0) h (fun x2 M1 h => ?_)
  refine s_if_ne C 11 (by decide) dX10_lost_5 h (fun _ h => ?_) (fun _ h => ?_)
  · refine s_bipush C (-2 : Int32) dX10_lost_8 (by decide) ?_
    exact s_iret C E dX10_lost_10 h
  · refine i_aload_n C dX10_lost_11 0 rfl ?_
    refine gf10_76 C hq0 dX10_lost_12 ?_
    refine i_aload_n C dX10_lost_15 0 rfl ?_
    refine gf10_19 C hq0 dX10_lost_16 ?_
    refine i_iload_n C dX10_lost_19 1 rfl ?_
    refine i_iload_n C dX10_lost_20 1 rfl ?_
    refine s_vcV C [_, _, _] vmX3_settleWithout lkX10_318 rfl rfl (by decide) (ky10_11 hq0) (by decide) rfl rfl (Nat.le_of_ble_eq_true rfl) dX10_lost_21 (ctX3_settleWithout C.inj (ky10_11 hq0) (ky10_1 hq0)) h (fun M3 h => ?_)
    refine i_aload_n C dX10_lost_24 0 rfl ?_
    refine gf10_76 C hq0 dX10_lost_25 ?_
    refine gf10_321 C (ky10_11 hq0) dX10_lost_28 ?_
    refine gf10_143 C (ky3_8 (ky10_11 hq0)) dX10_lost_31 ?_
    exact s_iret C E dX10_lost_34 h
theorem ctX10_lost {ad : Nat → Nat} {V : sg_V} {N : Nat} (hi : sg_inj Yc ad) {a0_ : Nat} {x1_ : Int32} {M : sg_M} (hq0 : sg_K Yc a0_ 10) : ∀ res, fX10_lost N a0_ x1_ M = some res → sg_cI Yc ad V yX10_lost cX10_lost 2 .int 4 [.ref (ad a0_), .int x1_] M res := fun res h => sg_bodyI (by decide) hi (Nat.le_of_ble_eq_true rfl) (fun X hX C E => by subst hX; exact tX10_lost C E _ _  _ hq0 h)
def fX10_vital (N : Nat) (a0_ : Nat) (M : sg_M) : Option (Int32 × sg_M) :=
  sg_b (fX10_noGrid N a0_ M) (fun (x2 : Int32) (M1 : sg_M) =>
  if x2 = 0 then (
  sg_bv (fX3_lookSingles N (Yc.2.2.2 a0_ 11) (Yc.2.2.2 a0_ 1) M1) (fun M3 : sg_M =>
  some ((M3.1 (Yc.2.2.2 a0_ 11) 0), M3))) else (
  some ((-2 : Int32), M1)))
set_option maxHeartbeats 4000000 in
set_option maxRecDepth 100000 in
theorem tX10_vital {ad : Nat → Nat} {X : sg_X} {N : Nat} {r : Int32 × sg_M} (C : sg_C Yc ad X cX10_vital RX10 1 5) (E : sg_eI Yc ad X cX10_vital .int r) : ∀ (a0_ : Nat) (M : sg_M), sg_K Yc a0_ 10 → fX10_vital N a0_ M = some r → sg_T Yc ad X 1 0 [(0, .ref (ad a0_))] [] M := by
  intro a0_ M hq0 h
  unfold fX10_vital at h
  refine i_aload_n C dX10_vital_0 0 rfl ?_
  refine s_vcI C [] vmX10_noGrid lkX10_179 rfl rfl (by decide) hq0 (by decide) rfl rfl (Nat.le_of_ble_eq_true rfl) dX10_vital_1 (ctX10_noGrid C.inj hq0) h (fun x2 M1 h => ?_)
  refine s_if_eq C 10 (by decide) dX10_vital_4 h (fun _ h => ?_) (fun _ h => ?_)
  · refine i_aload_n C dX10_vital_10 0 rfl ?_
    refine gf10_76 C hq0 dX10_vital_11 ?_
    refine i_aload_n C dX10_vital_14 0 rfl ?_
    refine gf10_19 C hq0 dX10_vital_15 ?_
    refine s_vcV C [_] vmX3_lookSingles lkX10_324 rfl rfl (by decide) (ky10_11 hq0) (by decide) rfl rfl (Nat.le_of_ble_eq_true rfl) dX10_vital_18 (ctX3_lookSingles C.inj (ky10_11 hq0) (ky10_1 hq0)) h (fun M3 h => ?_)
    refine i_aload_n C dX10_vital_21 0 rfl ?_
    refine gf10_76 C hq0 dX10_vital_22 ?_
    refine gf10_327 C (ky10_11 hq0) dX10_vital_25 ?_
    exact s_iret C E dX10_vital_28 h
  · refine s_bipush C (-2 : Int32) dX10_vital_7 (by decide) ?_
    exact s_iret C E dX10_vital_9 h
theorem ctX10_vital {ad : Nat → Nat} {V : sg_V} {N : Nat} (hi : sg_inj Yc ad) {a0_ : Nat} {M : sg_M} (hq0 : sg_K Yc a0_ 10) : ∀ res, fX10_vital N a0_ M = some res → sg_cI Yc ad V yX10_vital cX10_vital 1 .int 5 [.ref (ad a0_)] M res := fun res h => sg_bodyI (by decide) hi (Nat.le_of_ble_eq_true rfl) (fun X hX C E => by subst hX; exact tX10_vital C E _  _ hq0 h)
def fX10_spare (N : Nat) (a0_ : Nat) (M : sg_M) : Option (Int32 × sg_M) :=
  sg_b (fX10_noGrid N a0_ M) (fun (x2 : Int32) (M1 : sg_M) =>
  if x2 = 0 then (
  sg_bv (fX3_lookSingles N (Yc.2.2.2 a0_ 11) (Yc.2.2.2 a0_ 1) M1) (fun M3 : sg_M =>
  some ((M3.1 (Yc.2.2.2 a0_ 11) 1), M3))) else (
  some ((-2 : Int32), M1)))
set_option maxHeartbeats 4000000 in
set_option maxRecDepth 100000 in
theorem tX10_spare {ad : Nat → Nat} {X : sg_X} {N : Nat} {r : Int32 × sg_M} (C : sg_C Yc ad X cX10_spare RX10 1 5) (E : sg_eI Yc ad X cX10_spare .int r) : ∀ (a0_ : Nat) (M : sg_M), sg_K Yc a0_ 10 → fX10_spare N a0_ M = some r → sg_T Yc ad X 1 0 [(0, .ref (ad a0_))] [] M := by
  intro a0_ M hq0 h
  unfold fX10_spare at h
  refine i_aload_n C dX10_spare_0 0 rfl ?_
  refine s_vcI C [] vmX10_noGrid lkX10_179 rfl rfl (by decide) hq0 (by decide) rfl rfl (Nat.le_of_ble_eq_true rfl) dX10_spare_1 (ctX10_noGrid C.inj hq0) h (fun x2 M1 h => ?_)
  refine s_if_eq C 10 (by decide) dX10_spare_4 h (fun _ h => ?_) (fun _ h => ?_)
  · refine i_aload_n C dX10_spare_10 0 rfl ?_
    refine gf10_76 C hq0 dX10_spare_11 ?_
    refine i_aload_n C dX10_spare_14 0 rfl ?_
    refine gf10_19 C hq0 dX10_spare_15 ?_
    refine s_vcV C [_] vmX3_lookSingles lkX10_324 rfl rfl (by decide) (ky10_11 hq0) (by decide) rfl rfl (Nat.le_of_ble_eq_true rfl) dX10_spare_18 (ctX3_lookSingles C.inj (ky10_11 hq0) (ky10_1 hq0)) h (fun M3 h => ?_)
    refine i_aload_n C dX10_spare_21 0 rfl ?_
    refine gf10_76 C hq0 dX10_spare_22 ?_
    refine gf10_330 C (ky10_11 hq0) dX10_spare_25 ?_
    exact s_iret C E dX10_spare_28 h
  · refine s_bipush C (-2 : Int32) dX10_spare_7 (by decide) ?_
    exact s_iret C E dX10_spare_9 h
theorem ctX10_spare {ad : Nat → Nat} {V : sg_V} {N : Nat} (hi : sg_inj Yc ad) {a0_ : Nat} {M : sg_M} (hq0 : sg_K Yc a0_ 10) : ∀ res, fX10_spare N a0_ M = some res → sg_cI Yc ad V yX10_spare cX10_spare 1 .int 5 [.ref (ad a0_)] M res := fun res h => sg_bodyI (by decide) hi (Nat.le_of_ble_eq_true rfl) (fun X hX C E => by subst hX; exact tX10_spare C E _  _ hq0 h)
def fX10_pairs (N : Nat) (a0_ : Nat) (M : sg_M) : Option (Int32 × sg_M) :=
  sg_b (fX10_noGrid N a0_ M) (fun (x2 : Int32) (M1 : sg_M) =>
  if x2 = 0 then (
  sg_bv (fX3_lookPairs N (Yc.2.2.2 a0_ 11) (Yc.2.2.2 a0_ 1) M1) (fun M3 : sg_M =>
  some ((M3.1 (Yc.2.2.2 a0_ 11) 2), M3))) else (
  some ((-2 : Int32), M1)))
set_option maxHeartbeats 4000000 in
set_option maxRecDepth 100000 in
theorem tX10_pairs {ad : Nat → Nat} {X : sg_X} {N : Nat} {r : Int32 × sg_M} (C : sg_C Yc ad X cX10_pairs RX10 1 6) (E : sg_eI Yc ad X cX10_pairs .int r) : ∀ (a0_ : Nat) (M : sg_M), sg_K Yc a0_ 10 → fX10_pairs N a0_ M = some r → sg_T Yc ad X 1 0 [(0, .ref (ad a0_))] [] M := by
  intro a0_ M hq0 h
  unfold fX10_pairs at h
  refine i_aload_n C dX10_pairs_0 0 rfl ?_
  refine s_vcI C [] vmX10_noGrid lkX10_179 rfl rfl (by decide) hq0 (by decide) rfl rfl (Nat.le_of_ble_eq_true rfl) dX10_pairs_1 (ctX10_noGrid C.inj hq0) h (fun x2 M1 h => ?_)
  refine s_if_eq C 10 (by decide) dX10_pairs_4 h (fun _ h => ?_) (fun _ h => ?_)
  · refine i_aload_n C dX10_pairs_10 0 rfl ?_
    refine gf10_76 C hq0 dX10_pairs_11 ?_
    refine i_aload_n C dX10_pairs_14 0 rfl ?_
    refine gf10_19 C hq0 dX10_pairs_15 ?_
    refine s_vcV C [_] vmX3_lookPairs lkX10_333 rfl rfl (by decide) (ky10_11 hq0) (by decide) rfl rfl (Nat.le_of_ble_eq_true rfl) dX10_pairs_18 (ctX3_lookPairs C.inj (ky10_11 hq0) (ky10_1 hq0)) h (fun M3 h => ?_)
    refine i_aload_n C dX10_pairs_21 0 rfl ?_
    refine gf10_76 C hq0 dX10_pairs_22 ?_
    refine gf10_336 C (ky10_11 hq0) dX10_pairs_25 ?_
    exact s_iret C E dX10_pairs_28 h
  · refine s_bipush C (-2 : Int32) dX10_pairs_7 (by decide) ?_
    exact s_iret C E dX10_pairs_9 h
theorem ctX10_pairs {ad : Nat → Nat} {V : sg_V} {N : Nat} (hi : sg_inj Yc ad) {a0_ : Nat} {M : sg_M} (hq0 : sg_K Yc a0_ 10) : ∀ res, fX10_pairs N a0_ M = some res → sg_cI Yc ad V yX10_pairs cX10_pairs 1 .int 6 [.ref (ad a0_)] M res := fun res h => sg_bodyI (by decide) hi (Nat.le_of_ble_eq_true rfl) (fun X hX C E => by subst hX; exact tX10_pairs C E _  _ hq0 h)
def fX10_pair (N : Nat) (a0_ : Nat) (x1_ : Int32) (M : sg_M) : Option (Int32 × sg_M) :=
  sg_b (fX10_noGrid N a0_ M) (fun (x2 : Int32) (M1 : sg_M) =>
  if x2 = 0 then (
  if 0 ≤ x1_ then (
  sg_bv (fX3_lookPairs N (Yc.2.2.2 a0_ 11) (Yc.2.2.2 a0_ 1) M1) (fun M3 : sg_M =>
  if (M3.1 (Yc.2.2.2 a0_ 11) 2) ≤ x1_ then (
  some ((-1 : Int32), M3)) else (
  if sg_ib x1_ (Yc.2.2.1 (Yc.2.2.2 (Yc.2.2.2 a0_ 11) 3)) = true then
  some ((M3.1 (Yc.2.2.2 (Yc.2.2.2 a0_ 11) 3) (x1_).toNatClampNeg), M3)
  else none))) else (
  some ((-2 : Int32), M1))) else (
  some ((-2 : Int32), M1)))
set_option maxHeartbeats 4000000 in
set_option maxRecDepth 100000 in
theorem tX10_pair {ad : Nat → Nat} {X : sg_X} {N : Nat} {r : Int32 × sg_M} (C : sg_C Yc ad X cX10_pair RX10 2 6) (E : sg_eI Yc ad X cX10_pair .int r) : ∀ (a0_ : Nat) (x1_ : Int32) (M : sg_M), sg_K Yc a0_ 10 → fX10_pair N a0_ x1_ M = some r → sg_T Yc ad X 2 0 [(0, .ref (ad a0_)), (1, .int x1_)] [] M := by
  intro a0_ x1_ M hq0 h
  unfold fX10_pair at h
  refine i_aload_n C dX10_pair_0 0 rfl ?_
  refine s_vcI C [] vmX10_noGrid lkX10_179 rfl rfl (by decide) hq0 (by decide) rfl rfl (Nat.le_of_ble_eq_true rfl) dX10_pair_1 (ctX10_noGrid C.inj hq0) h (fun x2 M1 h => ?_)
  refine s_if_ne C 11 (by decide) dX10_pair_4 h (fun _ h => ?_) (fun _ h => ?_)
  · refine i_iload_n C dX10_pair_7 1 rfl ?_
    refine s_if_ge C 14 (by decide) dX10_pair_8 h (fun _ h => ?_) (fun _ h => ?_)
    · refine i_aload_n C dX10_pair_14 0 rfl ?_
      refine gf10_76 C hq0 dX10_pair_15 ?_
      refine i_aload_n C dX10_pair_18 0 rfl ?_
      refine gf10_19 C hq0 dX10_pair_19 ?_
      refine s_vcV C [_] vmX3_lookPairs lkX10_333 rfl rfl (by decide) (ky10_11 hq0) (by decide) rfl rfl (Nat.le_of_ble_eq_true rfl) dX10_pair_22 (ctX3_lookPairs C.inj (ky10_11 hq0) (ky10_1 hq0)) h (fun M3 h => ?_)
      refine i_iload_n C dX10_pair_25 1 rfl ?_
      refine i_aload_n C dX10_pair_26 0 rfl ?_
      refine gf10_76 C hq0 dX10_pair_27 ?_
      refine gf10_336 C (ky10_11 hq0) dX10_pair_30 ?_
      refine s_icmp_ge C 48 (by decide) dX10_pair_33 h (fun _ h => ?_) (fun _ h => ?_)
      · refine s_iconst C (-1 : Int32) dX10_pair_48 (by decide) ?_
        exact s_iret C E dX10_pair_49 h
      · refine i_aload_n C dX10_pair_36 0 rfl ?_
        refine gf10_76 C hq0 dX10_pair_37 ?_
        refine gf10_339 C (ky10_11 hq0) dX10_pair_40 ?_
        refine i_iload_n C dX10_pair_43 1 rfl ?_
        refine s_iald C (ky3_3 (ky10_11 hq0)) dX10_pair_44 h (fun h => ?_)
        refine s_goto C 49 (by decide) dX10_pair_45 ?_
        exact s_iret C E dX10_pair_49 h
    · refine s_bipush C (-2 : Int32) dX10_pair_11 (by decide) ?_
      exact s_iret C E dX10_pair_13 h
  · refine s_bipush C (-2 : Int32) dX10_pair_11 (by decide) ?_
    exact s_iret C E dX10_pair_13 h
theorem ctX10_pair {ad : Nat → Nat} {V : sg_V} {N : Nat} (hi : sg_inj Yc ad) {a0_ : Nat} {x1_ : Int32} {M : sg_M} (hq0 : sg_K Yc a0_ 10) : ∀ res, fX10_pair N a0_ x1_ M = some res → sg_cI Yc ad V yX10_pair cX10_pair 2 .int 6 [.ref (ad a0_), .int x1_] M res := fun res h => sg_bodyI (by decide) hi (Nat.le_of_ble_eq_true rfl) (fun X hX C E => by subst hX; exact tX10_pair C E _ _  _ hq0 h)
def fX10_chance (N : Nat) (a0_ : Nat) (x1_ : Int32) (x2_ : Int32) (M : sg_M) : Option (Int32 × sg_M) :=
  sg_b (fX10_noGrid N a0_ M) (fun (x2 : Int32) (M1 : sg_M) =>
  if x2 = 0 then (
  if x1_ < 0 then (
  some ((-2 : Int32), M1)) else (
  if x2_ < (1 : Int32) then (
  some ((-2 : Int32), M1)) else (
  if x2_ ≤ (100 : Int32) then (
  sg_bv (fX2_play N (Yc.2.2.2 a0_ 12) (Yc.2.2.2 a0_ 1) x1_ x2_ M1) (fun M3 : sg_M =>
  some ((M3.1 (Yc.2.2.2 a0_ 12) 0), M3))) else (
  some ((-2 : Int32), M1))))) else (
  some ((-2 : Int32), M1)))
set_option maxHeartbeats 4000000 in
set_option maxRecDepth 100000 in
theorem tX10_chance {ad : Nat → Nat} {X : sg_X} {N : Nat} {r : Int32 × sg_M} (C : sg_C Yc ad X cX10_chance RX10 3 4) (E : sg_eI Yc ad X cX10_chance .int r) : ∀ (a0_ : Nat) (x1_ : Int32) (x2_ : Int32) (M : sg_M), sg_K Yc a0_ 10 → fX10_chance N a0_ x1_ x2_ M = some r → sg_T Yc ad X 3 0 [(0, .ref (ad a0_)), (1, .int x1_), (2, .int x2_)] [] M := by
  intro a0_ x1_ x2_ M hq0 h
  unfold fX10_chance at h
  refine i_aload_n C dX10_chance_0 0 rfl ?_
  refine s_vcI C [] vmX10_noGrid lkX10_179 rfl rfl (by decide) hq0 (by decide) rfl rfl (Nat.le_of_ble_eq_true rfl) dX10_chance_1 (ctX10_noGrid C.inj hq0) h (fun x2 M1 h => ?_)
  refine s_if_ne C 22 (by decide) dX10_chance_4 h (fun _ h => ?_) (fun _ h => ?_)
  · refine i_iload_n C dX10_chance_7 1 rfl ?_
    refine s_if_lt C 22 (by decide) dX10_chance_8 h (fun _ h => ?_) (fun _ h => ?_)
    · refine s_bipush C (-2 : Int32) dX10_chance_22 (by decide) ?_
      exact s_iret C E dX10_chance_24 h
    · refine i_iload_n C dX10_chance_11 2 rfl ?_
      refine s_iconst C (1 : Int32) dX10_chance_12 (by decide) ?_
      refine s_icmp_lt C 22 (by decide) dX10_chance_13 h (fun _ h => ?_) (fun _ h => ?_)
      · refine s_bipush C (-2 : Int32) dX10_chance_22 (by decide) ?_
        exact s_iret C E dX10_chance_24 h
      · refine i_iload_n C dX10_chance_16 2 rfl ?_
        refine s_bipush C (100 : Int32) dX10_chance_17 (by decide) ?_
        refine s_icmp_le C 25 (by decide) dX10_chance_19 h (fun _ h => ?_) (fun _ h => ?_)
        · refine i_aload_n C dX10_chance_25 0 rfl ?_
          refine gf10_83 C hq0 dX10_chance_26 ?_
          refine i_aload_n C dX10_chance_29 0 rfl ?_
          refine gf10_19 C hq0 dX10_chance_30 ?_
          refine i_iload_n C dX10_chance_33 1 rfl ?_
          refine i_iload_n C dX10_chance_34 2 rfl ?_
          refine s_vcV C [_, _, _] vmX2_play lkX10_342 rfl rfl (by decide) (ky10_12 hq0) (by decide) rfl rfl (Nat.le_of_ble_eq_true rfl) dX10_chance_35 (ctX2_play C.inj (ky10_12 hq0) (ky10_1 hq0)) h (fun M3 h => ?_)
          refine i_aload_n C dX10_chance_38 0 rfl ?_
          refine gf10_83 C hq0 dX10_chance_39 ?_
          refine gf10_345 C (ky10_12 hq0) dX10_chance_42 ?_
          exact s_iret C E dX10_chance_45 h
        · refine s_bipush C (-2 : Int32) dX10_chance_22 (by decide) ?_
          exact s_iret C E dX10_chance_24 h
  · refine s_bipush C (-2 : Int32) dX10_chance_22 (by decide) ?_
    exact s_iret C E dX10_chance_24 h
theorem ctX10_chance {ad : Nat → Nat} {V : sg_V} {N : Nat} (hi : sg_inj Yc ad) {a0_ : Nat} {x1_ : Int32} {x2_ : Int32} {M : sg_M} (hq0 : sg_K Yc a0_ 10) : ∀ res, fX10_chance N a0_ x1_ x2_ M = some res → sg_cI Yc ad V yX10_chance cX10_chance 3 .int 4 [.ref (ad a0_), .int x1_, .int x2_] M res := fun res h => sg_bodyI (by decide) hi (Nat.le_of_ble_eq_true rfl) (fun X hX C E => by subst hX; exact tX10_chance C E _ _ _  _ hq0 h)
def fX10_luck (N : Nat) (a0_ : Nat) (x1_ : Int32) (x2_ : Int32) (x3_ : Int32) (M : sg_M) : Option (Int64 × sg_M) :=
  sg_b (fX10_noGrid N a0_ M) (fun (x2 : Int32) (M1 : sg_M) =>
  if x2 = 0 then (
  if x1_ < 0 then (
  some ((-2 : Int64), M1)) else (
  if x2_ < (1 : Int32) then (
  some ((-2 : Int64), M1)) else (
  if (100 : Int32) < x2_ then (
  some ((-2 : Int64), M1)) else (
  sg_b (fX10_isPart N x3_ M1) (fun (x4 : Int32) (M3 : sg_M) =>
  if x4 = 0 then (
  some ((-2 : Int64), M3)) else (
  sg_bv (fX2_play N (Yc.2.2.2 a0_ 12) (Yc.2.2.2 a0_ 1) x1_ x2_ M3) (fun M5 : sg_M =>
  sg_b (fX10_partOf N (M5.2 (Yc.2.2.2 (Yc.2.2.2 a0_ 12) 1) 1) (M5.2 (Yc.2.2.2 (Yc.2.2.2 a0_ 12) 1) 2) x3_ M5) (fun (x7 : Int64) (M6 : sg_M) =>
  some (x7, M6))))))))) else (
  some ((-2 : Int64), M1)))
set_option maxHeartbeats 4000000 in
set_option maxRecDepth 100000 in
theorem tX10_luck {ad : Nat → Nat} {X : sg_X} {N : Nat} {r : Int64 × sg_M} (C : sg_C Yc ad X cX10_luck RX10 4 4) (E : sg_eL Yc ad X cX10_luck r) : ∀ (a0_ : Nat) (x1_ : Int32) (x2_ : Int32) (x3_ : Int32) (M : sg_M), sg_K Yc a0_ 10 → fX10_luck N a0_ x1_ x2_ x3_ M = some r → sg_T Yc ad X 4 0 [(0, .ref (ad a0_)), (1, .int x1_), (2, .int x2_), (3, .int x3_)] [] M := by
  intro a0_ x1_ x2_ x3_ M hq0 h
  unfold fX10_luck at h
  refine i_aload_n C dX10_luck_0 0 rfl ?_
  refine s_vcI C [] vmX10_noGrid lkX10_179 rfl rfl (by decide) hq0 (by decide) rfl rfl (Nat.le_of_ble_eq_true rfl) dX10_luck_1 (ctX10_noGrid C.inj hq0) h (fun x2 M1 h => ?_)
  refine s_if_ne C 29 (by decide) dX10_luck_4 h (fun _ h => ?_) (fun _ h => ?_)
  · refine i_iload_n C dX10_luck_7 1 rfl ?_
    refine s_if_lt C 29 (by decide) dX10_luck_8 h (fun _ h => ?_) (fun _ h => ?_)
    · refine s_ldc2 C (-2 : Int64) kl_X10_188 dX10_luck_29 ?_
      exact s_lret C E dX10_luck_32 h
    · refine i_iload_n C dX10_luck_11 2 rfl ?_
      refine s_iconst C (1 : Int32) dX10_luck_12 (by decide) ?_
      refine s_icmp_lt C 29 (by decide) dX10_luck_13 h (fun _ h => ?_) (fun _ h => ?_)
      · refine s_ldc2 C (-2 : Int64) kl_X10_188 dX10_luck_29 ?_
        exact s_lret C E dX10_luck_32 h
      · refine i_iload_n C dX10_luck_16 2 rfl ?_
        refine s_bipush C (100 : Int32) dX10_luck_17 (by decide) ?_
        refine s_icmp_gt C 29 (by decide) dX10_luck_19 h (fun _ h => ?_) (fun _ h => ?_)
        · refine s_ldc2 C (-2 : Int64) kl_X10_188 dX10_luck_29 ?_
          exact s_lret C E dX10_luck_32 h
        · refine i_iload_n C dX10_luck_22 3 rfl ?_
          refine s_scI C [_] smX10_isPart lkX10_185 (by decide) rfl rfl (Nat.le_of_ble_eq_true rfl) dX10_luck_23 (ctX10_isPart C.inj ) h (fun x4 M3 h => ?_)
          refine s_if_ne C 33 (by decide) dX10_luck_26 h (fun _ h => ?_) (fun _ h => ?_)
          · refine s_ldc2 C (-2 : Int64) kl_X10_188 dX10_luck_29 ?_
            exact s_lret C E dX10_luck_32 h
          · refine i_aload_n C dX10_luck_33 0 rfl ?_
            refine gf10_83 C hq0 dX10_luck_34 ?_
            refine i_aload_n C dX10_luck_37 0 rfl ?_
            refine gf10_19 C hq0 dX10_luck_38 ?_
            refine i_iload_n C dX10_luck_41 1 rfl ?_
            refine i_iload_n C dX10_luck_42 2 rfl ?_
            refine s_vcV C [_, _, _] vmX2_play lkX10_342 rfl rfl (by decide) (ky10_12 hq0) (by decide) rfl rfl (Nat.le_of_ble_eq_true rfl) dX10_luck_43 (ctX2_play C.inj (ky10_12 hq0) (ky10_1 hq0)) h (fun M5 h => ?_)
            refine i_aload_n C dX10_luck_46 0 rfl ?_
            refine gf10_83 C hq0 dX10_luck_47 ?_
            refine gf10_348 C (ky10_12 hq0) dX10_luck_50 ?_
            refine gf10_292 C (ky2_1 (ky10_12 hq0)) dX10_luck_53 ?_
            refine i_aload_n C dX10_luck_56 0 rfl ?_
            refine gf10_83 C hq0 dX10_luck_57 ?_
            refine gf10_348 C (ky10_12 hq0) dX10_luck_60 ?_
            refine gf10_293 C (ky2_1 (ky10_12 hq0)) dX10_luck_63 ?_
            refine i_iload_n C dX10_luck_66 3 rfl ?_
            refine s_scL C [_, _, _] smX10_partOf lkX10_200 (by decide) rfl rfl (Nat.le_of_ble_eq_true rfl) dX10_luck_67 (ctX10_partOf C.inj ) h (fun x7 M6 h => ?_)
            exact s_lret C E dX10_luck_70 h
  · refine s_ldc2 C (-2 : Int64) kl_X10_188 dX10_luck_29 ?_
    exact s_lret C E dX10_luck_32 h
theorem ctX10_luck {ad : Nat → Nat} {V : sg_V} {N : Nat} (hi : sg_inj Yc ad) {a0_ : Nat} {x1_ : Int32} {x2_ : Int32} {x3_ : Int32} {M : sg_M} (hq0 : sg_K Yc a0_ 10) : ∀ res, fX10_luck N a0_ x1_ x2_ x3_ M = some res → sg_cL Yc ad V yX10_luck cX10_luck 4 4 [.ref (ad a0_), .int x1_, .int x2_, .int x3_] M res := fun res h => sg_bodyL (by decide) hi (Nat.le_of_ble_eq_true rfl) (fun X hX C E => by subst hX; exact tX10_luck C E _ _ _ _  _ hq0 h)
def fX10_room (N : Nat) (a0_ : Nat) (x1_ : Int32) (M : sg_M) : Option (Int32 × sg_M) :=
  sg_b (fX10_hasNode N a0_ x1_ M) (fun (x2 : Int32) (M1 : sg_M) =>
  if x2 = 0 then (
  some ((-2 : Int32), M1)) else (
  sg_b (fX2_greatestDraw N (Yc.2.2.2 a0_ 12) (Yc.2.2.2 a0_ 1) x1_ M1) (fun (x4 : Int32) (M3 : sg_M) =>
  some (x4, M3))))
set_option maxHeartbeats 4000000 in
set_option maxRecDepth 100000 in
theorem tX10_room {ad : Nat → Nat} {X : sg_X} {N : Nat} {r : Int32 × sg_M} (C : sg_C Yc ad X cX10_room RX10 2 4) (E : sg_eI Yc ad X cX10_room .int r) : ∀ (a0_ : Nat) (x1_ : Int32) (M : sg_M), sg_K Yc a0_ 10 → fX10_room N a0_ x1_ M = some r → sg_T Yc ad X 2 0 [(0, .ref (ad a0_)), (1, .int x1_)] [] M := by
  intro a0_ x1_ M hq0 h
  unfold fX10_room at h
  refine i_aload_n C dX10_room_0 0 rfl ?_
  refine i_iload_n C dX10_room_1 1 rfl ?_
  refine s_vcI C [_] vmX10_hasNode lkX10_160 rfl rfl (by decide) hq0 (by decide) rfl rfl (Nat.le_of_ble_eq_true rfl) dX10_room_2 (ctX10_hasNode C.inj hq0) h (fun x2 M1 h => ?_)
  refine s_if_ne C 11 (by decide) dX10_room_5 h (fun _ h => ?_) (fun _ h => ?_)
  · refine s_bipush C (-2 : Int32) dX10_room_8 (by decide) ?_
    exact s_iret C E dX10_room_10 h
  · refine i_aload_n C dX10_room_11 0 rfl ?_
    refine gf10_83 C hq0 dX10_room_12 ?_
    refine i_aload_n C dX10_room_15 0 rfl ?_
    refine gf10_19 C hq0 dX10_room_16 ?_
    refine i_iload_n C dX10_room_19 1 rfl ?_
    refine s_vcI C [_, _] vmX2_greatestDraw lkX10_351 rfl rfl (by decide) (ky10_12 hq0) (by decide) rfl rfl (Nat.le_of_ble_eq_true rfl) dX10_room_20 (ctX2_greatestDraw C.inj (ky10_12 hq0) (ky10_1 hq0)) h (fun x4 M3 h => ?_)
    exact s_iret C E dX10_room_23 h
theorem ctX10_room {ad : Nat → Nat} {V : sg_V} {N : Nat} (hi : sg_inj Yc ad) {a0_ : Nat} {x1_ : Int32} {M : sg_M} (hq0 : sg_K Yc a0_ 10) : ∀ res, fX10_room N a0_ x1_ M = some res → sg_cI Yc ad V yX10_room cX10_room 2 .int 4 [.ref (ad a0_), .int x1_] M res := fun res h => sg_bodyI (by decide) hi (Nat.le_of_ble_eq_true rfl) (fun X hX C E => by subst hX; exact tX10_room C E _ _  _ hq0 h)
def fX10_lay (N : Nat) (a0_ : Nat) (x1_ : Int32) (x2_ : Int32) (M : sg_M) : Option (Int32 × sg_M) :=
  sg_b (fX10_hasStrap N a0_ x1_ M) (fun (x2 : Int32) (M1 : sg_M) =>
  if x2 = 0 then (
  some ((-2 : Int32), M1)) else (
  if x2_ < 0 then (
  some ((-2 : Int32), M1)) else (
  if x2_ ≤ (4 : Int32) then (
  if sg_ib x1_ (Yc.2.2.1 (Yc.2.2.2 (Yc.2.2.2 a0_ 1) 11)) = true then
  sg_m (M1.1 (Yc.2.2.2 (Yc.2.2.2 a0_ 1) 11) (x1_).toNatClampNeg) (fun x3 : Int32 =>
  if x3 = x2_ then (
  some ((-5 : Int32), M1)) else (
  if (M1.1 (Yc.2.2.2 a0_ 1) 8) < (20 : Int32) then (
  if sg_ib x1_ (Yc.2.2.1 (Yc.2.2.2 (Yc.2.2.2 a0_ 1) 11)) = true then
  sg_m (sg_uI M1 (Yc.2.2.2 (Yc.2.2.2 a0_ 1) 11) (x1_).toNatClampNeg x2_) (fun M4 : sg_M =>
  sg_bv (fX4_keepAct N (Yc.2.2.2 a0_ 1) (0 : Int32) x1_ x3 M4) (fun M5 : sg_M =>
  sg_bv (fX10_forget N a0_ M5) (fun M6 : sg_M =>
  some (x3, M6))))
  else none) else (
  some ((-5 : Int32), M1))))
  else none) else (
  some ((-2 : Int32), M1)))))
set_option maxHeartbeats 4000000 in
set_option maxRecDepth 100000 in
theorem tX10_lay {ad : Nat → Nat} {X : sg_X} {N : Nat} {r : Int32 × sg_M} (C : sg_C Yc ad X cX10_lay RX10 4 2) (E : sg_eI Yc ad X cX10_lay .int r) : ∀ (a0_ : Nat) (x1_ : Int32) (x2_ : Int32) (M : sg_M), sg_K Yc a0_ 10 → fX10_lay N a0_ x1_ x2_ M = some r → sg_T Yc ad X 4 0 [(0, .ref (ad a0_)), (1, .int x1_), (2, .int x2_)] [] M := by
  intro a0_ x1_ x2_ M hq0 h
  unfold fX10_lay at h
  refine i_aload_n C dX10_lay_0 0 rfl ?_
  refine i_iload_n C dX10_lay_1 1 rfl ?_
  refine s_vcI C [_] vmX10_hasStrap lkX10_146 rfl rfl (by decide) hq0 (by decide) rfl rfl (Nat.le_of_ble_eq_true rfl) dX10_lay_2 (ctX10_hasStrap C.inj hq0) h (fun x2 M1 h => ?_)
  refine s_if_eq C 17 (by decide) dX10_lay_5 h (fun _ h => ?_) (fun _ h => ?_)
  · refine s_bipush C (-2 : Int32) dX10_lay_17 (by decide) ?_
    exact s_iret C E dX10_lay_19 h
  · refine i_iload_n C dX10_lay_8 2 rfl ?_
    refine s_if_lt C 17 (by decide) dX10_lay_9 h (fun _ h => ?_) (fun _ h => ?_)
    · refine s_bipush C (-2 : Int32) dX10_lay_17 (by decide) ?_
      exact s_iret C E dX10_lay_19 h
    · refine i_iload_n C dX10_lay_12 2 rfl ?_
      refine s_iconst C (4 : Int32) dX10_lay_13 (by decide) ?_
      refine s_icmp_le C 20 (by decide) dX10_lay_14 h (fun _ h => ?_) (fun _ h => ?_)
      · refine i_aload_n C dX10_lay_20 0 rfl ?_
        refine gf10_19 C hq0 dX10_lay_21 ?_
        refine gf10_157 C (ky10_1 hq0) dX10_lay_24 ?_
        refine i_iload_n C dX10_lay_27 1 rfl ?_
        refine s_iald C (ky4_11 (ky10_1 hq0)) dX10_lay_28 h (fun h => ?_)
        refine z_gi h (fun x3 h => ?_)
        refine i_istore_n (lv9 := [(3, _), (0, _), (1, _), (2, _)]) C 3 dX10_lay_29 rfl (by decide) rfl ?_
        refine i_iload_n C dX10_lay_30 0 rfl ?_
        refine i_iload_n C dX10_lay_31 3 rfl ?_
        refine s_icmp_eq C 47 (by decide) dX10_lay_32 h (fun _ h => ?_) (fun _ h => ?_)
        · refine s_bipush C (-5 : Int32) dX10_lay_47 (by decide) ?_
          exact s_iret C E dX10_lay_49 h
        · refine i_aload_n C dX10_lay_35 1 rfl ?_
          refine gf10_19 C hq0 dX10_lay_36 ?_
          refine gf10_133 C (ky10_1 hq0) dX10_lay_39 ?_
          refine s_bipush C (20 : Int32) dX10_lay_42 (by decide) ?_
          refine s_icmp_lt C 50 (by decide) dX10_lay_44 h (fun _ h => ?_) (fun _ h => ?_)
          · refine i_aload_n C dX10_lay_50 1 rfl ?_
            refine gf10_19 C hq0 dX10_lay_51 ?_
            refine gf10_157 C (ky10_1 hq0) dX10_lay_54 ?_
            refine i_iload_n C dX10_lay_57 2 rfl ?_
            refine i_iload_n C dX10_lay_58 3 rfl ?_
            refine s_iast C (ky4_11 (ky10_1 hq0)) dX10_lay_59 h (fun h => ?_)
            refine z_gM h (fun M4 h => ?_)
            refine i_aload_n C dX10_lay_60 1 rfl ?_
            refine gf10_19 C hq0 dX10_lay_61 ?_
            refine s_iconst C (0 : Int32) dX10_lay_64 (by decide) ?_
            refine i_iload_n C dX10_lay_65 2 rfl ?_
            refine i_iload_n C dX10_lay_66 0 rfl ?_
            refine s_vcV C [_, _, _] vmX4_keepAct lkX10_354 rfl rfl (by decide) (ky10_1 hq0) (by decide) rfl rfl (Nat.le_of_ble_eq_true rfl) dX10_lay_67 (ctX4_keepAct C.inj (ky10_1 hq0)) h (fun M5 h => ?_)
            refine i_aload_n C dX10_lay_70 1 rfl ?_
            refine s_vcV C [] vmX10_forget lkX10_106 rfl rfl (by decide) hq0 (by decide) rfl rfl (Nat.le_of_ble_eq_true rfl) dX10_lay_71 (ctX10_forget C.inj hq0) h (fun M6 h => ?_)
            refine i_iload_n C dX10_lay_74 0 rfl ?_
            exact s_iret C E dX10_lay_75 h
          · refine s_bipush C (-5 : Int32) dX10_lay_47 (by decide) ?_
            exact s_iret C E dX10_lay_49 h
      · refine s_bipush C (-2 : Int32) dX10_lay_17 (by decide) ?_
        exact s_iret C E dX10_lay_19 h
theorem ctX10_lay {ad : Nat → Nat} {V : sg_V} {N : Nat} (hi : sg_inj Yc ad) {a0_ : Nat} {x1_ : Int32} {x2_ : Int32} {M : sg_M} (hq0 : sg_K Yc a0_ 10) : ∀ res, fX10_lay N a0_ x1_ x2_ M = some res → sg_cI Yc ad V yX10_lay cX10_lay 4 .int 2 [.ref (ad a0_), .int x1_, .int x2_] M res := fun res h => sg_bodyI (by decide) hi (Nat.le_of_ble_eq_true rfl) (fun X hX C E => by subst hX; exact tX10_lay C E _ _ _  _ hq0 h)
def fX10_feeds (N : Nat) (a0_ : Nat) (x1_ : Int32) (M : sg_M) : Option (Int32 × sg_M) :=
  sg_b (fX10_hasNode N a0_ x1_ M) (fun (x2 : Int32) (M1 : sg_M) =>
  if x2 = 0 then (
  some ((-2 : Int32), M1)) else (
  if (M1.1 (Yc.2.2.2 a0_ 1) 8) < (20 : Int32) then (
  sg_m (sg_uI M1 (Yc.2.2.2 a0_ 1) 7 ((M1.1 (Yc.2.2.2 a0_ 1) 7) ^^^ ((1 : Int32) <<< (x1_ &&& 31)))) (fun M3 : sg_M =>
  sg_bv (fX4_keepAct N (Yc.2.2.2 a0_ 1) (1 : Int32) x1_ (0 : Int32) M3) (fun M4 : sg_M =>
  sg_bv (fX10_forget N a0_ M4) (fun M5 : sg_M =>
  sg_b (fJ6_bitCount_0f7a4 N (M5.1 (Yc.2.2.2 a0_ 1) 7) M5) (fun (x7 : Int32) (M6 : sg_M) =>
  some (x7, M6)))))) else (
  some ((-5 : Int32), M1))))
set_option maxHeartbeats 4000000 in
set_option maxRecDepth 100000 in
theorem tX10_feeds {ad : Nat → Nat} {X : sg_X} {N : Nat} {r : Int32 × sg_M} (C : sg_C Yc ad X cX10_feeds RX10 2 2) (E : sg_eI Yc ad X cX10_feeds .int r) : ∀ (a0_ : Nat) (x1_ : Int32) (M : sg_M), sg_K Yc a0_ 10 → fX10_feeds N a0_ x1_ M = some r → sg_T Yc ad X 2 0 [(0, .ref (ad a0_)), (1, .int x1_)] [] M := by
  intro a0_ x1_ M hq0 h
  unfold fX10_feeds at h
  refine i_aload_n C dX10_feeds_0 0 rfl ?_
  refine i_iload_n C dX10_feeds_1 1 rfl ?_
  refine s_vcI C [_] vmX10_hasNode lkX10_160 rfl rfl (by decide) hq0 (by decide) rfl rfl (Nat.le_of_ble_eq_true rfl) dX10_feeds_2 (ctX10_hasNode C.inj hq0) h (fun x2 M1 h => ?_)
  refine s_if_ne C 11 (by decide) dX10_feeds_5 h (fun _ h => ?_) (fun _ h => ?_)
  · refine s_bipush C (-2 : Int32) dX10_feeds_8 (by decide) ?_
    exact s_iret C E dX10_feeds_10 h
  · refine i_aload_n C dX10_feeds_11 0 rfl ?_
    refine gf10_19 C hq0 dX10_feeds_12 ?_
    refine gf10_133 C (ky10_1 hq0) dX10_feeds_15 ?_
    refine s_bipush C (20 : Int32) dX10_feeds_18 (by decide) ?_
    refine s_icmp_lt C 26 (by decide) dX10_feeds_20 h (fun _ h => ?_) (fun _ h => ?_)
    · refine i_aload_n C dX10_feeds_26 0 rfl ?_
      refine gf10_19 C hq0 dX10_feeds_27 ?_
      refine s_dup C dX10_feeds_30 rfl ?_
      refine gf10_136 C (ky10_1 hq0) dX10_feeds_31 ?_
      refine s_iconst C (1 : Int32) dX10_feeds_34 (by decide) ?_
      refine i_iload_n C dX10_feeds_35 1 rfl ?_
      refine s_ishl C dX10_feeds_36 ?_
      refine s_ixor C dX10_feeds_37 ?_
      refine pf10_136 C (ky10_1 hq0) dX10_feeds_38 ?_
      refine z_gM h (fun M3 h => ?_)
      refine i_aload_n C dX10_feeds_41 0 rfl ?_
      refine gf10_19 C hq0 dX10_feeds_42 ?_
      refine s_iconst C (1 : Int32) dX10_feeds_45 (by decide) ?_
      refine i_iload_n C dX10_feeds_46 1 rfl ?_
      refine s_iconst C (0 : Int32) dX10_feeds_47 (by decide) ?_
      refine s_vcV C [_, _, _] vmX4_keepAct lkX10_354 rfl rfl (by decide) (ky10_1 hq0) (by decide) rfl rfl (Nat.le_of_ble_eq_true rfl) dX10_feeds_48 (ctX4_keepAct C.inj (ky10_1 hq0)) h (fun M4 h => ?_)
      refine i_aload_n C dX10_feeds_51 0 rfl ?_
      refine s_vcV C [] vmX10_forget lkX10_106 rfl rfl (by decide) hq0 (by decide) rfl rfl (Nat.le_of_ble_eq_true rfl) dX10_feeds_52 (ctX10_forget C.inj hq0) h (fun M5 h => ?_)
      refine i_aload_n C dX10_feeds_55 0 rfl ?_
      refine gf10_19 C hq0 dX10_feeds_56 ?_
      refine gf10_136 C (ky10_1 hq0) dX10_feeds_59 ?_
      refine s_scI C [_] smJ6_bitCount_0f7a4 lkX10_358 (by decide) rfl rfl (Nat.le_of_ble_eq_true rfl) dX10_feeds_62 (ctJ6_bitCount_0f7a4 C.inj ) h (fun x7 M6 h => ?_)
      exact s_iret C E dX10_feeds_65 h
    · refine s_bipush C (-5 : Int32) dX10_feeds_23 (by decide) ?_
      exact s_iret C E dX10_feeds_25 h
theorem ctX10_feeds {ad : Nat → Nat} {V : sg_V} {N : Nat} (hi : sg_inj Yc ad) {a0_ : Nat} {x1_ : Int32} {M : sg_M} (hq0 : sg_K Yc a0_ 10) : ∀ res, fX10_feeds N a0_ x1_ M = some res → sg_cI Yc ad V yX10_feeds cX10_feeds 2 .int 2 [.ref (ad a0_), .int x1_] M res := fun res h => sg_bodyI (by decide) hi (Nat.le_of_ble_eq_true rfl) (fun X hX C E => by subst hX; exact tX10_feeds C E _ _  _ hq0 h)
def fX10_draw (N : Nat) (a0_ : Nat) (x1_ : Int32) (x2_ : Int32) (M : sg_M) : Option (Int32 × sg_M) :=
  sg_b (fX10_hasNode N a0_ x1_ M) (fun (x2 : Int32) (M1 : sg_M) =>
  if x2 = 0 then (
  some ((-2 : Int32), M1)) else (
  if x2_ < 0 then (
  some ((-2 : Int32), M1)) else (
  if x2_ ≤ (99 : Int32) then (
  if sg_ib x1_ (Yc.2.2.1 (Yc.2.2.2 (Yc.2.2.2 a0_ 1) 12)) = true then
  sg_m (M1.1 (Yc.2.2.2 (Yc.2.2.2 a0_ 1) 12) (x1_).toNatClampNeg) (fun x3 : Int32 =>
  if x3 = x2_ then (
  some ((-5 : Int32), M1)) else (
  if (M1.1 (Yc.2.2.2 a0_ 1) 8) < (20 : Int32) then (
  if sg_ib x1_ (Yc.2.2.1 (Yc.2.2.2 (Yc.2.2.2 a0_ 1) 12)) = true then
  sg_m (sg_uI M1 (Yc.2.2.2 (Yc.2.2.2 a0_ 1) 12) (x1_).toNatClampNeg x2_) (fun M4 : sg_M =>
  sg_bv (fX4_keepAct N (Yc.2.2.2 a0_ 1) (2 : Int32) x1_ x3 M4) (fun M5 : sg_M =>
  sg_bv (fX10_forget N a0_ M5) (fun M6 : sg_M =>
  some (x3, M6))))
  else none) else (
  some ((-5 : Int32), M1))))
  else none) else (
  some ((-2 : Int32), M1)))))
set_option maxHeartbeats 4000000 in
set_option maxRecDepth 100000 in
theorem tX10_draw {ad : Nat → Nat} {X : sg_X} {N : Nat} {r : Int32 × sg_M} (C : sg_C Yc ad X cX10_draw RX10 4 2) (E : sg_eI Yc ad X cX10_draw .int r) : ∀ (a0_ : Nat) (x1_ : Int32) (x2_ : Int32) (M : sg_M), sg_K Yc a0_ 10 → fX10_draw N a0_ x1_ x2_ M = some r → sg_T Yc ad X 4 0 [(0, .ref (ad a0_)), (1, .int x1_), (2, .int x2_)] [] M := by
  intro a0_ x1_ x2_ M hq0 h
  unfold fX10_draw at h
  refine i_aload_n C dX10_draw_0 0 rfl ?_
  refine i_iload_n C dX10_draw_1 1 rfl ?_
  refine s_vcI C [_] vmX10_hasNode lkX10_160 rfl rfl (by decide) hq0 (by decide) rfl rfl (Nat.le_of_ble_eq_true rfl) dX10_draw_2 (ctX10_hasNode C.inj hq0) h (fun x2 M1 h => ?_)
  refine s_if_eq C 18 (by decide) dX10_draw_5 h (fun _ h => ?_) (fun _ h => ?_)
  · refine s_bipush C (-2 : Int32) dX10_draw_18 (by decide) ?_
    exact s_iret C E dX10_draw_20 h
  · refine i_iload_n C dX10_draw_8 2 rfl ?_
    refine s_if_lt C 18 (by decide) dX10_draw_9 h (fun _ h => ?_) (fun _ h => ?_)
    · refine s_bipush C (-2 : Int32) dX10_draw_18 (by decide) ?_
      exact s_iret C E dX10_draw_20 h
    · refine i_iload_n C dX10_draw_12 2 rfl ?_
      refine s_bipush C (99 : Int32) dX10_draw_13 (by decide) ?_
      refine s_icmp_le C 21 (by decide) dX10_draw_15 h (fun _ h => ?_) (fun _ h => ?_)
      · refine i_aload_n C dX10_draw_21 0 rfl ?_
        refine gf10_19 C hq0 dX10_draw_22 ?_
        refine gf10_170 C (ky10_1 hq0) dX10_draw_25 ?_
        refine i_iload_n C dX10_draw_28 1 rfl ?_
        refine s_iald C (ky4_12 (ky10_1 hq0)) dX10_draw_29 h (fun h => ?_)
        refine z_gi h (fun x3 h => ?_)
        refine i_istore_n (lv9 := [(3, _), (0, _), (1, _), (2, _)]) C 3 dX10_draw_30 rfl (by decide) rfl ?_
        refine i_iload_n C dX10_draw_31 0 rfl ?_
        refine i_iload_n C dX10_draw_32 3 rfl ?_
        refine s_icmp_eq C 48 (by decide) dX10_draw_33 h (fun _ h => ?_) (fun _ h => ?_)
        · refine s_bipush C (-5 : Int32) dX10_draw_48 (by decide) ?_
          exact s_iret C E dX10_draw_50 h
        · refine i_aload_n C dX10_draw_36 1 rfl ?_
          refine gf10_19 C hq0 dX10_draw_37 ?_
          refine gf10_133 C (ky10_1 hq0) dX10_draw_40 ?_
          refine s_bipush C (20 : Int32) dX10_draw_43 (by decide) ?_
          refine s_icmp_lt C 51 (by decide) dX10_draw_45 h (fun _ h => ?_) (fun _ h => ?_)
          · refine i_aload_n C dX10_draw_51 1 rfl ?_
            refine gf10_19 C hq0 dX10_draw_52 ?_
            refine gf10_170 C (ky10_1 hq0) dX10_draw_55 ?_
            refine i_iload_n C dX10_draw_58 2 rfl ?_
            refine i_iload_n C dX10_draw_59 3 rfl ?_
            refine s_iast C (ky4_12 (ky10_1 hq0)) dX10_draw_60 h (fun h => ?_)
            refine z_gM h (fun M4 h => ?_)
            refine i_aload_n C dX10_draw_61 1 rfl ?_
            refine gf10_19 C hq0 dX10_draw_62 ?_
            refine s_iconst C (2 : Int32) dX10_draw_65 (by decide) ?_
            refine i_iload_n C dX10_draw_66 2 rfl ?_
            refine i_iload_n C dX10_draw_67 0 rfl ?_
            refine s_vcV C [_, _, _] vmX4_keepAct lkX10_354 rfl rfl (by decide) (ky10_1 hq0) (by decide) rfl rfl (Nat.le_of_ble_eq_true rfl) dX10_draw_68 (ctX4_keepAct C.inj (ky10_1 hq0)) h (fun M5 h => ?_)
            refine i_aload_n C dX10_draw_71 1 rfl ?_
            refine s_vcV C [] vmX10_forget lkX10_106 rfl rfl (by decide) hq0 (by decide) rfl rfl (Nat.le_of_ble_eq_true rfl) dX10_draw_72 (ctX10_forget C.inj hq0) h (fun M6 h => ?_)
            refine i_iload_n C dX10_draw_75 0 rfl ?_
            exact s_iret C E dX10_draw_76 h
          · refine s_bipush C (-5 : Int32) dX10_draw_48 (by decide) ?_
            exact s_iret C E dX10_draw_50 h
      · refine s_bipush C (-2 : Int32) dX10_draw_18 (by decide) ?_
        exact s_iret C E dX10_draw_20 h
theorem ctX10_draw {ad : Nat → Nat} {V : sg_V} {N : Nat} (hi : sg_inj Yc ad) {a0_ : Nat} {x1_ : Int32} {x2_ : Int32} {M : sg_M} (hq0 : sg_K Yc a0_ 10) : ∀ res, fX10_draw N a0_ x1_ x2_ M = some res → sg_cI Yc ad V yX10_draw cX10_draw 4 .int 2 [.ref (ad a0_), .int x1_, .int x2_] M res := fun res h => sg_bodyI (by decide) hi (Nat.le_of_ble_eq_true rfl) (fun X hX C E => by subst hX; exact tX10_draw C E _ _ _  _ hq0 h)
def fX10_year (N : Nat) (a0_ : Nat) (M : sg_M) : Option (Int32 × sg_M) :=
  sg_b (fX10_noGrid N a0_ M) (fun (x2 : Int32) (M1 : sg_M) =>
  if x2 = 0 then (
  if (M1.1 (Yc.2.2.2 a0_ 1) 8) < (20 : Int32) then (
  sg_b (fX10_now N a0_ M1) (fun (x4 : Nat) (M3 : sg_M) =>
  sg_b (fX1_wearBits N x4 (Yc.2.2.2 a0_ 1) (Yc.2.2.2 (Yc.2.2.2 a0_ 1) 11) M3) (fun (x6 : Int32) (M5 : sg_M) =>
  sg_m x6 (fun x7 : Int32 =>
  sg_bv (fX4_shiftWidths N (Yc.2.2.2 a0_ 1) (Yc.2.2.2 (Yc.2.2.2 a0_ 1) 11) x7 (-1 : Int32) M5) (fun M8 : sg_M =>
  sg_b (fJ6_bitCount_0f7a4 N x7 M8) (fun (x10 : Int32) (M9 : sg_M) =>
  sg_m x10 (fun x11 : Int32 =>
  sg_bv (fX4_keepAct N (Yc.2.2.2 a0_ 1) (3 : Int32) x7 x11 M9) (fun M12 : sg_M =>
  sg_bv (fX10_forget N a0_ M12) (fun M13 : sg_M =>
  some (x11, M13)))))))))) else (
  some ((-5 : Int32), M1))) else (
  some ((-2 : Int32), M1)))
set_option maxHeartbeats 4000000 in
set_option maxRecDepth 100000 in
theorem tX10_year {ad : Nat → Nat} {X : sg_X} {N : Nat} {r : Int32 × sg_M} (C : sg_C Yc ad X cX10_year RX10 3 4) (E : sg_eI Yc ad X cX10_year .int r) : ∀ (a0_ : Nat) (M : sg_M), sg_K Yc a0_ 10 → fX10_year N a0_ M = some r → sg_T Yc ad X 3 0 [(0, .ref (ad a0_))] [] M := by
  intro a0_ M hq0 h
  unfold fX10_year at h
  refine i_aload_n C dX10_year_0 0 rfl ?_
  refine s_vcI C [] vmX10_noGrid lkX10_179 rfl rfl (by decide) hq0 (by decide) rfl rfl (Nat.le_of_ble_eq_true rfl) dX10_year_1 (ctX10_noGrid C.inj hq0) h (fun x2 M1 h => ?_)
  refine s_if_eq C 10 (by decide) dX10_year_4 h (fun _ h => ?_) (fun _ h => ?_)
  · refine i_aload_n C dX10_year_10 0 rfl ?_
    refine gf10_19 C hq0 dX10_year_11 ?_
    refine gf10_133 C (ky10_1 hq0) dX10_year_14 ?_
    refine s_bipush C (20 : Int32) dX10_year_17 (by decide) ?_
    refine s_icmp_lt C 25 (by decide) dX10_year_19 h (fun _ h => ?_) (fun _ h => ?_)
    · refine i_aload_n C dX10_year_25 0 rfl ?_
      refine s_vcR C [] vmX10_now lkX10_139 rfl rfl (by decide) hq0 (by decide) rfl rfl (Nat.le_of_ble_eq_true rfl) dX10_year_26 (ctX10_now C.inj hq0) h (fun x4 M3 hfx4 h => ?_)
      refine i_aload_n C dX10_year_29 0 rfl ?_
      refine gf10_19 C hq0 dX10_year_30 ?_
      refine i_aload_n C dX10_year_33 0 rfl ?_
      refine gf10_19 C hq0 dX10_year_34 ?_
      refine gf10_157 C (ky10_1 hq0) dX10_year_37 ?_
      refine s_vcI C [_, _] vmX1_wearBits lkX10_254 rfl rfl (by decide) (krX10_now hq0 hfx4) (by decide) rfl rfl (Nat.le_of_ble_eq_true rfl) dX10_year_40 (ctX1_wearBits C.inj (krX10_now hq0 hfx4) (ky10_1 hq0) (ky4_11 (ky10_1 hq0))) h (fun x6 M5 h => ?_)
      refine z_gi h (fun x7 h => ?_)
      refine i_istore_n (lv9 := [(1, _), (0, _)]) C 1 dX10_year_43 rfl (by decide) rfl ?_
      refine i_aload_n C dX10_year_44 1 rfl ?_
      refine gf10_19 C hq0 dX10_year_45 ?_
      refine i_aload_n C dX10_year_48 1 rfl ?_
      refine gf10_19 C hq0 dX10_year_49 ?_
      refine gf10_157 C (ky10_1 hq0) dX10_year_52 ?_
      refine i_iload_n C dX10_year_55 0 rfl ?_
      refine s_iconst C (-1 : Int32) dX10_year_56 (by decide) ?_
      refine s_vcV C [_, _, _] vmX4_shiftWidths lkX10_363 rfl rfl (by decide) (ky10_1 hq0) (by decide) rfl rfl (Nat.le_of_ble_eq_true rfl) dX10_year_57 (ctX4_shiftWidths C.inj (ky10_1 hq0) (ky4_11 (ky10_1 hq0))) h (fun M8 h => ?_)
      refine i_iload_n C dX10_year_60 0 rfl ?_
      refine s_scI C [_] smJ6_bitCount_0f7a4 lkX10_358 (by decide) rfl rfl (Nat.le_of_ble_eq_true rfl) dX10_year_61 (ctJ6_bitCount_0f7a4 C.inj ) h (fun x10 M9 h => ?_)
      refine z_gi h (fun x11 h => ?_)
      refine i_istore_n (lv9 := [(2, _), (1, _), (0, _)]) C 2 dX10_year_64 rfl (by decide) rfl ?_
      refine i_aload_n C dX10_year_65 2 rfl ?_
      refine gf10_19 C hq0 dX10_year_66 ?_
      refine s_iconst C (3 : Int32) dX10_year_69 (by decide) ?_
      refine i_iload_n C dX10_year_70 1 rfl ?_
      refine i_iload_n C dX10_year_71 0 rfl ?_
      refine s_vcV C [_, _, _] vmX4_keepAct lkX10_354 rfl rfl (by decide) (ky10_1 hq0) (by decide) rfl rfl (Nat.le_of_ble_eq_true rfl) dX10_year_72 (ctX4_keepAct C.inj (ky10_1 hq0)) h (fun M12 h => ?_)
      refine i_aload_n C dX10_year_75 2 rfl ?_
      refine s_vcV C [] vmX10_forget lkX10_106 rfl rfl (by decide) hq0 (by decide) rfl rfl (Nat.le_of_ble_eq_true rfl) dX10_year_76 (ctX10_forget C.inj hq0) h (fun M13 h => ?_)
      refine i_iload_n C dX10_year_79 0 rfl ?_
      exact s_iret C E dX10_year_80 h
    · refine s_bipush C (-5 : Int32) dX10_year_22 (by decide) ?_
      exact s_iret C E dX10_year_24 h
  · refine s_bipush C (-2 : Int32) dX10_year_7 (by decide) ?_
    exact s_iret C E dX10_year_9 h
theorem ctX10_year {ad : Nat → Nat} {V : sg_V} {N : Nat} (hi : sg_inj Yc ad) {a0_ : Nat} {M : sg_M} (hq0 : sg_K Yc a0_ 10) : ∀ res, fX10_year N a0_ M = some res → sg_cI Yc ad V yX10_year cX10_year 3 .int 4 [.ref (ad a0_)] M res := fun res h => sg_bodyI (by decide) hi (Nat.le_of_ble_eq_true rfl) (fun X hX C E => by subst hX; exact tX10_year C E _  _ hq0 h)
def bX10_did_34 (N : Nat)  (k34 : (Nat × Int32 × Int32 × Int32 × Int32 × Int32) → sg_M → Option (Int32 × sg_M)) (s : Nat × Int32 × Int32 × Int32 × Int32 × Int32) (M : sg_M) : Option (Int32 × sg_M) :=
  if (M.1 (Yc.2.2.2 s.1 1) 8) ≤ s.2.2.2.2.2 then (
  if s.2.2.1 = 0 then (
  some (s.2.2.2.1, M)) else (
  some (s.2.2.2.2.1, M))) else (
  if sg_ib s.2.2.2.2.2 (Yc.2.2.1 (Yc.2.2.2 (Yc.2.2.2 s.1 1) 15)) = true then
  if (M.1 (Yc.2.2.2 (Yc.2.2.2 s.1 1) 15) (s.2.2.2.2.2).toNatClampNeg) = s.2.1 then (
  sg_m (s.2.2.2.1 + (1 : Int32)) (fun x1 : Int32 =>
  if sg_ib s.2.2.2.2.2 (Yc.2.2.1 (Yc.2.2.2 (Yc.2.2.2 s.1 1) 17)) = true then
  sg_m (s.2.2.2.2.1 + (M.1 (Yc.2.2.2 (Yc.2.2.2 s.1 1) 17) (s.2.2.2.2.2).toNatClampNeg)) (fun x2 : Int32 =>
  sg_m (s.2.2.2.2.2 + (1 : Int32)) (fun x3 : Int32 =>
  k34 (s.1, s.2.1, s.2.2.1, x1, x2, x3) M))
  else none)) else (
  sg_m (s.2.2.2.2.2 + (1 : Int32)) (fun x4 : Int32 =>
  k34 (s.1, s.2.1, s.2.2.1, s.2.2.2.1, s.2.2.2.2.1, x4) M))
  else none)
def gX10_did_34 (N : Nat)  : (Nat × Int32 × Int32 × Int32 × Int32 × Int32) → sg_M → Option (Int32 × sg_M) := sg_lp (bX10_did_34 N ) N
set_option maxHeartbeats 4000000 in
set_option maxRecDepth 100000 in
theorem tX10_did_34 {ad : Nat → Nat} {X : sg_X} {N : Nat} {r : Int32 × sg_M} (C : sg_C Yc ad X cX10_did RX10 6 1) (E : sg_eI Yc ad X cX10_did .int r)  : ∀ (s : Nat × Int32 × Int32 × Int32 × Int32 × Int32) (M : sg_M), gX10_did_34 N s M = some r → sg_K Yc s.1 10 → sg_T Yc ad X 6 34 [(0, .ref (ad (s.1))), (1, .int (s.2.1)), (2, .int (s.2.2.1)), (3, .int (s.2.2.2.1)), (4, .int (s.2.2.2.2.1)), (5, .int (s.2.2.2.2.2))] [] M := by
  have key : ∀ n : Nat, ∀ (s : Nat × Int32 × Int32 × Int32 × Int32 × Int32) (M : sg_M), sg_lp (bX10_did_34 N) n s M = some r → sg_K Yc s.1 10 → sg_T Yc ad X 6 34 [(0, .ref (ad (s.1))), (1, .int (s.2.1)), (2, .int (s.2.2.1)), (3, .int (s.2.2.2.1)), (4, .int (s.2.2.2.2.1)), (5, .int (s.2.2.2.2.2))] [] M := by
    intro n
    induction n with
    | zero => intro s M h; cases h
    | succ n ih =>
      intro s M h hq0
      have h : bX10_did_34 N (sg_lp (bX10_did_34 N) n) s M = some r := h
      generalize sg_lp (bX10_did_34 N) n = k34 at h ih
      have hk34 := ih
      unfold bX10_did_34 at h
      refine i_iload C dX10_did_34 5 rfl ?_
      refine i_aload_n C dX10_did_36 0 rfl ?_
      refine gf10_19 C hq0 dX10_did_37 ?_
      refine gf10_133 C (ky10_1 hq0) dX10_did_40 ?_
      refine s_icmp_ge C 84 (by decide) dX10_did_43 h (fun _ h => ?_) (fun _ h => ?_)
      · refine i_iload_n C dX10_did_84 2 rfl ?_
        refine s_if_ne C 92 (by decide) dX10_did_85 h (fun _ h => ?_) (fun _ h => ?_)
        · refine i_iload_n C dX10_did_88 3 rfl ?_
          refine s_goto C 94 (by decide) dX10_did_89 ?_
          exact s_iret C E dX10_did_94 h
        · refine i_iload C dX10_did_92 4 rfl ?_
          exact s_iret C E dX10_did_94 h
      · refine i_aload_n C dX10_did_46 0 rfl ?_
        refine gf10_19 C hq0 dX10_did_47 ?_
        refine gf10_367 C (ky10_1 hq0) dX10_did_50 ?_
        refine i_iload C dX10_did_53 5 rfl ?_
        refine s_iald C (ky4_15 (ky10_1 hq0)) dX10_did_55 h (fun h => ?_)
        refine i_iload_n C dX10_did_56 1 rfl ?_
        refine s_icmp_ne C 78 (by decide) dX10_did_57 h (fun _ h => ?_) (fun _ h => ?_)
        · refine z_iinc (n := 1) (c9 := (1 : Int32)) (by decide) h (fun x1 hx h => ?_)
          refine i_iinc (lv9 := [(3, _), (0, _), (1, _), (2, _), (4, _), (5, _)]) C dX10_did_60 3 rfl hx (by decide) rfl ?_
          refine i_iload C dX10_did_63 4 rfl ?_
          refine i_aload_n C dX10_did_65 1 rfl ?_
          refine gf10_19 C hq0 dX10_did_66 ?_
          refine gf10_370 C (ky10_1 hq0) dX10_did_69 ?_
          refine i_iload C dX10_did_72 5 rfl ?_
          refine s_iald C (ky4_17 (ky10_1 hq0)) dX10_did_74 h (fun h => ?_)
          refine s_iadd C dX10_did_75 ?_
          refine z_gi h (fun x2 h => ?_)
          refine i_istore (lv9 := [(4, _), (3, _), (0, _), (1, _), (2, _), (5, _)]) C dX10_did_76 (by decide) rfl ?_
          refine z_iinc (n := 1) (c9 := (1 : Int32)) (by decide) h (fun x3 hx h => ?_)
          refine i_iinc (lv9 := [(5, _), (4, _), (3, _), (0, _), (1, _), (2, _)]) C dX10_did_78 5 rfl hx (by decide) rfl ?_
          refine s_goto C 34 (by decide) dX10_did_81 ?_
          exact sg_T.to (hk34 _ _ h hq0) [3, 4, 5, 2, 1, 0] rfl
        · refine z_iinc (n := 1) (c9 := (1 : Int32)) (by decide) h (fun x4 hx h => ?_)
          refine i_iinc (lv9 := [(5, _), (0, _), (1, _), (2, _), (3, _), (4, _)]) C dX10_did_78 5 rfl hx (by decide) rfl ?_
          refine s_goto C 34 (by decide) dX10_did_81 ?_
          exact sg_T.to (hk34 _ _ h hq0) [1, 2, 3, 4, 5, 0] rfl
  exact key N
def fX10_did (N : Nat) (a0_ : Nat) (x1_ : Int32) (x2_ : Int32) (M : sg_M) : Option (Int32 × sg_M) :=
  sg_b (fX10_noGrid N a0_ M) (fun (x6 : Int32) (M5 : sg_M) =>
  if x6 = 0 then (
  if x1_ < 0 then (
  some ((-2 : Int32), M5)) else (
  if (3 : Int32) < x1_ then (
  some ((-2 : Int32), M5)) else (
  sg_b (fX10_isPart N x2_ M5) (fun (x8 : Int32) (M7 : sg_M) =>
  if x8 = 0 then (
  some ((-2 : Int32), M7)) else (
  sg_m (0 : Int32) (fun x9 : Int32 =>
  sg_m (0 : Int32) (fun x10 : Int32 =>
  sg_m (0 : Int32) (fun x11 : Int32 =>
  gX10_did_34 N (a0_, x1_, x2_, x9, x10, x11) M7)))))))) else (
  some ((-2 : Int32), M5)))
set_option maxHeartbeats 4000000 in
set_option maxRecDepth 100000 in
theorem tX10_did {ad : Nat → Nat} {X : sg_X} {N : Nat} {r : Int32 × sg_M} (C : sg_C Yc ad X cX10_did RX10 6 1) (E : sg_eI Yc ad X cX10_did .int r) : ∀ (a0_ : Nat) (x1_ : Int32) (x2_ : Int32) (M : sg_M), sg_K Yc a0_ 10 → fX10_did N a0_ x1_ x2_ M = some r → sg_T Yc ad X 6 0 [(0, .ref (ad a0_)), (1, .int x1_), (2, .int x2_)] [] M := by
  intro a0_ x1_ x2_ M hq0 h
  unfold fX10_did at h
  refine i_aload_n C dX10_did_0 0 rfl ?_
  refine s_vcI C [] vmX10_noGrid lkX10_179 rfl rfl (by decide) hq0 (by decide) rfl rfl (Nat.le_of_ble_eq_true rfl) dX10_did_1 (ctX10_noGrid C.inj hq0) h (fun x6 M5 h => ?_)
  refine s_if_ne C 23 (by decide) dX10_did_4 h (fun _ h => ?_) (fun _ h => ?_)
  · refine i_iload_n C dX10_did_7 1 rfl ?_
    refine s_if_lt C 23 (by decide) dX10_did_8 h (fun _ h => ?_) (fun _ h => ?_)
    · refine s_bipush C (-2 : Int32) dX10_did_23 (by decide) ?_
      exact s_iret C E dX10_did_25 h
    · refine i_iload_n C dX10_did_11 1 rfl ?_
      refine s_iconst C (3 : Int32) dX10_did_12 (by decide) ?_
      refine s_icmp_gt C 23 (by decide) dX10_did_13 h (fun _ h => ?_) (fun _ h => ?_)
      · refine s_bipush C (-2 : Int32) dX10_did_23 (by decide) ?_
        exact s_iret C E dX10_did_25 h
      · refine i_iload_n C dX10_did_16 2 rfl ?_
        refine s_scI C [_] smX10_isPart lkX10_185 (by decide) rfl rfl (Nat.le_of_ble_eq_true rfl) dX10_did_17 (ctX10_isPart C.inj ) h (fun x8 M7 h => ?_)
        refine s_if_ne C 26 (by decide) dX10_did_20 h (fun _ h => ?_) (fun _ h => ?_)
        · refine s_bipush C (-2 : Int32) dX10_did_23 (by decide) ?_
          exact s_iret C E dX10_did_25 h
        · refine s_iconst C (0 : Int32) dX10_did_26 (by decide) ?_
          refine z_gi h (fun x9 h => ?_)
          refine i_istore_n (lv9 := [(3, _), (0, _), (1, _), (2, _)]) C 3 dX10_did_27 rfl (by decide) rfl ?_
          refine s_iconst C (0 : Int32) dX10_did_28 (by decide) ?_
          refine z_gi h (fun x10 h => ?_)
          refine i_istore (lv9 := [(4, _), (3, _), (0, _), (1, _), (2, _)]) C dX10_did_29 (by decide) rfl ?_
          refine s_iconst C (0 : Int32) dX10_did_31 (by decide) ?_
          refine z_gi h (fun x11 h => ?_)
          refine i_istore (lv9 := [(5, _), (4, _), (3, _), (0, _), (1, _), (2, _)]) C dX10_did_32 (by decide) rfl ?_
          exact sg_T.to (tX10_did_34 C E _ _ h hq0) [3, 4, 5, 2, 1, 0] rfl
  · refine s_bipush C (-2 : Int32) dX10_did_23 (by decide) ?_
    exact s_iret C E dX10_did_25 h
theorem ctX10_did {ad : Nat → Nat} {V : sg_V} {N : Nat} (hi : sg_inj Yc ad) {a0_ : Nat} {x1_ : Int32} {x2_ : Int32} {M : sg_M} (hq0 : sg_K Yc a0_ 10) : ∀ res, fX10_did N a0_ x1_ x2_ M = some res → sg_cI Yc ad V yX10_did cX10_did 6 .int 1 [.ref (ad a0_), .int x1_, .int x2_] M res := fun res h => sg_bodyI (by decide) hi (Nat.le_of_ble_eq_true rfl) (fun X hX C E => by subst hX; exact tX10_did C E _ _ _  _ hq0 h)
def fX10_image (N : Nat) (a0_ : Nat) (x1_ : Int32) (M : sg_M) : Option (Int32 × sg_M) :=
  if x1_ < 0 then (
  some ((-2 : Int32), M)) else (
  if x1_ < (3 : Int32) then (
  if sg_ib x1_ (Yc.2.2.1 (Yc.2.2.2 a0_ 2)) = true then
  sg_bv (fX4_copyFrom N (Yc.2.2.2 (Yc.2.2.2 a0_ 2) (x1_).toNatClampNeg) (Yc.2.2.2 a0_ 1) M) (fun M2 : sg_M =>
  if sg_ib x1_ (Yc.2.2.1 (Yc.2.2.2 a0_ 3)) = true then
  sg_m (sg_uI M2 (Yc.2.2.2 a0_ 3) (x1_).toNatClampNeg (vp_nar .boolean (1 : Int32))) (fun M3 : sg_M =>
  some ((0 : Int32), M3))
  else none)
  else none) else (
  some ((-2 : Int32), M)))
set_option maxHeartbeats 4000000 in
set_option maxRecDepth 100000 in
theorem tX10_image {ad : Nat → Nat} {X : sg_X} {N : Nat} {r : Int32 × sg_M} (C : sg_C Yc ad X cX10_image RX10 2 2) (E : sg_eI Yc ad X cX10_image .int r) : ∀ (a0_ : Nat) (x1_ : Int32) (M : sg_M), sg_K Yc a0_ 10 → fX10_image N a0_ x1_ M = some r → sg_T Yc ad X 2 0 [(0, .ref (ad a0_)), (1, .int x1_)] [] M := by
  intro a0_ x1_ M hq0 h
  unfold fX10_image at h
  refine i_iload_n C dX10_image_0 1 rfl ?_
  refine s_if_lt C 9 (by decide) dX10_image_1 h (fun _ h => ?_) (fun _ h => ?_)
  · refine s_bipush C (-2 : Int32) dX10_image_9 (by decide) ?_
    exact s_iret C E dX10_image_11 h
  · refine i_iload_n C dX10_image_4 1 rfl ?_
    refine s_iconst C (3 : Int32) dX10_image_5 (by decide) ?_
    refine s_icmp_lt C 12 (by decide) dX10_image_6 h (fun _ h => ?_) (fun _ h => ?_)
    · refine i_aload_n C dX10_image_12 0 rfl ?_
      refine gf10_23 C hq0 dX10_image_13 ?_
      refine i_iload_n C dX10_image_16 1 rfl ?_
      have hb1 := (sg_if h).1
      refine s_aaldO C (ky10_2 hq0) dX10_image_17 h (fun h => ?_)
      refine i_aload_n C dX10_image_18 0 rfl ?_
      refine gf10_19 C hq0 dX10_image_19 ?_
      refine s_vcV C [_] vmX4_copyFrom lkX10_102 rfl rfl (by decide) (ke16 (ky10_2 hq0) hb1) (by decide) rfl rfl (Nat.le_of_ble_eq_true rfl) dX10_image_22 (ctX4_copyFrom C.inj (ke16 (ky10_2 hq0) hb1) (ky10_1 hq0)) h (fun M2 h => ?_)
      refine i_aload_n C dX10_image_25 0 rfl ?_
      refine gf10_27 C hq0 dX10_image_26 ?_
      refine i_iload_n C dX10_image_29 1 rfl ?_
      refine s_iconst C (1 : Int32) dX10_image_30 (by decide) ?_
      refine s_zast C (ky10_3 hq0) dX10_image_31 h (fun h => ?_)
      refine z_gM h (fun M3 h => ?_)
      refine s_iconst C (0 : Int32) dX10_image_32 (by decide) ?_
      exact s_iret C E dX10_image_33 h
    · refine s_bipush C (-2 : Int32) dX10_image_9 (by decide) ?_
      exact s_iret C E dX10_image_11 h
theorem ctX10_image {ad : Nat → Nat} {V : sg_V} {N : Nat} (hi : sg_inj Yc ad) {a0_ : Nat} {x1_ : Int32} {M : sg_M} (hq0 : sg_K Yc a0_ 10) : ∀ res, fX10_image N a0_ x1_ M = some res → sg_cI Yc ad V yX10_image cX10_image 2 .int 2 [.ref (ad a0_), .int x1_] M res := fun res h => sg_bodyI (by decide) hi (Nat.le_of_ble_eq_true rfl) (fun X hX C E => by subst hX; exact tX10_image C E _ _  _ hq0 h)
def fX10_back (N : Nat) (a0_ : Nat) (x1_ : Int32) (M : sg_M) : Option (Int32 × sg_M) :=
  if x1_ < 0 then (
  some ((-2 : Int32), M)) else (
  if x1_ < (3 : Int32) then (
  if sg_ib x1_ (Yc.2.2.1 (Yc.2.2.2 a0_ 3)) = true then
  if (M.1 (Yc.2.2.2 a0_ 3) (x1_).toNatClampNeg) = 0 then (
  some ((-6 : Int32), M)) else (
  if sg_ib x1_ (Yc.2.2.1 (Yc.2.2.2 a0_ 2)) = true then
  sg_bv (fX4_copyFrom N (Yc.2.2.2 a0_ 1) (Yc.2.2.2 (Yc.2.2.2 a0_ 2) (x1_).toNatClampNeg) M) (fun M2 : sg_M =>
  sg_bv (fX10_forget N a0_ M2) (fun M3 : sg_M =>
  some ((0 : Int32), M3)))
  else none)
  else none) else (
  some ((-2 : Int32), M)))
set_option maxHeartbeats 4000000 in
set_option maxRecDepth 100000 in
theorem tX10_back {ad : Nat → Nat} {X : sg_X} {N : Nat} {r : Int32 × sg_M} (C : sg_C Yc ad X cX10_back RX10 2 2) (E : sg_eI Yc ad X cX10_back .int r) : ∀ (a0_ : Nat) (x1_ : Int32) (M : sg_M), sg_K Yc a0_ 10 → fX10_back N a0_ x1_ M = some r → sg_T Yc ad X 2 0 [(0, .ref (ad a0_)), (1, .int x1_)] [] M := by
  intro a0_ x1_ M hq0 h
  unfold fX10_back at h
  refine i_iload_n C dX10_back_0 1 rfl ?_
  refine s_if_lt C 9 (by decide) dX10_back_1 h (fun _ h => ?_) (fun _ h => ?_)
  · refine s_bipush C (-2 : Int32) dX10_back_9 (by decide) ?_
    exact s_iret C E dX10_back_11 h
  · refine i_iload_n C dX10_back_4 1 rfl ?_
    refine s_iconst C (3 : Int32) dX10_back_5 (by decide) ?_
    refine s_icmp_lt C 12 (by decide) dX10_back_6 h (fun _ h => ?_) (fun _ h => ?_)
    · refine i_aload_n C dX10_back_12 0 rfl ?_
      refine gf10_27 C hq0 dX10_back_13 ?_
      refine i_iload_n C dX10_back_16 1 rfl ?_
      refine s_zald C (ky10_3 hq0) dX10_back_17 h (fun h => ?_)
      refine s_if_ne C 24 (by decide) dX10_back_18 h (fun _ h => ?_) (fun _ h => ?_)
      · refine s_bipush C (-6 : Int32) dX10_back_21 (by decide) ?_
        exact s_iret C E dX10_back_23 h
      · refine i_aload_n C dX10_back_24 0 rfl ?_
        refine gf10_19 C hq0 dX10_back_25 ?_
        refine i_aload_n C dX10_back_28 0 rfl ?_
        refine gf10_23 C hq0 dX10_back_29 ?_
        refine i_iload_n C dX10_back_32 1 rfl ?_
        have hb1 := (sg_if h).1
        refine s_aaldO C (ky10_2 hq0) dX10_back_33 h (fun h => ?_)
        refine s_vcV C [_] vmX4_copyFrom lkX10_102 rfl rfl (by decide) (ky10_1 hq0) (by decide) rfl rfl (Nat.le_of_ble_eq_true rfl) dX10_back_34 (ctX4_copyFrom C.inj (ky10_1 hq0) (ke16 (ky10_2 hq0) hb1)) h (fun M2 h => ?_)
        refine i_aload_n C dX10_back_37 0 rfl ?_
        refine s_vcV C [] vmX10_forget lkX10_106 rfl rfl (by decide) hq0 (by decide) rfl rfl (Nat.le_of_ble_eq_true rfl) dX10_back_38 (ctX10_forget C.inj hq0) h (fun M3 h => ?_)
        refine s_iconst C (0 : Int32) dX10_back_41 (by decide) ?_
        exact s_iret C E dX10_back_42 h
    · refine s_bipush C (-2 : Int32) dX10_back_9 (by decide) ?_
      exact s_iret C E dX10_back_11 h
theorem ctX10_back {ad : Nat → Nat} {V : sg_V} {N : Nat} (hi : sg_inj Yc ad) {a0_ : Nat} {x1_ : Int32} {M : sg_M} (hq0 : sg_K Yc a0_ 10) : ∀ res, fX10_back N a0_ x1_ M = some res → sg_cI Yc ad V yX10_back cX10_back 2 .int 2 [.ref (ad a0_), .int x1_] M res := fun res h => sg_bodyI (by decide) hi (Nat.le_of_ble_eq_true rfl) (fun X hX C E => by subst hX; exact tX10_back C E _ _  _ hq0 h)
def fX10_undo (N : Nat) (a0_ : Nat) (M : sg_M) : Option (Int32 × sg_M) :=
  sg_b (fX10_noGrid N a0_ M) (fun (x2 : Int32) (M1 : sg_M) =>
  if x2 = 0 then (
  if (M1.1 (Yc.2.2.2 a0_ 1) 8) = 0 then (
  some ((-5 : Int32), M1)) else (
  sg_bv (fX4_takeBack N (Yc.2.2.2 a0_ 1) M1) (fun M3 : sg_M =>
  sg_bv (fX10_forget N a0_ M3) (fun M4 : sg_M =>
  some ((M4.1 (Yc.2.2.2 a0_ 1) 8), M4))))) else (
  some ((-2 : Int32), M1)))
set_option maxHeartbeats 4000000 in
set_option maxRecDepth 100000 in
theorem tX10_undo {ad : Nat → Nat} {X : sg_X} {N : Nat} {r : Int32 × sg_M} (C : sg_C Yc ad X cX10_undo RX10 1 2) (E : sg_eI Yc ad X cX10_undo .int r) : ∀ (a0_ : Nat) (M : sg_M), sg_K Yc a0_ 10 → fX10_undo N a0_ M = some r → sg_T Yc ad X 1 0 [(0, .ref (ad a0_))] [] M := by
  intro a0_ M hq0 h
  unfold fX10_undo at h
  refine i_aload_n C dX10_undo_0 0 rfl ?_
  refine s_vcI C [] vmX10_noGrid lkX10_179 rfl rfl (by decide) hq0 (by decide) rfl rfl (Nat.le_of_ble_eq_true rfl) dX10_undo_1 (ctX10_noGrid C.inj hq0) h (fun x2 M1 h => ?_)
  refine s_if_eq C 10 (by decide) dX10_undo_4 h (fun _ h => ?_) (fun _ h => ?_)
  · refine i_aload_n C dX10_undo_10 0 rfl ?_
    refine gf10_19 C hq0 dX10_undo_11 ?_
    refine gf10_133 C (ky10_1 hq0) dX10_undo_14 ?_
    refine s_if_ne C 23 (by decide) dX10_undo_17 h (fun _ h => ?_) (fun _ h => ?_)
    · refine s_bipush C (-5 : Int32) dX10_undo_20 (by decide) ?_
      exact s_iret C E dX10_undo_22 h
    · refine i_aload_n C dX10_undo_23 0 rfl ?_
      refine gf10_19 C hq0 dX10_undo_24 ?_
      refine s_vcV C [] vmX4_takeBack lkX10_373 rfl rfl (by decide) (ky10_1 hq0) (by decide) rfl rfl (Nat.le_of_ble_eq_true rfl) dX10_undo_27 (ctX4_takeBack C.inj (ky10_1 hq0)) h (fun M3 h => ?_)
      refine i_aload_n C dX10_undo_30 0 rfl ?_
      refine s_vcV C [] vmX10_forget lkX10_106 rfl rfl (by decide) hq0 (by decide) rfl rfl (Nat.le_of_ble_eq_true rfl) dX10_undo_31 (ctX10_forget C.inj hq0) h (fun M4 h => ?_)
      refine i_aload_n C dX10_undo_34 0 rfl ?_
      refine gf10_19 C hq0 dX10_undo_35 ?_
      refine gf10_133 C (ky10_1 hq0) dX10_undo_38 ?_
      exact s_iret C E dX10_undo_41 h
  · refine s_bipush C (-2 : Int32) dX10_undo_7 (by decide) ?_
    exact s_iret C E dX10_undo_9 h
theorem ctX10_undo {ad : Nat → Nat} {V : sg_V} {N : Nat} (hi : sg_inj Yc ad) {a0_ : Nat} {M : sg_M} (hq0 : sg_K Yc a0_ 10) : ∀ res, fX10_undo N a0_ M = some res → sg_cI Yc ad V yX10_undo cX10_undo 1 .int 2 [.ref (ad a0_)] M res := fun res h => sg_bodyI (by decide) hi (Nat.le_of_ble_eq_true rfl) (fun X hX C E => by subst hX; exact tX10_undo C E _  _ hq0 h)
def bX10_anew_20 (N : Nat)  (k20 : (Nat × Int32 × Int32) → sg_M → Option (Int32 × sg_M)) (s : Nat × Int32 × Int32) (M : sg_M) : Option (Int32 × sg_M) :=
  if s.2.1 ≤ s.2.2 then (
  sg_bv (fX10_forget N s.1 M) (fun M1 : sg_M =>
  some (s.2.1, M1))) else (
  sg_bv (fX4_takeBack N (Yc.2.2.2 s.1 1) M) (fun M2 : sg_M =>
  sg_m (s.2.2 + (1 : Int32)) (fun x3 : Int32 =>
  k20 (s.1, s.2.1, x3) M2)))
def gX10_anew_20 (N : Nat)  : (Nat × Int32 × Int32) → sg_M → Option (Int32 × sg_M) := sg_lp (bX10_anew_20 N ) N
set_option maxHeartbeats 4000000 in
set_option maxRecDepth 100000 in
theorem tX10_anew_20 {ad : Nat → Nat} {X : sg_X} {N : Nat} {r : Int32 × sg_M} (C : sg_C Yc ad X cX10_anew RX10 3 2) (E : sg_eI Yc ad X cX10_anew .int r)  : ∀ (s : Nat × Int32 × Int32) (M : sg_M), gX10_anew_20 N s M = some r → sg_K Yc s.1 10 → sg_T Yc ad X 3 20 [(0, .ref (ad (s.1))), (1, .int (s.2.1)), (2, .int (s.2.2))] [] M := by
  have key : ∀ n : Nat, ∀ (s : Nat × Int32 × Int32) (M : sg_M), sg_lp (bX10_anew_20 N) n s M = some r → sg_K Yc s.1 10 → sg_T Yc ad X 3 20 [(0, .ref (ad (s.1))), (1, .int (s.2.1)), (2, .int (s.2.2))] [] M := by
    intro n
    induction n with
    | zero => intro s M h; cases h
    | succ n ih =>
      intro s M h hq0
      have h : bX10_anew_20 N (sg_lp (bX10_anew_20 N) n) s M = some r := h
      generalize sg_lp (bX10_anew_20 N) n = k20 at h ih
      have hk20 := ih
      unfold bX10_anew_20 at h
      refine i_iload_n C dX10_anew_20 2 rfl ?_
      refine i_iload_n C dX10_anew_21 1 rfl ?_
      refine s_icmp_ge C 38 (by decide) dX10_anew_22 h (fun _ h => ?_) (fun _ h => ?_)
      · refine i_aload_n C dX10_anew_38 0 rfl ?_
        refine s_vcV C [] vmX10_forget lkX10_106 rfl rfl (by decide) hq0 (by decide) rfl rfl (Nat.le_of_ble_eq_true rfl) dX10_anew_39 (ctX10_forget C.inj hq0) h (fun M1 h => ?_)
        refine i_iload_n C dX10_anew_42 1 rfl ?_
        exact s_iret C E dX10_anew_43 h
      · refine i_aload_n C dX10_anew_25 0 rfl ?_
        refine gf10_19 C hq0 dX10_anew_26 ?_
        refine s_vcV C [] vmX4_takeBack lkX10_373 rfl rfl (by decide) (ky10_1 hq0) (by decide) rfl rfl (Nat.le_of_ble_eq_true rfl) dX10_anew_29 (ctX4_takeBack C.inj (ky10_1 hq0)) h (fun M2 h => ?_)
        refine z_iinc (n := 1) (c9 := (1 : Int32)) (by decide) h (fun x3 hx h => ?_)
        refine i_iinc (lv9 := [(2, _), (0, _), (1, _)]) C dX10_anew_32 2 rfl hx (by decide) rfl ?_
        refine s_goto C 20 (by decide) dX10_anew_35 ?_
        exact sg_T.to (hk20 _ _ h hq0) [1, 2, 0] rfl
  exact key N
def fX10_anew (N : Nat) (a0_ : Nat) (M : sg_M) : Option (Int32 × sg_M) :=
  sg_b (fX10_noGrid N a0_ M) (fun (x5 : Int32) (M4 : sg_M) =>
  if x5 = 0 then (
  sg_m (M4.1 (Yc.2.2.2 a0_ 1) 8) (fun x6 : Int32 =>
  sg_m (0 : Int32) (fun x7 : Int32 =>
  gX10_anew_20 N (a0_, x6, x7) M4))) else (
  some ((-2 : Int32), M4)))
set_option maxHeartbeats 4000000 in
set_option maxRecDepth 100000 in
theorem tX10_anew {ad : Nat → Nat} {X : sg_X} {N : Nat} {r : Int32 × sg_M} (C : sg_C Yc ad X cX10_anew RX10 3 2) (E : sg_eI Yc ad X cX10_anew .int r) : ∀ (a0_ : Nat) (M : sg_M), sg_K Yc a0_ 10 → fX10_anew N a0_ M = some r → sg_T Yc ad X 3 0 [(0, .ref (ad a0_))] [] M := by
  intro a0_ M hq0 h
  unfold fX10_anew at h
  refine i_aload_n C dX10_anew_0 0 rfl ?_
  refine s_vcI C [] vmX10_noGrid lkX10_179 rfl rfl (by decide) hq0 (by decide) rfl rfl (Nat.le_of_ble_eq_true rfl) dX10_anew_1 (ctX10_noGrid C.inj hq0) h (fun x5 M4 h => ?_)
  refine s_if_eq C 10 (by decide) dX10_anew_4 h (fun _ h => ?_) (fun _ h => ?_)
  · refine i_aload_n C dX10_anew_10 0 rfl ?_
    refine gf10_19 C hq0 dX10_anew_11 ?_
    refine gf10_133 C (ky10_1 hq0) dX10_anew_14 ?_
    refine z_gi h (fun x6 h => ?_)
    refine i_istore_n (lv9 := [(1, _), (0, _)]) C 1 dX10_anew_17 rfl (by decide) rfl ?_
    refine s_iconst C (0 : Int32) dX10_anew_18 (by decide) ?_
    refine z_gi h (fun x7 h => ?_)
    refine i_istore_n (lv9 := [(2, _), (1, _), (0, _)]) C 2 dX10_anew_19 rfl (by decide) rfl ?_
    exact sg_T.to (tX10_anew_20 C E _ _ h hq0) [2, 1, 0] rfl
  · refine s_bipush C (-2 : Int32) dX10_anew_7 (by decide) ?_
    exact s_iret C E dX10_anew_9 h
theorem ctX10_anew {ad : Nat → Nat} {V : sg_V} {N : Nat} (hi : sg_inj Yc ad) {a0_ : Nat} {M : sg_M} (hq0 : sg_K Yc a0_ 10) : ∀ res, fX10_anew N a0_ M = some res → sg_cI Yc ad V yX10_anew cX10_anew 3 .int 2 [.ref (ad a0_)] M res := fun res h => sg_bodyI (by decide) hi (Nat.le_of_ble_eq_true rfl) (fun X hX C E => by subst hX; exact tX10_anew C E _  _ hq0 h)
