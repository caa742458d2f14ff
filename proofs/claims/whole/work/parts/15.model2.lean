def fX11_strap (N : Nat) (a0_ : Nat) (x1_ : Int32) (x2_ : Int32) (M : sg_M) : Option (Int32 × sg_M) :=
  sg_b (fX11_isStrap N a0_ x1_ M) (fun (x2 : Int32) (M1 : sg_M) =>
  if x2 = 0 then (
  some ((-1 : Int32), M1)) else (
  sg_b (fX11_in N (x2_).toInt64 (0 : Int64) (2 : Int64) M1) (fun (x4 : Int32) (M3 : sg_M) =>
  if x4 = 0 then (
  some ((-1 : Int32), M3)) else (
  if x2_ = (2 : Int32) then (
  if sg_ib ((28 : Int32) + x1_) (Yr.2.2.1 (Yr.2.2.2 a0_ 1)) = true then
  some ((M3.1 (Yr.2.2.2 a0_ 1) (((28 : Int32) + x1_)).toNatClampNeg), M3)
  else none) else (
  if sg_ib (((2 : Int32) * x1_) + x2_) (Yr.2.2.1 (Yr.2.2.2 a0_ 7)) = true then
  some ((M3.1 (Yr.2.2.2 a0_ 7) ((((2 : Int32) * x1_) + x2_)).toNatClampNeg), M3)
  else none)))))
set_option maxHeartbeats 4000000 in
set_option maxRecDepth 100000 in
theorem tX11_strap {ad : Nat → Nat} {X : sg_X} {N : Nat} {r : Int32 × sg_M} (C : sg_C Yr ad X cX11_strap RX11 3 4) (E : sg_eI Yr ad X cX11_strap .int r) : ∀ (a0_ : Nat) (x1_ : Int32) (x2_ : Int32) (M : sg_M), sg_K Yr a0_ 11 → fX11_strap N a0_ x1_ x2_ M = some r → sg_T Yr ad X 3 0 [(0, .ref (ad a0_)), (1, .int x1_), (2, .int x2_)] [] M := by
  intro a0_ x1_ x2_ M hq0 h
  unfold fX11_strap at h
  refine i_aload_n C dX11_strap_0 0 rfl ?_
  refine i_iload_n C dX11_strap_1 1 rfl ?_
  refine s_vcI C [_] vmX11_isStrap lkX11_305 rfl rfl (by decide) hq0 (by decide) rfl rfl (Nat.le_of_ble_eq_true rfl) dX11_strap_2 (ctX11_isStrap C.inj hq0) h (fun x2 M1 h => ?_)
  refine s_if_eq C 20 (by decide) dX11_strap_5 h (fun _ h => ?_) (fun _ h => ?_)
  · refine s_iconst C (-1 : Int32) dX11_strap_20 (by decide) ?_
    exact s_iret C E dX11_strap_21 h
  · refine i_iload_n C dX11_strap_8 2 rfl ?_
    refine s_i2l C dX11_strap_9 ?_
    refine s_lconst C (0 : Int64) dX11_strap_10 (by decide) ?_
    refine s_ldc2 C (2 : Int64) kl_X11_85 dX11_strap_11 ?_
    refine s_scI C [_, _, _] smX11_in lkX11_87 (by decide) rfl rfl (Nat.le_of_ble_eq_true rfl) dX11_strap_14 (ctX11_in C.inj ) h (fun x4 M3 h => ?_)
    refine s_if_ne C 22 (by decide) dX11_strap_17 h (fun _ h => ?_) (fun _ h => ?_)
    · refine s_iconst C (-1 : Int32) dX11_strap_20 (by decide) ?_
      exact s_iret C E dX11_strap_21 h
    · refine i_iload_n C dX11_strap_22 2 rfl ?_
      refine s_iconst C (2 : Int32) dX11_strap_23 (by decide) ?_
      refine s_icmp_ne C 39 (by decide) dX11_strap_24 h (fun _ h => ?_) (fun _ h => ?_)
      · refine i_aload_n C dX11_strap_27 0 rfl ?_
        refine gf11_9 C hq0 dX11_strap_28 ?_
        refine s_bipush C (28 : Int32) dX11_strap_31 (by decide) ?_
        refine i_iload_n C dX11_strap_33 1 rfl ?_
        refine s_iadd C dX11_strap_34 ?_
        refine s_iald C (ky11_1 hq0) dX11_strap_35 h (fun h => ?_)
        refine s_goto C 49 (by decide) dX11_strap_36 ?_
        exact s_iret C E dX11_strap_49 h
      · refine i_aload_n C dX11_strap_39 0 rfl ?_
        refine gf11_26 C hq0 dX11_strap_40 ?_
        refine s_iconst C (2 : Int32) dX11_strap_43 (by decide) ?_
        refine i_iload_n C dX11_strap_44 1 rfl ?_
        refine s_imul C dX11_strap_45 ?_
        refine i_iload_n C dX11_strap_46 2 rfl ?_
        refine s_iadd C dX11_strap_47 ?_
        refine s_iald C (ky11_7 hq0) dX11_strap_48 h (fun h => ?_)
        exact s_iret C E dX11_strap_49 h
theorem ctX11_strap {ad : Nat → Nat} {V : sg_V} {N : Nat} (hi : sg_inj Yr ad) {a0_ : Nat} {x1_ : Int32} {x2_ : Int32} {M : sg_M} (hq0 : sg_K Yr a0_ 11) : ∀ res, fX11_strap N a0_ x1_ x2_ M = some res → sg_cI Yr ad V yX11_strap cX11_strap 3 .int 4 [.ref (ad a0_), .int x1_, .int x2_] M res := fun res h => sg_bodyI (by decide) hi (Nat.le_of_ble_eq_true rfl) (fun X hX C E => by subst hX; exact tX11_strap C E _ _ _  _ hq0 h)
def fX11_between (N : Nat) (a0_ : Nat) (x1_ : Int32) (x2_ : Int32) (M : sg_M) : Option (Int32 × sg_M) :=
  sg_b (fX11_isNode N a0_ x1_ M) (fun (x2 : Int32) (M1 : sg_M) =>
  if x2 = 0 then (
  some ((-2 : Int32), M1)) else (
  sg_b (fX11_isNode N a0_ x2_ M1) (fun (x4 : Int32) (M3 : sg_M) =>
  if x4 = 0 then (
  some ((-2 : Int32), M3)) else (
  sg_b (fX11_straps N a0_ M3) (fun (x6 : Int32) (M5 : sg_M) =>
  sg_b (fX11_strapOf N a0_ x1_ x2_ M5) (fun (x8 : Int32) (M7 : sg_M) =>
  some (x8, M7)))))))
set_option maxHeartbeats 4000000 in
set_option maxRecDepth 100000 in
theorem tX11_between {ad : Nat → Nat} {X : sg_X} {N : Nat} {r : Int32 × sg_M} (C : sg_C Yr ad X cX11_between RX11 3 3) (E : sg_eI Yr ad X cX11_between .int r) : ∀ (a0_ : Nat) (x1_ : Int32) (x2_ : Int32) (M : sg_M), sg_K Yr a0_ 11 → fX11_between N a0_ x1_ x2_ M = some r → sg_T Yr ad X 3 0 [(0, .ref (ad a0_)), (1, .int x1_), (2, .int x2_)] [] M := by
  intro a0_ x1_ x2_ M hq0 h
  unfold fX11_between at h
  refine i_aload_n C dX11_between_0 0 rfl ?_
  refine i_iload_n C dX11_between_1 1 rfl ?_
  refine s_vcI C [_] vmX11_isNode lkX11_308 rfl rfl (by decide) hq0 (by decide) rfl rfl (Nat.le_of_ble_eq_true rfl) dX11_between_2 (ctX11_isNode C.inj hq0) h (fun x2 M1 h => ?_)
  refine s_if_eq C 16 (by decide) dX11_between_5 h (fun _ h => ?_) (fun _ h => ?_)
  · refine s_bipush C (-2 : Int32) dX11_between_16 (by decide) ?_
    exact s_iret C E dX11_between_18 h
  · refine i_aload_n C dX11_between_8 0 rfl ?_
    refine i_iload_n C dX11_between_9 2 rfl ?_
    refine s_vcI C [_] vmX11_isNode lkX11_308 rfl rfl (by decide) hq0 (by decide) rfl rfl (Nat.le_of_ble_eq_true rfl) dX11_between_10 (ctX11_isNode C.inj hq0) h (fun x4 M3 h => ?_)
    refine s_if_ne C 19 (by decide) dX11_between_13 h (fun _ h => ?_) (fun _ h => ?_)
    · refine s_bipush C (-2 : Int32) dX11_between_16 (by decide) ?_
      exact s_iret C E dX11_between_18 h
    · refine i_aload_n C dX11_between_19 0 rfl ?_
      refine s_vcI C [] vmX11_straps lkX11_116 rfl rfl (by decide) hq0 (by decide) rfl rfl (Nat.le_of_ble_eq_true rfl) dX11_between_20 (ctX11_straps C.inj hq0) h (fun x6 M5 h => ?_)
      refine s_pop C dX11_between_23 rfl ?_
      refine i_aload_n C dX11_between_24 0 rfl ?_
      refine i_iload_n C dX11_between_25 1 rfl ?_
      refine i_iload_n C dX11_between_26 2 rfl ?_
      refine s_vcI C [_, _] vmX11_strapOf lkX11_220 rfl rfl (by decide) hq0 (by decide) rfl rfl (Nat.le_of_ble_eq_true rfl) dX11_between_27 (ctX11_strapOf C.inj hq0) h (fun x8 M7 h => ?_)
      exact s_iret C E dX11_between_30 h
theorem ctX11_between {ad : Nat → Nat} {V : sg_V} {N : Nat} (hi : sg_inj Yr ad) {a0_ : Nat} {x1_ : Int32} {x2_ : Int32} {M : sg_M} (hq0 : sg_K Yr a0_ 11) : ∀ res, fX11_between N a0_ x1_ x2_ M = some res → sg_cI Yr ad V yX11_between cX11_between 3 .int 3 [.ref (ad a0_), .int x1_, .int x2_] M res := fun res h => sg_bodyI (by decide) hi (Nat.le_of_ble_eq_true rfl) (fun X hX C E => by subst hX; exact tX11_between C E _ _ _  _ hq0 h)
def fX11_node (N : Nat) (a0_ : Nat) (x1_ : Int32) (x2_ : Int32) (M : sg_M) : Option (Int32 × sg_M) :=
  sg_b (fX11_isNode N a0_ x1_ M) (fun (x2 : Int32) (M1 : sg_M) =>
  if x2 = 0 then (
  some ((-1 : Int32), M1)) else (
  sg_b (fX11_in N (x2_).toInt64 (0 : Int64) (3 : Int64) M1) (fun (x4 : Int32) (M3 : sg_M) =>
  if x4 = 0 then (
  some ((-1 : Int32), M3)) else (
  sg_bv (fX11_lays N a0_ M3) (fun M5 : sg_M =>
  if x2_ = (0 : Int32) then (
  if sg_ib (5 : Int32) (Yr.2.2.1 (Yr.2.2.2 a0_ 1)) = true then
  sg_b (fX11_isOf N (M5.1 (Yr.2.2.2 a0_ 1) ((5 : Int32)).toNatClampNeg) x1_ M5) (fun (x7 : Int32) (M6 : sg_M) =>
  if x7 = 0 then (
  some ((0 : Int32), M6)) else (
  some ((1 : Int32), M6)))
  else none) else (
  if x2_ = (1 : Int32) then (
  if sg_ib ((6 : Int32) + x1_) (Yr.2.2.1 (Yr.2.2.2 a0_ 1)) = true then
  some ((M5.1 (Yr.2.2.2 a0_ 1) (((6 : Int32) + x1_)).toNatClampNeg), M5)
  else none) else (
  if x2_ = (2 : Int32) then (
  if sg_ib ((15 : Int32) + x1_) (Yr.2.2.1 (Yr.2.2.2 a0_ 1)) = true then
  some ((M5.1 (Yr.2.2.2 a0_ 1) (((15 : Int32) + x1_)).toNatClampNeg), M5)
  else none) else (
  sg_b (fX11_isDead N a0_ x1_ M5) (fun (x9 : Int32) (M8 : sg_M) =>
  if x9 = 0 then (
  some ((0 : Int32), M8)) else (
  some ((1 : Int32), M8)))))))))))
set_option maxHeartbeats 4000000 in
set_option maxRecDepth 100000 in
theorem tX11_node {ad : Nat → Nat} {X : sg_X} {N : Nat} {r : Int32 × sg_M} (C : sg_C Yr ad X cX11_node RX11 3 5) (E : sg_eI Yr ad X cX11_node .int r) : ∀ (a0_ : Nat) (x1_ : Int32) (x2_ : Int32) (M : sg_M), sg_K Yr a0_ 11 → fX11_node N a0_ x1_ x2_ M = some r → sg_T Yr ad X 3 0 [(0, .ref (ad a0_)), (1, .int x1_), (2, .int x2_)] [] M := by
  intro a0_ x1_ x2_ M hq0 h
  unfold fX11_node at h
  refine i_aload_n C dX11_node_0 0 rfl ?_
  refine i_iload_n C dX11_node_1 1 rfl ?_
  refine s_vcI C [_] vmX11_isNode lkX11_308 rfl rfl (by decide) hq0 (by decide) rfl rfl (Nat.le_of_ble_eq_true rfl) dX11_node_2 (ctX11_isNode C.inj hq0) h (fun x2 M1 h => ?_)
  refine s_if_eq C 20 (by decide) dX11_node_5 h (fun _ h => ?_) (fun _ h => ?_)
  · refine s_iconst C (-1 : Int32) dX11_node_20 (by decide) ?_
    exact s_iret C E dX11_node_21 h
  · refine i_iload_n C dX11_node_8 2 rfl ?_
    refine s_i2l C dX11_node_9 ?_
    refine s_lconst C (0 : Int64) dX11_node_10 (by decide) ?_
    refine s_ldc2 C (3 : Int64) kl_X11_311 dX11_node_11 ?_
    refine s_scI C [_, _, _] smX11_in lkX11_87 (by decide) rfl rfl (Nat.le_of_ble_eq_true rfl) dX11_node_14 (ctX11_in C.inj ) h (fun x4 M3 h => ?_)
    refine s_if_ne C 22 (by decide) dX11_node_17 h (fun _ h => ?_) (fun _ h => ?_)
    · refine s_iconst C (-1 : Int32) dX11_node_20 (by decide) ?_
      exact s_iret C E dX11_node_21 h
    · refine i_aload_n C dX11_node_22 0 rfl ?_
      refine s_vcV C [] vmX11_lays lkX11_292 rfl rfl (by decide) hq0 (by decide) rfl rfl (Nat.le_of_ble_eq_true rfl) dX11_node_23 (ctX11_lays C.inj hq0) h (fun M5 h => ?_)
      refine i_iload_n C dX11_node_26 2 rfl ?_
      refine z_if h (fun e h => ?_) (fun e0 h => ?_)
      · refine s_tabIn (off := 25) C 52 e (by decide) (by decide) dX11_node_27 ?_
        refine i_aload_n C dX11_node_52 0 rfl ?_
        refine gf11_9 C hq0 dX11_node_53 ?_
        refine s_iconst C (5 : Int32) dX11_node_56 (by decide) ?_
        refine s_iald C (ky11_1 hq0) dX11_node_57 h (fun h => ?_)
        refine i_iload_n C dX11_node_58 1 rfl ?_
        refine s_scI C [_, _] smX11_isOf lkX11_209 (by decide) rfl rfl (Nat.le_of_ble_eq_true rfl) dX11_node_59 (ctX11_isOf C.inj ) h (fun x7 M6 h => ?_)
        refine s_if_eq C 69 (by decide) dX11_node_62 h (fun _ h => ?_) (fun _ h => ?_)
        · refine s_iconst C (0 : Int32) dX11_node_69 (by decide) ?_
          exact s_iret C E dX11_node_70 h
        · refine s_iconst C (1 : Int32) dX11_node_65 (by decide) ?_
          refine s_goto C 70 (by decide) dX11_node_66 ?_
          exact s_iret C E dX11_node_70 h
      refine z_if h (fun e h => ?_) (fun e1 h => ?_)
      · refine s_tabIn (off := 44) C 71 e (by decide) (by decide) dX11_node_27 ?_
        refine i_aload_n C dX11_node_71 0 rfl ?_
        refine gf11_9 C hq0 dX11_node_72 ?_
        refine s_bipush C (6 : Int32) dX11_node_75 (by decide) ?_
        refine i_iload_n C dX11_node_77 1 rfl ?_
        refine s_iadd C dX11_node_78 ?_
        refine s_iald C (ky11_1 hq0) dX11_node_79 h (fun h => ?_)
        exact s_iret C E dX11_node_80 h
      refine z_if h (fun e h => ?_) (fun e2 h => ?_)
      · refine s_tabIn (off := 54) C 81 e (by decide) (by decide) dX11_node_27 ?_
        refine i_aload_n C dX11_node_81 0 rfl ?_
        refine gf11_9 C hq0 dX11_node_82 ?_
        refine s_bipush C (15 : Int32) dX11_node_85 (by decide) ?_
        refine i_iload_n C dX11_node_87 1 rfl ?_
        refine s_iadd C dX11_node_88 ?_
        refine s_iald C (ky11_1 hq0) dX11_node_89 h (fun h => ?_)
        exact s_iret C E dX11_node_90 h
      refine s_tabOut C 91 (by have q0 := sg_ne (a := 0) e0 (by decide); have q1 := sg_ne (a := 1) e1 (by decide); have q2 := sg_ne (a := 2) e2 (by decide); omega) (by decide) dX11_node_27 ?_
      refine i_aload_n C dX11_node_91 0 rfl ?_
      refine i_iload_n C dX11_node_92 1 rfl ?_
      refine s_vcI C [_] vmX11_isDead lkX11_288 rfl rfl (by decide) hq0 (by decide) rfl rfl (Nat.le_of_ble_eq_true rfl) dX11_node_93 (ctX11_isDead C.inj hq0) h (fun x9 M8 h => ?_)
      refine s_if_eq C 103 (by decide) dX11_node_96 h (fun _ h => ?_) (fun _ h => ?_)
      · refine s_iconst C (0 : Int32) dX11_node_103 (by decide) ?_
        exact s_iret C E dX11_node_104 h
      · refine s_iconst C (1 : Int32) dX11_node_99 (by decide) ?_
        refine s_goto C 104 (by decide) dX11_node_100 ?_
        exact s_iret C E dX11_node_104 h
theorem ctX11_node {ad : Nat → Nat} {V : sg_V} {N : Nat} (hi : sg_inj Yr ad) {a0_ : Nat} {x1_ : Int32} {x2_ : Int32} {M : sg_M} (hq0 : sg_K Yr a0_ 11) : ∀ res, fX11_node N a0_ x1_ x2_ M = some res → sg_cI Yr ad V yX11_node cX11_node 3 .int 5 [.ref (ad a0_), .int x1_, .int x2_] M res := fun res h => sg_bodyI (by decide) hi (Nat.le_of_ble_eq_true rfl) (fun X hX C E => by subst hX; exact tX11_node C E _ _ _  _ hq0 h)
def fX11_budget (N : Nat) (a0_ : Nat) (x1_ : Int32) (M : sg_M) : Option (Int32 × sg_M) :=
  sg_b (fX11_isGrid N a0_ M) (fun (x2 : Int32) (M1 : sg_M) =>
  if x2 = 0 then (
  some ((-1 : Int32), M1)) else (
  sg_b (fX11_in N (x1_).toInt64 (0 : Int64) (3 : Int64) M1) (fun (x4 : Int32) (M3 : sg_M) =>
  if x4 = 0 then (
  some ((-1 : Int32), M3)) else (
  if sg_ib ((24 : Int32) + x1_) (Yr.2.2.1 (Yr.2.2.2 a0_ 1)) = true then
  some ((M3.1 (Yr.2.2.2 a0_ 1) (((24 : Int32) + x1_)).toNatClampNeg), M3)
  else none))))
set_option maxHeartbeats 4000000 in
set_option maxRecDepth 100000 in
theorem tX11_budget {ad : Nat → Nat} {X : sg_X} {N : Nat} {r : Int32 × sg_M} (C : sg_C Yr ad X cX11_budget RX11 2 1) (E : sg_eI Yr ad X cX11_budget .int r) : ∀ (a0_ : Nat) (x1_ : Int32) (M : sg_M), sg_K Yr a0_ 11 → fX11_budget N a0_ x1_ M = some r → sg_T Yr ad X 2 0 [(0, .ref (ad a0_)), (1, .int x1_)] [] M := by
  intro a0_ x1_ M hq0 h
  unfold fX11_budget at h
  refine i_aload_n C dX11_budget_0 0 rfl ?_
  refine s_vcI C [] vmX11_isGrid lkX11_109 rfl rfl (by decide) hq0 (by decide) rfl rfl (Nat.le_of_ble_eq_true rfl) dX11_budget_1 (ctX11_isGrid C.inj hq0) h (fun x2 M1 h => ?_)
  refine s_if_eq C 31 (by decide) dX11_budget_4 h (fun _ h => ?_) (fun _ h => ?_)
  · refine s_iconst C (-1 : Int32) dX11_budget_31 (by decide) ?_
    exact s_iret C E dX11_budget_32 h
  · refine i_iload_n C dX11_budget_7 1 rfl ?_
    refine s_i2l C dX11_budget_8 ?_
    refine s_lconst C (0 : Int64) dX11_budget_9 (by decide) ?_
    refine s_ldc2 C (3 : Int64) kl_X11_311 dX11_budget_10 ?_
    refine s_scI C [_, _, _] smX11_in lkX11_87 (by decide) rfl rfl (Nat.le_of_ble_eq_true rfl) dX11_budget_13 (ctX11_in C.inj ) h (fun x4 M3 h => ?_)
    refine s_if_eq C 31 (by decide) dX11_budget_16 h (fun _ h => ?_) (fun _ h => ?_)
    · refine s_iconst C (-1 : Int32) dX11_budget_31 (by decide) ?_
      exact s_iret C E dX11_budget_32 h
    · refine i_aload_n C dX11_budget_19 0 rfl ?_
      refine gf11_9 C hq0 dX11_budget_20 ?_
      refine s_bipush C (24 : Int32) dX11_budget_23 (by decide) ?_
      refine i_iload_n C dX11_budget_25 1 rfl ?_
      refine s_iadd C dX11_budget_26 ?_
      refine s_iald C (ky11_1 hq0) dX11_budget_27 h (fun h => ?_)
      refine s_goto C 32 (by decide) dX11_budget_28 ?_
      exact s_iret C E dX11_budget_32 h
theorem ctX11_budget {ad : Nat → Nat} {V : sg_V} {N : Nat} (hi : sg_inj Yr ad) {a0_ : Nat} {x1_ : Int32} {M : sg_M} (hq0 : sg_K Yr a0_ 11) : ∀ res, fX11_budget N a0_ x1_ M = some res → sg_cI Yr ad V yX11_budget cX11_budget 2 .int 1 [.ref (ad a0_), .int x1_] M res := fun res h => sg_bodyI (by decide) hi (Nat.le_of_ble_eq_true rfl) (fun X hX C E => by subst hX; exact tX11_budget C E _ _  _ hq0 h)
def fX11_drop (N : Nat) (a0_ : Nat) (x1_ : Int32) (x2_ : Int32) (M : sg_M) : Option (Int64 × sg_M) :=
  sg_b (fX11_isNode N a0_ x1_ M) (fun (x2 : Int32) (M1 : sg_M) =>
  if x2 = 0 then (
  some ((-2 : Int64), M1)) else (
  sg_b (fX11_isPart N x2_ M1) (fun (x4 : Int32) (M3 : sg_M) =>
  if x4 = 0 then (
  some ((-2 : Int64), M3)) else (
  sg_bv (fX11_lays N a0_ M3) (fun M5 : sg_M =>
  sg_b (fX11_isDead N a0_ x1_ M5) (fun (x7 : Int32) (M6 : sg_M) =>
  if x7 = 0 then (
  sg_b (fX11_dropOf N a0_ x1_ M6) (fun (x9 : Int64) (M8 : sg_M) =>
  sg_b (fX11_part N x9 (M8.2 a0_ 26) x2_ M8) (fun (x11 : Int64) (M10 : sg_M) =>
  some (x11, M10)))) else (
  some ((-1 : Int64), M6))))))))
set_option maxHeartbeats 4000000 in
set_option maxRecDepth 100000 in
theorem tX11_drop {ad : Nat → Nat} {X : sg_X} {N : Nat} {r : Int64 × sg_M} (C : sg_C Yr ad X cX11_drop RX11 3 5) (E : sg_eL Yr ad X cX11_drop r) : ∀ (a0_ : Nat) (x1_ : Int32) (x2_ : Int32) (M : sg_M), sg_K Yr a0_ 11 → fX11_drop N a0_ x1_ x2_ M = some r → sg_T Yr ad X 3 0 [(0, .ref (ad a0_)), (1, .int x1_), (2, .int x2_)] [] M := by
  intro a0_ x1_ x2_ M hq0 h
  unfold fX11_drop at h
  refine i_aload_n C dX11_drop_0 0 rfl ?_
  refine i_iload_n C dX11_drop_1 1 rfl ?_
  refine s_vcI C [_] vmX11_isNode lkX11_308 rfl rfl (by decide) hq0 (by decide) rfl rfl (Nat.le_of_ble_eq_true rfl) dX11_drop_2 (ctX11_isNode C.inj hq0) h (fun x2 M1 h => ?_)
  refine s_if_eq C 15 (by decide) dX11_drop_5 h (fun _ h => ?_) (fun _ h => ?_)
  · refine s_ldc2 C (-2 : Int64) kl_X11_316 dX11_drop_15 ?_
    exact s_lret C E dX11_drop_18 h
  · refine i_iload_n C dX11_drop_8 2 rfl ?_
    refine s_scI C [_] smX11_isPart lkX11_313 (by decide) rfl rfl (Nat.le_of_ble_eq_true rfl) dX11_drop_9 (ctX11_isPart C.inj ) h (fun x4 M3 h => ?_)
    refine s_if_ne C 19 (by decide) dX11_drop_12 h (fun _ h => ?_) (fun _ h => ?_)
    · refine s_ldc2 C (-2 : Int64) kl_X11_316 dX11_drop_15 ?_
      exact s_lret C E dX11_drop_18 h
    · refine i_aload_n C dX11_drop_19 0 rfl ?_
      refine s_vcV C [] vmX11_lays lkX11_292 rfl rfl (by decide) hq0 (by decide) rfl rfl (Nat.le_of_ble_eq_true rfl) dX11_drop_20 (ctX11_lays C.inj hq0) h (fun M5 h => ?_)
      refine i_aload_n C dX11_drop_23 0 rfl ?_
      refine i_iload_n C dX11_drop_24 1 rfl ?_
      refine s_vcI C [_] vmX11_isDead lkX11_288 rfl rfl (by decide) hq0 (by decide) rfl rfl (Nat.le_of_ble_eq_true rfl) dX11_drop_25 (ctX11_isDead C.inj hq0) h (fun x7 M6 h => ?_)
      refine s_if_eq C 37 (by decide) dX11_drop_28 h (fun _ h => ?_) (fun _ h => ?_)
      · refine i_aload_n C dX11_drop_37 0 rfl ?_
        refine i_iload_n C dX11_drop_38 1 rfl ?_
        refine s_vcL C [_] vmX11_dropOf lkX11_282 rfl rfl (by decide) hq0 (by decide) rfl rfl (Nat.le_of_ble_eq_true rfl) dX11_drop_39 (ctX11_dropOf C.inj hq0) h (fun x9 M8 h => ?_)
        refine i_aload_n C dX11_drop_42 0 rfl ?_
        refine gf11_50 C hq0 dX11_drop_43 ?_
        refine i_iload_n C dX11_drop_46 2 rfl ?_
        refine s_scL C [_, _, _] smX11_part lkX11_320 (by decide) rfl rfl (Nat.le_of_ble_eq_true rfl) dX11_drop_47 (ctX11_part C.inj ) h (fun x11 M10 h => ?_)
        exact s_lret C E dX11_drop_50 h
      · refine s_ldc2 C (-1 : Int64) kl_X11_318 dX11_drop_31 ?_
        refine s_goto C 50 (by decide) dX11_drop_34 ?_
        exact s_lret C E dX11_drop_50 h
theorem ctX11_drop {ad : Nat → Nat} {V : sg_V} {N : Nat} (hi : sg_inj Yr ad) {a0_ : Nat} {x1_ : Int32} {x2_ : Int32} {M : sg_M} (hq0 : sg_K Yr a0_ 11) : ∀ res, fX11_drop N a0_ x1_ x2_ M = some res → sg_cL Yr ad V yX11_drop cX11_drop 3 5 [.ref (ad a0_), .int x1_, .int x2_] M res := fun res h => sg_bodyL (by decide) hi (Nat.le_of_ble_eq_true rfl) (fun X hX C E => by subst hX; exact tX11_drop C E _ _ _  _ hq0 h)
def fX11_throughOf (N : Nat) (a0_ : Nat) (x1_ : Int32) (M : sg_M) : Option (Int64 × sg_M) :=
  if sg_ib ((28 : Int32) + x1_) (Yr.2.2.1 (Yr.2.2.2 a0_ 1)) = true then
  if sg_ib (((2 : Int32) * x1_) + (1 : Int32)) (Yr.2.2.1 (Yr.2.2.2 a0_ 7)) = true then
  sg_b (fX11_dropOf N a0_ (M.1 (Yr.2.2.2 a0_ 7) ((((2 : Int32) * x1_) + (1 : Int32))).toNatClampNeg) M) (fun (x2 : Int64) (M1 : sg_M) =>
  if sg_ib ((2 : Int32) * x1_) (Yr.2.2.1 (Yr.2.2.2 a0_ 7)) = true then
  sg_b (fX11_dropOf N a0_ (M1.1 (Yr.2.2.2 a0_ 7) (((2 : Int32) * x1_)).toNatClampNeg) M1) (fun (x4 : Int64) (M3 : sg_M) =>
  some ((((M.1 (Yr.2.2.2 a0_ 1) (((28 : Int32) + x1_)).toNatClampNeg)).toInt64 * (x2 - x4)), M3))
  else none)
  else none
  else none
set_option maxHeartbeats 4000000 in
set_option maxRecDepth 100000 in
theorem tX11_throughOf {ad : Nat → Nat} {X : sg_X} {N : Nat} {r : Int64 × sg_M} (C : sg_C Yr ad X cX11_throughOf RX11 2 2) (E : sg_eL Yr ad X cX11_throughOf r) : ∀ (a0_ : Nat) (x1_ : Int32) (M : sg_M), sg_K Yr a0_ 11 → fX11_throughOf N a0_ x1_ M = some r → sg_T Yr ad X 2 0 [(0, .ref (ad a0_)), (1, .int x1_)] [] M := by
  intro a0_ x1_ M hq0 h
  unfold fX11_throughOf at h
  refine i_aload_n C dX11_throughOf_0 0 rfl ?_
  refine gf11_9 C hq0 dX11_throughOf_1 ?_
  refine s_bipush C (28 : Int32) dX11_throughOf_4 (by decide) ?_
  refine i_iload_n C dX11_throughOf_6 1 rfl ?_
  refine s_iadd C dX11_throughOf_7 ?_
  refine s_iald C (ky11_1 hq0) dX11_throughOf_8 h (fun h => ?_)
  refine s_i2l C dX11_throughOf_9 ?_
  refine i_aload_n C dX11_throughOf_10 0 rfl ?_
  refine i_aload_n C dX11_throughOf_11 0 rfl ?_
  refine gf11_26 C hq0 dX11_throughOf_12 ?_
  refine s_iconst C (2 : Int32) dX11_throughOf_15 (by decide) ?_
  refine i_iload_n C dX11_throughOf_16 1 rfl ?_
  refine s_imul C dX11_throughOf_17 ?_
  refine s_iconst C (1 : Int32) dX11_throughOf_18 (by decide) ?_
  refine s_iadd C dX11_throughOf_19 ?_
  refine s_iald C (ky11_7 hq0) dX11_throughOf_20 h (fun h => ?_)
  refine s_vcL C [_] vmX11_dropOf lkX11_282 rfl rfl (by decide) hq0 (by decide) rfl rfl (Nat.le_of_ble_eq_true rfl) dX11_throughOf_21 (ctX11_dropOf C.inj hq0) h (fun x2 M1 h => ?_)
  refine i_aload_n C dX11_throughOf_24 0 rfl ?_
  refine i_aload_n C dX11_throughOf_25 0 rfl ?_
  refine gf11_26 C hq0 dX11_throughOf_26 ?_
  refine s_iconst C (2 : Int32) dX11_throughOf_29 (by decide) ?_
  refine i_iload_n C dX11_throughOf_30 1 rfl ?_
  refine s_imul C dX11_throughOf_31 ?_
  refine s_iald C (ky11_7 hq0) dX11_throughOf_32 h (fun h => ?_)
  refine s_vcL C [_] vmX11_dropOf lkX11_282 rfl rfl (by decide) hq0 (by decide) rfl rfl (Nat.le_of_ble_eq_true rfl) dX11_throughOf_33 (ctX11_dropOf C.inj hq0) h (fun x4 M3 h => ?_)
  refine s_lsub C dX11_throughOf_36 ?_
  refine s_lmul C dX11_throughOf_37 ?_
  exact s_lret C E dX11_throughOf_38 h
theorem ctX11_throughOf {ad : Nat → Nat} {V : sg_V} {N : Nat} (hi : sg_inj Yr ad) {a0_ : Nat} {x1_ : Int32} {M : sg_M} (hq0 : sg_K Yr a0_ 11) : ∀ res, fX11_throughOf N a0_ x1_ M = some res → sg_cL Yr ad V yX11_throughOf cX11_throughOf 2 2 [.ref (ad a0_), .int x1_] M res := fun res h => sg_bodyL (by decide) hi (Nat.le_of_ble_eq_true rfl) (fun X hX C E => by subst hX; exact tX11_throughOf C E _ _  _ hq0 h)
def fX11_through (N : Nat) (a0_ : Nat) (x1_ : Int32) (x2_ : Int32) (M : sg_M) : Option (Int64 × sg_M) :=
  sg_b (fX11_isStrap N a0_ x1_ M) (fun (x2 : Int32) (M1 : sg_M) =>
  if x2 = 0 then (
  some ((-9223372036854775808 : Int64), M1)) else (
  sg_b (fX11_isPart N x2_ M1) (fun (x4 : Int32) (M3 : sg_M) =>
  if x4 = 0 then (
  some ((-9223372036854775808 : Int64), M3)) else (
  sg_bv (fX11_lays N a0_ M3) (fun M5 : sg_M =>
  sg_b (fX11_throughOf N a0_ x1_ M5) (fun (x7 : Int64) (M6 : sg_M) =>
  sg_b (fX11_part N x7 (M6.2 a0_ 26) x2_ M6) (fun (x9 : Int64) (M8 : sg_M) =>
  some (x9, M8))))))))
set_option maxHeartbeats 4000000 in
set_option maxRecDepth 100000 in
theorem tX11_through {ad : Nat → Nat} {X : sg_X} {N : Nat} {r : Int64 × sg_M} (C : sg_C Yr ad X cX11_through RX11 3 5) (E : sg_eL Yr ad X cX11_through r) : ∀ (a0_ : Nat) (x1_ : Int32) (x2_ : Int32) (M : sg_M), sg_K Yr a0_ 11 → fX11_through N a0_ x1_ x2_ M = some r → sg_T Yr ad X 3 0 [(0, .ref (ad a0_)), (1, .int x1_), (2, .int x2_)] [] M := by
  intro a0_ x1_ x2_ M hq0 h
  unfold fX11_through at h
  refine i_aload_n C dX11_through_0 0 rfl ?_
  refine i_iload_n C dX11_through_1 1 rfl ?_
  refine s_vcI C [_] vmX11_isStrap lkX11_305 rfl rfl (by decide) hq0 (by decide) rfl rfl (Nat.le_of_ble_eq_true rfl) dX11_through_2 (ctX11_isStrap C.inj hq0) h (fun x2 M1 h => ?_)
  refine s_if_eq C 15 (by decide) dX11_through_5 h (fun _ h => ?_) (fun _ h => ?_)
  · refine s_ldc2 C (-9223372036854775808 : Int64) kl_X11_326 dX11_through_15 ?_
    exact s_lret C E dX11_through_18 h
  · refine i_iload_n C dX11_through_8 2 rfl ?_
    refine s_scI C [_] smX11_isPart lkX11_313 (by decide) rfl rfl (Nat.le_of_ble_eq_true rfl) dX11_through_9 (ctX11_isPart C.inj ) h (fun x4 M3 h => ?_)
    refine s_if_ne C 19 (by decide) dX11_through_12 h (fun _ h => ?_) (fun _ h => ?_)
    · refine s_ldc2 C (-9223372036854775808 : Int64) kl_X11_326 dX11_through_15 ?_
      exact s_lret C E dX11_through_18 h
    · refine i_aload_n C dX11_through_19 0 rfl ?_
      refine s_vcV C [] vmX11_lays lkX11_292 rfl rfl (by decide) hq0 (by decide) rfl rfl (Nat.le_of_ble_eq_true rfl) dX11_through_20 (ctX11_lays C.inj hq0) h (fun M5 h => ?_)
      refine i_aload_n C dX11_through_23 0 rfl ?_
      refine i_iload_n C dX11_through_24 1 rfl ?_
      refine s_vcL C [_] vmX11_throughOf lkX11_328 rfl rfl (by decide) hq0 (by decide) rfl rfl (Nat.le_of_ble_eq_true rfl) dX11_through_25 (ctX11_throughOf C.inj hq0) h (fun x7 M6 h => ?_)
      refine i_aload_n C dX11_through_28 0 rfl ?_
      refine gf11_50 C hq0 dX11_through_29 ?_
      refine i_iload_n C dX11_through_32 2 rfl ?_
      refine s_scL C [_, _, _] smX11_part lkX11_320 (by decide) rfl rfl (Nat.le_of_ble_eq_true rfl) dX11_through_33 (ctX11_part C.inj ) h (fun x9 M8 h => ?_)
      exact s_lret C E dX11_through_36 h
theorem ctX11_through {ad : Nat → Nat} {V : sg_V} {N : Nat} (hi : sg_inj Yr ad) {a0_ : Nat} {x1_ : Int32} {x2_ : Int32} {M : sg_M} (hq0 : sg_K Yr a0_ 11) : ∀ res, fX11_through N a0_ x1_ x2_ M = some res → sg_cL Yr ad V yX11_through cX11_through 3 5 [.ref (ad a0_), .int x1_, .int x2_] M res := fun res h => sg_bodyL (by decide) hi (Nat.le_of_ble_eq_true rfl) (fun X hX C E => by subst hX; exact tX11_through C E _ _ _  _ hq0 h)
def gX11_givesOf_50 (N : Nat) (k19 : (Nat × Int32 × Int64 × Int32) → sg_M → Option (Int64 × sg_M)) (a0_ : Nat) (x1_ : Int32) (x2_ : Int64) (x4_ : Int32) (M : sg_M) : Option (Int64 × sg_M) :=
  if sg_ib (((2 : Int32) * x4_) + (1 : Int32)) (Yr.2.2.1 (Yr.2.2.2 a0_ 7)) = true then
  if (M.1 (Yr.2.2.2 a0_ 7) ((((2 : Int32) * x4_) + (1 : Int32))).toNatClampNeg) = x1_ then (
  sg_b (fX11_throughOf N a0_ x4_ M) (fun (x2 : Int64) (M1 : sg_M) =>
  sg_m (x2_ - x2) (fun x3 : Int64 =>
  sg_m (x4_ + (1 : Int32)) (fun x4 : Int32 =>
  k19 (a0_, x1_, x3, x4) M1)))) else (
  sg_m (x4_ + (1 : Int32)) (fun x5 : Int32 =>
  k19 (a0_, x1_, x2_, x5) M))
  else none
set_option maxHeartbeats 4000000 in
set_option maxRecDepth 100000 in
theorem tX11_givesOf_50 {ad : Nat → Nat} {X : sg_X} {N : Nat} {r : Int64 × sg_M} (C : sg_C Yr ad X cX11_givesOf RX11 5 3) (E : sg_eL Yr ad X cX11_givesOf r) {k19 : (Nat × Int32 × Int64 × Int32) → sg_M → Option (Int64 × sg_M)} (hk19 : ∀ (s : Nat × Int32 × Int64 × Int32) (M : sg_M), k19 s M = some r → sg_K Yr s.1 11 → sg_T Yr ad X 5 19 [(0, .ref (ad (s.1))), (1, .int (s.2.1)), (2, .long (s.2.2.1)), (4, .int (s.2.2.2))] [] M) : ∀ (a0_ : Nat) (x1_ : Int32) (x2_ : Int64) (x4_ : Int32) (M : sg_M), gX11_givesOf_50 N k19 a0_ x1_ x2_ x4_ M = some r → sg_K Yr a0_ 11 → sg_T Yr ad X 5 50 [(0, .ref (ad a0_)), (1, .int x1_), (2, .long x2_), (4, .int x4_)] [] M := by
  intro a0_ x1_ x2_ x4_ M h hq0
  unfold gX11_givesOf_50 at h
  refine i_aload_n C dX11_givesOf_50 0 rfl ?_
  refine gf11_26 C hq0 dX11_givesOf_51 ?_
  refine s_iconst C (2 : Int32) dX11_givesOf_54 (by decide) ?_
  refine i_iload C dX11_givesOf_55 3 rfl ?_
  refine s_imul C dX11_givesOf_57 ?_
  refine s_iconst C (1 : Int32) dX11_givesOf_58 (by decide) ?_
  refine s_iadd C dX11_givesOf_59 ?_
  refine s_iald C (ky11_7 hq0) dX11_givesOf_60 h (fun h => ?_)
  refine i_iload_n C dX11_givesOf_61 1 rfl ?_
  refine s_icmp_ne C 74 (by decide) dX11_givesOf_62 h (fun _ h => ?_) (fun _ h => ?_)
  · refine i_lload_n C dX11_givesOf_65 2 rfl ?_
    refine i_aload_n C dX11_givesOf_66 0 rfl ?_
    refine i_iload C dX11_givesOf_67 3 rfl ?_
    refine s_vcL C [_] vmX11_throughOf lkX11_328 rfl rfl (by decide) hq0 (by decide) rfl rfl (Nat.le_of_ble_eq_true rfl) dX11_givesOf_69 (ctX11_throughOf C.inj hq0) h (fun x2 M1 h => ?_)
    refine s_lsub C dX11_givesOf_72 ?_
    refine z_gl h (fun x3 h => ?_)
    refine i_lstore_n (lv9 := [(2, _), (0, _), (1, _), (4, _)]) C 2 dX11_givesOf_73 rfl (by decide) rfl ?_
    refine z_iinc (n := 1) (c9 := (1 : Int32)) (by decide) h (fun x4 hx h => ?_)
    refine i_iinc (lv9 := [(4, _), (2, _), (0, _), (1, _)]) C dX11_givesOf_74 3 rfl hx (by decide) rfl ?_
    refine s_goto C 19 (by decide) dX11_givesOf_77 ?_
    exact sg_T.to (hk19 _ _ h hq0) [2, 3, 1, 0] rfl
  · refine z_iinc (n := 1) (c9 := (1 : Int32)) (by decide) h (fun x5 hx h => ?_)
    refine i_iinc (lv9 := [(4, _), (0, _), (1, _), (2, _)]) C dX11_givesOf_74 3 rfl hx (by decide) rfl ?_
    refine s_goto C 19 (by decide) dX11_givesOf_77 ?_
    exact sg_T.to (hk19 _ _ h hq0) [1, 2, 3, 0] rfl
def bX11_givesOf_19 (N : Nat)  (k19 : (Nat × Int32 × Int64 × Int32) → sg_M → Option (Int64 × sg_M)) (s : Nat × Int32 × Int64 × Int32) (M : sg_M) : Option (Int64 × sg_M) :=
  if (M.1 s.1 8) ≤ s.2.2.2 then (
  some (s.2.2.1, M)) else (
  if sg_ib ((2 : Int32) * s.2.2.2) (Yr.2.2.1 (Yr.2.2.2 s.1 7)) = true then
  if (M.1 (Yr.2.2.2 s.1 7) (((2 : Int32) * s.2.2.2)).toNatClampNeg) = s.2.1 then (
  sg_b (fX11_throughOf N s.1 s.2.2.2 M) (fun (x7 : Int64) (M6 : sg_M) =>
  sg_m (s.2.2.1 + x7) (fun x8 : Int64 =>
  gX11_givesOf_50 N k19 s.1 s.2.1 x8 s.2.2.2 M6))) else (
  gX11_givesOf_50 N k19 s.1 s.2.1 s.2.2.1 s.2.2.2 M)
  else none)
def gX11_givesOf_19 (N : Nat)  : (Nat × Int32 × Int64 × Int32) → sg_M → Option (Int64 × sg_M) := sg_lp (bX11_givesOf_19 N ) N
set_option maxHeartbeats 4000000 in
set_option maxRecDepth 100000 in
theorem tX11_givesOf_19 {ad : Nat → Nat} {X : sg_X} {N : Nat} {r : Int64 × sg_M} (C : sg_C Yr ad X cX11_givesOf RX11 5 3) (E : sg_eL Yr ad X cX11_givesOf r)  : ∀ (s : Nat × Int32 × Int64 × Int32) (M : sg_M), gX11_givesOf_19 N s M = some r → sg_K Yr s.1 11 → sg_T Yr ad X 5 19 [(0, .ref (ad (s.1))), (1, .int (s.2.1)), (2, .long (s.2.2.1)), (4, .int (s.2.2.2))] [] M := by
  have key : ∀ n : Nat, ∀ (s : Nat × Int32 × Int64 × Int32) (M : sg_M), sg_lp (bX11_givesOf_19 N) n s M = some r → sg_K Yr s.1 11 → sg_T Yr ad X 5 19 [(0, .ref (ad (s.1))), (1, .int (s.2.1)), (2, .long (s.2.2.1)), (4, .int (s.2.2.2))] [] M := by
    intro n
    induction n with
    | zero => intro s M h; cases h
    | succ n ih =>
      intro s M h hq0
      have h : bX11_givesOf_19 N (sg_lp (bX11_givesOf_19 N) n) s M = some r := h
      generalize sg_lp (bX11_givesOf_19 N) n = k19 at h ih
      have hk19 := ih
      unfold bX11_givesOf_19 at h
      refine i_iload C dX11_givesOf_19 3 rfl ?_
      refine i_aload_n C dX11_givesOf_21 0 rfl ?_
      refine gf11_102 C hq0 dX11_givesOf_22 ?_
      refine s_icmp_ge C 80 (by decide) dX11_givesOf_25 h (fun _ h => ?_) (fun _ h => ?_)
      · refine i_lload_n C dX11_givesOf_80 2 rfl ?_
        exact s_lret C E dX11_givesOf_81 h
      · refine i_aload_n C dX11_givesOf_28 0 rfl ?_
        refine gf11_26 C hq0 dX11_givesOf_29 ?_
        refine s_iconst C (2 : Int32) dX11_givesOf_32 (by decide) ?_
        refine i_iload C dX11_givesOf_33 3 rfl ?_
        refine s_imul C dX11_givesOf_35 ?_
        refine s_iald C (ky11_7 hq0) dX11_givesOf_36 h (fun h => ?_)
        refine i_iload_n C dX11_givesOf_37 1 rfl ?_
        refine s_icmp_ne C 50 (by decide) dX11_givesOf_38 h (fun _ h => ?_) (fun _ h => ?_)
        · refine i_lload_n C dX11_givesOf_41 2 rfl ?_
          refine i_aload_n C dX11_givesOf_42 0 rfl ?_
          refine i_iload C dX11_givesOf_43 3 rfl ?_
          refine s_vcL C [_] vmX11_throughOf lkX11_328 rfl rfl (by decide) hq0 (by decide) rfl rfl (Nat.le_of_ble_eq_true rfl) dX11_givesOf_45 (ctX11_throughOf C.inj hq0) h (fun x7 M6 h => ?_)
          refine s_ladd C dX11_givesOf_48 ?_
          refine z_gl h (fun x8 h => ?_)
          refine i_lstore_n (lv9 := [(2, _), (0, _), (1, _), (4, _)]) C 2 dX11_givesOf_49 rfl (by decide) rfl ?_
          exact sg_T.to (tX11_givesOf_50 C E hk19 _ _ _ _ _ h hq0) [1, 2, 0, 3] rfl
        · exact sg_T.to (tX11_givesOf_50 C E hk19 _ _ _ _ _ h hq0) [0, 1, 2, 3] rfl
  exact key N
def fX11_givesOf (N : Nat) (a0_ : Nat) (x1_ : Int32) (M : sg_M) : Option (Int64 × sg_M) :=
  if sg_ib ((6 : Int32) + x1_) (Yr.2.2.1 (Yr.2.2.2 a0_ 1)) = true then
  sg_m (((M.1 (Yr.2.2.2 a0_ 1) (((6 : Int32) + x1_)).toNatClampNeg)).toInt64 * (M.2 a0_ 26)) (fun x9 : Int64 =>
  sg_m (0 : Int32) (fun x10 : Int32 =>
  gX11_givesOf_19 N (a0_, x1_, x9, x10) M))
  else none
set_option maxHeartbeats 4000000 in
set_option maxRecDepth 100000 in
theorem tX11_givesOf {ad : Nat → Nat} {X : sg_X} {N : Nat} {r : Int64 × sg_M} (C : sg_C Yr ad X cX11_givesOf RX11 5 3) (E : sg_eL Yr ad X cX11_givesOf r) : ∀ (a0_ : Nat) (x1_ : Int32) (M : sg_M), sg_K Yr a0_ 11 → fX11_givesOf N a0_ x1_ M = some r → sg_T Yr ad X 5 0 [(0, .ref (ad a0_)), (1, .int x1_)] [] M := by
  intro a0_ x1_ M hq0 h
  unfold fX11_givesOf at h
  refine i_aload_n C dX11_givesOf_0 0 rfl ?_
  refine gf11_9 C hq0 dX11_givesOf_1 ?_
  refine s_bipush C (6 : Int32) dX11_givesOf_4 (by decide) ?_
  refine i_iload_n C dX11_givesOf_6 1 rfl ?_
  refine s_iadd C dX11_givesOf_7 ?_
  refine s_iald C (ky11_1 hq0) dX11_givesOf_8 h (fun h => ?_)
  refine s_i2l C dX11_givesOf_9 ?_
  refine i_aload_n C dX11_givesOf_10 0 rfl ?_
  refine gf11_50 C hq0 dX11_givesOf_11 ?_
  refine s_lmul C dX11_givesOf_14 ?_
  refine z_gl h (fun x9 h => ?_)
  refine i_lstore_n (lv9 := [(2, _), (0, _), (1, _)]) C 2 dX11_givesOf_15 rfl (by decide) rfl ?_
  refine s_iconst C (0 : Int32) dX11_givesOf_16 (by decide) ?_
  refine z_gi h (fun x10 h => ?_)
  refine i_istore (lv9 := [(4, _), (2, _), (0, _), (1, _)]) C dX11_givesOf_17 (by decide) rfl ?_
  exact sg_T.to (tX11_givesOf_19 C E _ _ h hq0) [2, 3, 1, 0] rfl
theorem ctX11_givesOf {ad : Nat → Nat} {V : sg_V} {N : Nat} (hi : sg_inj Yr ad) {a0_ : Nat} {x1_ : Int32} {M : sg_M} (hq0 : sg_K Yr a0_ 11) : ∀ res, fX11_givesOf N a0_ x1_ M = some res → sg_cL Yr ad V yX11_givesOf cX11_givesOf 5 3 [.ref (ad a0_), .int x1_] M res := fun res h => sg_bodyL (by decide) hi (Nat.le_of_ble_eq_true rfl) (fun X hX C E => by subst hX; exact tX11_givesOf C E _ _  _ hq0 h)
def bX11_chief_14 (N : Nat)  (k14 : (Nat × Int32 × Int32) → sg_M → Option (Int32 × sg_M)) (s : Nat × Int32 × Int32) (M : sg_M) : Option (Int32 × sg_M) :=
  sg_b (fX11_nodes N s.1 M) (fun (x2 : Int32) (M1 : sg_M) =>
  if x2 ≤ s.2.2 then (
  some (s.2.1, M1)) else (
  if sg_ib (5 : Int32) (Yr.2.2.1 (Yr.2.2.2 s.1 1)) = true then
  sg_b (fX11_isOf N (M1.1 (Yr.2.2.2 s.1 1) ((5 : Int32)).toNatClampNeg) s.2.2 M1) (fun (x4 : Int32) (M3 : sg_M) =>
  if x4 = 0 then (
  sg_m (s.2.2 + (1 : Int32)) (fun x5 : Int32 =>
  k14 (s.1, s.2.1, x5) M3)) else (
  if s.2.1 = (-1 : Int32) then (
  sg_m s.2.2 (fun x6 : Int32 =>
  sg_m (s.2.2 + (1 : Int32)) (fun x7 : Int32 =>
  k14 (s.1, x6, x7) M3))) else (
  sg_b (fX11_givesOf N s.1 s.2.2 M3) (fun (x9 : Int64) (M8 : sg_M) =>
  sg_b (fX11_givesOf N s.1 s.2.1 M8) (fun (x11 : Int64) (M10 : sg_M) =>
  if (lg_cmp x9 x11) ≤ 0 then (
  sg_m (s.2.2 + (1 : Int32)) (fun x12 : Int32 =>
  k14 (s.1, s.2.1, x12) M10)) else (
  sg_m s.2.2 (fun x13 : Int32 =>
  sg_m (s.2.2 + (1 : Int32)) (fun x14 : Int32 =>
  k14 (s.1, x13, x14) M10))))))))
  else none))
def gX11_chief_14 (N : Nat)  : (Nat × Int32 × Int32) → sg_M → Option (Int32 × sg_M) := sg_lp (bX11_chief_14 N ) N
set_option maxHeartbeats 4000000 in
set_option maxRecDepth 100000 in
theorem tX11_chief_14 {ad : Nat → Nat} {X : sg_X} {N : Nat} {r : Int32 × sg_M} (C : sg_C Yr ad X cX11_chief RX11 3 6) (E : sg_eI Yr ad X cX11_chief .int r)  : ∀ (s : Nat × Int32 × Int32) (M : sg_M), gX11_chief_14 N s M = some r → sg_K Yr s.1 11 → sg_T Yr ad X 3 14 [(0, .ref (ad (s.1))), (1, .int (s.2.1)), (2, .int (s.2.2))] [] M := by
  have key : ∀ n : Nat, ∀ (s : Nat × Int32 × Int32) (M : sg_M), sg_lp (bX11_chief_14 N) n s M = some r → sg_K Yr s.1 11 → sg_T Yr ad X 3 14 [(0, .ref (ad (s.1))), (1, .int (s.2.1)), (2, .int (s.2.2))] [] M := by
    intro n
    induction n with
    | zero => intro s M h; cases h
    | succ n ih =>
      intro s M h hq0
      have h : bX11_chief_14 N (sg_lp (bX11_chief_14 N) n) s M = some r := h
      generalize sg_lp (bX11_chief_14 N) n = k14 at h ih
      have hk14 := ih
      unfold bX11_chief_14 at h
      refine i_iload_n C dX11_chief_14 2 rfl ?_
      refine i_aload_n C dX11_chief_15 0 rfl ?_
      refine s_vcI C [] vmX11_nodes lkX11_98 rfl rfl (by decide) hq0 (by decide) rfl rfl (Nat.le_of_ble_eq_true rfl) dX11_chief_16 (ctX11_nodes C.inj hq0) h (fun x2 M1 h => ?_)
      refine s_icmp_ge C 62 (by decide) dX11_chief_19 h (fun _ h => ?_) (fun _ h => ?_)
      · refine i_iload_n C dX11_chief_62 1 rfl ?_
        exact s_iret C E dX11_chief_63 h
      · refine i_aload_n C dX11_chief_22 0 rfl ?_
        refine gf11_9 C hq0 dX11_chief_23 ?_
        refine s_iconst C (5 : Int32) dX11_chief_26 (by decide) ?_
        refine s_iald C (ky11_1 hq0) dX11_chief_27 h (fun h => ?_)
        refine i_iload_n C dX11_chief_28 2 rfl ?_
        refine s_scI C [_, _] smX11_isOf lkX11_209 (by decide) rfl rfl (Nat.le_of_ble_eq_true rfl) dX11_chief_29 (ctX11_isOf C.inj ) h (fun x4 M3 h => ?_)
        refine s_if_eq C 56 (by decide) dX11_chief_32 h (fun _ h => ?_) (fun _ h => ?_)
        · refine z_iinc (n := 1) (c9 := (1 : Int32)) (by decide) h (fun x5 hx h => ?_)
          refine i_iinc (lv9 := [(2, _), (0, _), (1, _)]) C dX11_chief_56 2 rfl hx (by decide) rfl ?_
          refine s_goto C 14 (by decide) dX11_chief_59 ?_
          exact sg_T.to (hk14 _ _ h hq0) [1, 2, 0] rfl
        · refine i_iload_n C dX11_chief_35 1 rfl ?_
          refine s_iconst C (-1 : Int32) dX11_chief_36 (by decide) ?_
          refine s_icmp_eq C 54 (by decide) dX11_chief_37 h (fun _ h => ?_) (fun _ h => ?_)
          · refine i_iload_n C dX11_chief_54 2 rfl ?_
            refine z_gi h (fun x6 h => ?_)
            refine i_istore_n (lv9 := [(1, _), (0, _), (2, _)]) C 1 dX11_chief_55 rfl (by decide) rfl ?_
            refine z_iinc (n := 1) (c9 := (1 : Int32)) (by decide) h (fun x7 hx h => ?_)
            refine i_iinc (lv9 := [(2, _), (1, _), (0, _)]) C dX11_chief_56 2 rfl hx (by decide) rfl ?_
            refine s_goto C 14 (by decide) dX11_chief_59 ?_
            exact sg_T.to (hk14 _ _ h hq0) [2, 1, 0] rfl
          · refine i_aload_n C dX11_chief_40 0 rfl ?_
            refine i_iload_n C dX11_chief_41 2 rfl ?_
            refine s_vcL C [_] vmX11_givesOf lkX11_331 rfl rfl (by decide) hq0 (by decide) rfl rfl (Nat.le_of_ble_eq_true rfl) dX11_chief_42 (ctX11_givesOf C.inj hq0) h (fun x9 M8 h => ?_)
            refine i_aload_n C dX11_chief_45 0 rfl ?_
            refine i_iload_n C dX11_chief_46 1 rfl ?_
            refine s_vcL C [_] vmX11_givesOf lkX11_331 rfl rfl (by decide) hq0 (by decide) rfl rfl (Nat.le_of_ble_eq_true rfl) dX11_chief_47 (ctX11_givesOf C.inj hq0) h (fun x11 M10 h => ?_)
            refine s_lcmp C dX11_chief_50 ?_
            refine s_if_le C 56 (by decide) dX11_chief_51 h (fun _ h => ?_) (fun _ h => ?_)
            · refine z_iinc (n := 1) (c9 := (1 : Int32)) (by decide) h (fun x12 hx h => ?_)
              refine i_iinc (lv9 := [(2, _), (0, _), (1, _)]) C dX11_chief_56 2 rfl hx (by decide) rfl ?_
              refine s_goto C 14 (by decide) dX11_chief_59 ?_
              exact sg_T.to (hk14 _ _ h hq0) [1, 2, 0] rfl
            · refine i_iload_n C dX11_chief_54 2 rfl ?_
              refine z_gi h (fun x13 h => ?_)
              refine i_istore_n (lv9 := [(1, _), (0, _), (2, _)]) C 1 dX11_chief_55 rfl (by decide) rfl ?_
              refine z_iinc (n := 1) (c9 := (1 : Int32)) (by decide) h (fun x14 hx h => ?_)
              refine i_iinc (lv9 := [(2, _), (1, _), (0, _)]) C dX11_chief_56 2 rfl hx (by decide) rfl ?_
              refine s_goto C 14 (by decide) dX11_chief_59 ?_
              exact sg_T.to (hk14 _ _ h hq0) [2, 1, 0] rfl
  exact key N
def fX11_chief (N : Nat) (a0_ : Nat) (M : sg_M) : Option (Int32 × sg_M) :=
  sg_b (fX11_asks N a0_ M) (fun (x16 : Int32) (M15 : sg_M) =>
  if x16 = 0 then (
  some ((-2 : Int32), M15)) else (
  sg_m (-1 : Int32) (fun x17 : Int32 =>
  sg_m (0 : Int32) (fun x18 : Int32 =>
  gX11_chief_14 N (a0_, x17, x18) M15))))
set_option maxHeartbeats 4000000 in
set_option maxRecDepth 100000 in
theorem tX11_chief {ad : Nat → Nat} {X : sg_X} {N : Nat} {r : Int32 × sg_M} (C : sg_C Yr ad X cX11_chief RX11 3 6) (E : sg_eI Yr ad X cX11_chief .int r) : ∀ (a0_ : Nat) (M : sg_M), sg_K Yr a0_ 11 → fX11_chief N a0_ M = some r → sg_T Yr ad X 3 0 [(0, .ref (ad a0_))] [] M := by
  intro a0_ M hq0 h
  unfold fX11_chief at h
  refine i_aload_n C dX11_chief_0 0 rfl ?_
  refine s_vcI C [] vmX11_asks lkX11_302 rfl rfl (by decide) hq0 (by decide) rfl rfl (Nat.le_of_ble_eq_true rfl) dX11_chief_1 (ctX11_asks C.inj hq0) h (fun x16 M15 h => ?_)
  refine s_if_ne C 10 (by decide) dX11_chief_4 h (fun _ h => ?_) (fun _ h => ?_)
  · refine s_bipush C (-2 : Int32) dX11_chief_7 (by decide) ?_
    exact s_iret C E dX11_chief_9 h
  · refine s_iconst C (-1 : Int32) dX11_chief_10 (by decide) ?_
    refine z_gi h (fun x17 h => ?_)
    refine i_istore_n (lv9 := [(1, _), (0, _)]) C 1 dX11_chief_11 rfl (by decide) rfl ?_
    refine s_iconst C (0 : Int32) dX11_chief_12 (by decide) ?_
    refine z_gi h (fun x18 h => ?_)
    refine i_istore_n (lv9 := [(2, _), (1, _), (0, _)]) C 2 dX11_chief_13 rfl (by decide) rfl ?_
    exact sg_T.to (tX11_chief_14 C E _ _ h hq0) [2, 1, 0] rfl
theorem ctX11_chief {ad : Nat → Nat} {V : sg_V} {N : Nat} (hi : sg_inj Yr ad) {a0_ : Nat} {M : sg_M} (hq0 : sg_K Yr a0_ 11) : ∀ res, fX11_chief N a0_ M = some res → sg_cI Yr ad V yX11_chief cX11_chief 3 .int 6 [.ref (ad a0_)] M res := fun res h => sg_bodyI (by decide) hi (Nat.le_of_ble_eq_true rfl) (fun X hX C E => by subst hX; exact tX11_chief C E _  _ hq0 h)
def bX11_area_14 (N : Nat)  (k14 : (Nat × Int32 × Int32) → sg_M → Option (Int32 × sg_M)) (s : Nat × Int32 × Int32) (M : sg_M) : Option (Int32 × sg_M) :=
  if (12 : Int32) ≤ s.2.2 then (
  some (s.2.1, M)) else (
  if sg_ib ((28 : Int32) + s.2.2) (Yr.2.2.1 (Yr.2.2.2 s.1 1)) = true then
  sg_m (s.2.1 + (M.1 (Yr.2.2.2 s.1 1) (((28 : Int32) + s.2.2)).toNatClampNeg)) (fun x1 : Int32 =>
  sg_m (s.2.2 + (1 : Int32)) (fun x2 : Int32 =>
  k14 (s.1, x1, x2) M))
  else none)
def gX11_area_14 (N : Nat)  : (Nat × Int32 × Int32) → sg_M → Option (Int32 × sg_M) := sg_lp (bX11_area_14 N ) N
set_option maxHeartbeats 4000000 in
set_option maxRecDepth 100000 in
theorem tX11_area_14 {ad : Nat → Nat} {X : sg_X} {N : Nat} {r : Int32 × sg_M} (C : sg_C Yr ad X cX11_area RX11 3 1) (E : sg_eI Yr ad X cX11_area .int r)  : ∀ (s : Nat × Int32 × Int32) (M : sg_M), gX11_area_14 N s M = some r → sg_K Yr s.1 11 → sg_T Yr ad X 3 14 [(0, .ref (ad (s.1))), (1, .int (s.2.1)), (2, .int (s.2.2))] [] M := by
  have key : ∀ n : Nat, ∀ (s : Nat × Int32 × Int32) (M : sg_M), sg_lp (bX11_area_14 N) n s M = some r → sg_K Yr s.1 11 → sg_T Yr ad X 3 14 [(0, .ref (ad (s.1))), (1, .int (s.2.1)), (2, .int (s.2.2))] [] M := by
    intro n
    induction n with
    | zero => intro s M h; cases h
    | succ n ih =>
      intro s M h hq0
      have h : bX11_area_14 N (sg_lp (bX11_area_14 N) n) s M = some r := h
      generalize sg_lp (bX11_area_14 N) n = k14 at h ih
      have hk14 := ih
      unfold bX11_area_14 at h
      refine i_iload_n C dX11_area_14 2 rfl ?_
      refine s_bipush C (12 : Int32) dX11_area_15 (by decide) ?_
      refine s_icmp_ge C 38 (by decide) dX11_area_17 h (fun _ h => ?_) (fun _ h => ?_)
      · refine i_iload_n C dX11_area_38 1 rfl ?_
        exact s_iret C E dX11_area_39 h
      · refine i_iload_n C dX11_area_20 1 rfl ?_
        refine i_aload_n C dX11_area_21 0 rfl ?_
        refine gf11_9 C hq0 dX11_area_22 ?_
        refine s_bipush C (28 : Int32) dX11_area_25 (by decide) ?_
        refine i_iload_n C dX11_area_27 2 rfl ?_
        refine s_iadd C dX11_area_28 ?_
        refine s_iald C (ky11_1 hq0) dX11_area_29 h (fun h => ?_)
        refine s_iadd C dX11_area_30 ?_
        refine z_gi h (fun x1 h => ?_)
        refine i_istore_n (lv9 := [(1, _), (0, _), (2, _)]) C 1 dX11_area_31 rfl (by decide) rfl ?_
        refine z_iinc (n := 1) (c9 := (1 : Int32)) (by decide) h (fun x2 hx h => ?_)
        refine i_iinc (lv9 := [(2, _), (1, _), (0, _)]) C dX11_area_32 2 rfl hx (by decide) rfl ?_
        refine s_goto C 14 (by decide) dX11_area_35 ?_
        exact sg_T.to (hk14 _ _ h hq0) [2, 1, 0] rfl
  exact key N
def fX11_area (N : Nat) (a0_ : Nat) (M : sg_M) : Option (Int32 × sg_M) :=
  sg_b (fX11_isGrid N a0_ M) (fun (x4 : Int32) (M3 : sg_M) =>
  if x4 = 0 then (
  some ((-2 : Int32), M3)) else (
  sg_m (0 : Int32) (fun x5 : Int32 =>
  sg_m (0 : Int32) (fun x6 : Int32 =>
  gX11_area_14 N (a0_, x5, x6) M3))))
set_option maxHeartbeats 4000000 in
set_option maxRecDepth 100000 in
theorem tX11_area {ad : Nat → Nat} {X : sg_X} {N : Nat} {r : Int32 × sg_M} (C : sg_C Yr ad X cX11_area RX11 3 1) (E : sg_eI Yr ad X cX11_area .int r) : ∀ (a0_ : Nat) (M : sg_M), sg_K Yr a0_ 11 → fX11_area N a0_ M = some r → sg_T Yr ad X 3 0 [(0, .ref (ad a0_))] [] M := by
  intro a0_ M hq0 h
  unfold fX11_area at h
  refine i_aload_n C dX11_area_0 0 rfl ?_
  refine s_vcI C [] vmX11_isGrid lkX11_109 rfl rfl (by decide) hq0 (by decide) rfl rfl (Nat.le_of_ble_eq_true rfl) dX11_area_1 (ctX11_isGrid C.inj hq0) h (fun x4 M3 h => ?_)
  refine s_if_ne C 10 (by decide) dX11_area_4 h (fun _ h => ?_) (fun _ h => ?_)
  · refine s_bipush C (-2 : Int32) dX11_area_7 (by decide) ?_
    exact s_iret C E dX11_area_9 h
  · refine s_iconst C (0 : Int32) dX11_area_10 (by decide) ?_
    refine z_gi h (fun x5 h => ?_)
    refine i_istore_n (lv9 := [(1, _), (0, _)]) C 1 dX11_area_11 rfl (by decide) rfl ?_
    refine s_iconst C (0 : Int32) dX11_area_12 (by decide) ?_
    refine z_gi h (fun x6 h => ?_)
    refine i_istore_n (lv9 := [(2, _), (1, _), (0, _)]) C 2 dX11_area_13 rfl (by decide) rfl ?_
    exact sg_T.to (tX11_area_14 C E _ _ h hq0) [2, 1, 0] rfl
theorem ctX11_area {ad : Nat → Nat} {V : sg_V} {N : Nat} (hi : sg_inj Yr ad) {a0_ : Nat} {M : sg_M} (hq0 : sg_K Yr a0_ 11) : ∀ res, fX11_area N a0_ M = some res → sg_cI Yr ad V yX11_area cX11_area 3 .int 1 [.ref (ad a0_)] M res := fun res h => sg_bodyI (by decide) hi (Nat.le_of_ble_eq_true rfl) (fun X hX C E => by subst hX; exact tX11_area C E _  _ hq0 h)
def fX11_gives (N : Nat) (a0_ : Nat) (x1_ : Int32) (x2_ : Int32) (M : sg_M) : Option (Int64 × sg_M) :=
  sg_b (fX11_isNode N a0_ x1_ M) (fun (x2 : Int32) (M1 : sg_M) =>
  if x2 = 0 then (
  some ((-2 : Int64), M1)) else (
  sg_b (fX11_isPart N x2_ M1) (fun (x4 : Int32) (M3 : sg_M) =>
  if x4 = 0 then (
  some ((-2 : Int64), M3)) else (
  if sg_ib (5 : Int32) (Yr.2.2.1 (Yr.2.2.2 a0_ 1)) = true then
  sg_b (fX11_isOf N (M3.1 (Yr.2.2.2 a0_ 1) ((5 : Int32)).toNatClampNeg) x1_ M3) (fun (x6 : Int32) (M5 : sg_M) =>
  if x6 = 0 then (
  some ((-1 : Int64), M5)) else (
  sg_bv (fX11_lays N a0_ M5) (fun M7 : sg_M =>
  sg_b (fX11_givesOf N a0_ x1_ M7) (fun (x9 : Int64) (M8 : sg_M) =>
  sg_b (fX11_part N x9 (M8.2 a0_ 26) x2_ M8) (fun (x11 : Int64) (M10 : sg_M) =>
  some (x11, M10))))))
  else none))))
set_option maxHeartbeats 4000000 in
set_option maxRecDepth 100000 in
theorem tX11_gives {ad : Nat → Nat} {X : sg_X} {N : Nat} {r : Int64 × sg_M} (C : sg_C Yr ad X cX11_gives RX11 3 5) (E : sg_eL Yr ad X cX11_gives r) : ∀ (a0_ : Nat) (x1_ : Int32) (x2_ : Int32) (M : sg_M), sg_K Yr a0_ 11 → fX11_gives N a0_ x1_ x2_ M = some r → sg_T Yr ad X 3 0 [(0, .ref (ad a0_)), (1, .int x1_), (2, .int x2_)] [] M := by
  intro a0_ x1_ x2_ M hq0 h
  unfold fX11_gives at h
  refine i_aload_n C dX11_gives_0 0 rfl ?_
  refine i_iload_n C dX11_gives_1 1 rfl ?_
  refine s_vcI C [_] vmX11_isNode lkX11_308 rfl rfl (by decide) hq0 (by decide) rfl rfl (Nat.le_of_ble_eq_true rfl) dX11_gives_2 (ctX11_isNode C.inj hq0) h (fun x2 M1 h => ?_)
  refine s_if_eq C 15 (by decide) dX11_gives_5 h (fun _ h => ?_) (fun _ h => ?_)
  · refine s_ldc2 C (-2 : Int64) kl_X11_316 dX11_gives_15 ?_
    exact s_lret C E dX11_gives_18 h
  · refine i_iload_n C dX11_gives_8 2 rfl ?_
    refine s_scI C [_] smX11_isPart lkX11_313 (by decide) rfl rfl (Nat.le_of_ble_eq_true rfl) dX11_gives_9 (ctX11_isPart C.inj ) h (fun x4 M3 h => ?_)
    refine s_if_ne C 19 (by decide) dX11_gives_12 h (fun _ h => ?_) (fun _ h => ?_)
    · refine s_ldc2 C (-2 : Int64) kl_X11_316 dX11_gives_15 ?_
      exact s_lret C E dX11_gives_18 h
    · refine i_aload_n C dX11_gives_19 0 rfl ?_
      refine gf11_9 C hq0 dX11_gives_20 ?_
      refine s_iconst C (5 : Int32) dX11_gives_23 (by decide) ?_
      refine s_iald C (ky11_1 hq0) dX11_gives_24 h (fun h => ?_)
      refine i_iload_n C dX11_gives_25 1 rfl ?_
      refine s_scI C [_, _] smX11_isOf lkX11_209 (by decide) rfl rfl (Nat.le_of_ble_eq_true rfl) dX11_gives_26 (ctX11_isOf C.inj ) h (fun x6 M5 h => ?_)
      refine s_if_ne C 36 (by decide) dX11_gives_29 h (fun _ h => ?_) (fun _ h => ?_)
      · refine s_ldc2 C (-1 : Int64) kl_X11_318 dX11_gives_32 ?_
        exact s_lret C E dX11_gives_35 h
      · refine i_aload_n C dX11_gives_36 0 rfl ?_
        refine s_vcV C [] vmX11_lays lkX11_292 rfl rfl (by decide) hq0 (by decide) rfl rfl (Nat.le_of_ble_eq_true rfl) dX11_gives_37 (ctX11_lays C.inj hq0) h (fun M7 h => ?_)
        refine i_aload_n C dX11_gives_40 0 rfl ?_
        refine i_iload_n C dX11_gives_41 1 rfl ?_
        refine s_vcL C [_] vmX11_givesOf lkX11_331 rfl rfl (by decide) hq0 (by decide) rfl rfl (Nat.le_of_ble_eq_true rfl) dX11_gives_42 (ctX11_givesOf C.inj hq0) h (fun x9 M8 h => ?_)
        refine i_aload_n C dX11_gives_45 0 rfl ?_
        refine gf11_50 C hq0 dX11_gives_46 ?_
        refine i_iload_n C dX11_gives_49 2 rfl ?_
        refine s_scL C [_, _, _] smX11_part lkX11_320 (by decide) rfl rfl (Nat.le_of_ble_eq_true rfl) dX11_gives_50 (ctX11_part C.inj ) h (fun x11 M10 h => ?_)
        exact s_lret C E dX11_gives_53 h
theorem ctX11_gives {ad : Nat → Nat} {V : sg_V} {N : Nat} (hi : sg_inj Yr ad) {a0_ : Nat} {x1_ : Int32} {x2_ : Int32} {M : sg_M} (hq0 : sg_K Yr a0_ 11) : ∀ res, fX11_gives N a0_ x1_ x2_ M = some res → sg_cL Yr ad V yX11_gives cX11_gives 3 5 [.ref (ad a0_), .int x1_, .int x2_] M res := fun res h => sg_bodyL (by decide) hi (Nat.le_of_ble_eq_true rfl) (fun X hX C E => by subst hX; exact tX11_gives C E _ _ _  _ hq0 h)
def bX11_worst_12 (N : Nat)  (k12 : (Nat × Int32) → sg_M → Option (Int32 × sg_M)) (s : Nat × Int32) (M : sg_M) : Option (Int32 × sg_M) :=
  sg_b (fX11_nodes N s.1 M) (fun (x2 : Int32) (M1 : sg_M) =>
  if x2 ≤ s.2 then (
  some ((-1 : Int32), M1)) else (
  sg_b (fX11_isDead N s.1 s.2 M1) (fun (x4 : Int32) (M3 : sg_M) =>
  if x4 = 0 then (
  sg_b (fX11_dropOf N s.1 s.2 M3) (fun (x6 : Int64) (M5 : sg_M) =>
  sg_b (fX11_mostDrop N s.1 M5) (fun (x8 : Int64) (M7 : sg_M) =>
  if (lg_cmp x6 x8) = 0 then (
  some (s.2, M7)) else (
  sg_m (s.2 + (1 : Int32)) (fun x9 : Int32 =>
  k12 (s.1, x9) M7))))) else (
  sg_m (s.2 + (1 : Int32)) (fun x10 : Int32 =>
  k12 (s.1, x10) M3)))))
def gX11_worst_12 (N : Nat)  : (Nat × Int32) → sg_M → Option (Int32 × sg_M) := sg_lp (bX11_worst_12 N ) N
set_option maxHeartbeats 4000000 in
set_option maxRecDepth 100000 in
theorem tX11_worst_12 {ad : Nat → Nat} {X : sg_X} {N : Nat} {r : Int32 × sg_M} (C : sg_C Yr ad X cX11_worst RX11 2 6) (E : sg_eI Yr ad X cX11_worst .int r)  : ∀ (s : Nat × Int32) (M : sg_M), gX11_worst_12 N s M = some r → sg_K Yr s.1 11 → sg_T Yr ad X 2 12 [(0, .ref (ad (s.1))), (1, .int (s.2))] [] M := by
  have key : ∀ n : Nat, ∀ (s : Nat × Int32) (M : sg_M), sg_lp (bX11_worst_12 N) n s M = some r → sg_K Yr s.1 11 → sg_T Yr ad X 2 12 [(0, .ref (ad (s.1))), (1, .int (s.2))] [] M := by
    intro n
    induction n with
    | zero => intro s M h; cases h
    | succ n ih =>
      intro s M h hq0
      have h : bX11_worst_12 N (sg_lp (bX11_worst_12 N) n) s M = some r := h
      generalize sg_lp (bX11_worst_12 N) n = k12 at h ih
      have hk12 := ih
      unfold bX11_worst_12 at h
      refine i_iload_n C dX11_worst_12 1 rfl ?_
      refine i_aload_n C dX11_worst_13 0 rfl ?_
      refine s_vcI C [] vmX11_nodes lkX11_98 rfl rfl (by decide) hq0 (by decide) rfl rfl (Nat.le_of_ble_eq_true rfl) dX11_worst_14 (ctX11_nodes C.inj hq0) h (fun x2 M1 h => ?_)
      refine s_icmp_ge C 49 (by decide) dX11_worst_17 h (fun _ h => ?_) (fun _ h => ?_)
      · refine s_iconst C (-1 : Int32) dX11_worst_49 (by decide) ?_
        exact s_iret C E dX11_worst_50 h
      · refine i_aload_n C dX11_worst_20 0 rfl ?_
        refine i_iload_n C dX11_worst_21 1 rfl ?_
        refine s_vcI C [_] vmX11_isDead lkX11_288 rfl rfl (by decide) hq0 (by decide) rfl rfl (Nat.le_of_ble_eq_true rfl) dX11_worst_22 (ctX11_isDead C.inj hq0) h (fun x4 M3 h => ?_)
        refine s_if_ne C 43 (by decide) dX11_worst_25 h (fun _ h => ?_) (fun _ h => ?_)
        · refine i_aload_n C dX11_worst_28 0 rfl ?_
          refine i_iload_n C dX11_worst_29 1 rfl ?_
          refine s_vcL C [_] vmX11_dropOf lkX11_282 rfl rfl (by decide) hq0 (by decide) rfl rfl (Nat.le_of_ble_eq_true rfl) dX11_worst_30 (ctX11_dropOf C.inj hq0) h (fun x6 M5 h => ?_)
          refine i_aload_n C dX11_worst_33 0 rfl ?_
          refine s_vcL C [] vmX11_mostDrop lkX11_298 rfl rfl (by decide) hq0 (by decide) rfl rfl (Nat.le_of_ble_eq_true rfl) dX11_worst_34 (ctX11_mostDrop C.inj hq0) h (fun x8 M7 h => ?_)
          refine s_lcmp C dX11_worst_37 ?_
          refine s_if_ne C 43 (by decide) dX11_worst_38 h (fun _ h => ?_) (fun _ h => ?_)
          · refine i_iload_n C dX11_worst_41 1 rfl ?_
            exact s_iret C E dX11_worst_42 h
          · refine z_iinc (n := 1) (c9 := (1 : Int32)) (by decide) h (fun x9 hx h => ?_)
            refine i_iinc (lv9 := [(1, _), (0, _)]) C dX11_worst_43 1 rfl hx (by decide) rfl ?_
            refine s_goto C 12 (by decide) dX11_worst_46 ?_
            exact sg_T.to (hk12 _ _ h hq0) [1, 0] rfl
        · refine z_iinc (n := 1) (c9 := (1 : Int32)) (by decide) h (fun x10 hx h => ?_)
          refine i_iinc (lv9 := [(1, _), (0, _)]) C dX11_worst_43 1 rfl hx (by decide) rfl ?_
          refine s_goto C 12 (by decide) dX11_worst_46 ?_
          exact sg_T.to (hk12 _ _ h hq0) [1, 0] rfl
  exact key N
def fX11_worst (N : Nat) (a0_ : Nat) (M : sg_M) : Option (Int32 × sg_M) :=
  sg_b (fX11_asks N a0_ M) (fun (x12 : Int32) (M11 : sg_M) =>
  if x12 = 0 then (
  some ((-2 : Int32), M11)) else (
  sg_m (0 : Int32) (fun x13 : Int32 =>
  gX11_worst_12 N (a0_, x13) M11)))
set_option maxHeartbeats 4000000 in
set_option maxRecDepth 100000 in
theorem tX11_worst {ad : Nat → Nat} {X : sg_X} {N : Nat} {r : Int32 × sg_M} (C : sg_C Yr ad X cX11_worst RX11 2 6) (E : sg_eI Yr ad X cX11_worst .int r) : ∀ (a0_ : Nat) (M : sg_M), sg_K Yr a0_ 11 → fX11_worst N a0_ M = some r → sg_T Yr ad X 2 0 [(0, .ref (ad a0_))] [] M := by
  intro a0_ M hq0 h
  unfold fX11_worst at h
  refine i_aload_n C dX11_worst_0 0 rfl ?_
  refine s_vcI C [] vmX11_asks lkX11_302 rfl rfl (by decide) hq0 (by decide) rfl rfl (Nat.le_of_ble_eq_true rfl) dX11_worst_1 (ctX11_asks C.inj hq0) h (fun x12 M11 h => ?_)
  refine s_if_ne C 10 (by decide) dX11_worst_4 h (fun _ h => ?_) (fun _ h => ?_)
  · refine s_bipush C (-2 : Int32) dX11_worst_7 (by decide) ?_
    exact s_iret C E dX11_worst_9 h
  · refine s_iconst C (0 : Int32) dX11_worst_10 (by decide) ?_
    refine z_gi h (fun x13 h => ?_)
    refine i_istore_n (lv9 := [(1, _), (0, _)]) C 1 dX11_worst_11 rfl (by decide) rfl ?_
    exact sg_T.to (tX11_worst_12 C E _ _ h hq0) [1, 0] rfl
theorem ctX11_worst {ad : Nat → Nat} {V : sg_V} {N : Nat} (hi : sg_inj Yr ad) {a0_ : Nat} {M : sg_M} (hq0 : sg_K Yr a0_ 11) : ∀ res, fX11_worst N a0_ M = some res → sg_cI Yr ad V yX11_worst cX11_worst 2 .int 6 [.ref (ad a0_)] M res := fun res h => sg_bodyI (by decide) hi (Nat.le_of_ble_eq_true rfl) (fun X hX C E => by subst hX; exact tX11_worst C E _  _ hq0 h)
def bX11_over_14 (N : Nat)  (k14 : (Nat × Int32 × Int32) → sg_M → Option (Int32 × sg_M)) (s : Nat × Int32 × Int32) (M : sg_M) : Option (Int32 × sg_M) :=
  sg_b (fX11_nodes N s.1 M) (fun (x2 : Int32) (M1 : sg_M) =>
  if x2 ≤ s.2.2 then (
  some (s.2.1, M1)) else (
  sg_b (fX11_dropOf N s.1 s.2.2 M1) (fun (x4 : Int64) (M3 : sg_M) =>
  if sg_ib (2 : Int32) (Yr.2.2.1 (Yr.2.2.2 s.1 1)) = true then
  if (lg_cmp x4 (((M3.1 (Yr.2.2.2 s.1 1) ((2 : Int32)).toNatClampNeg)).toInt64 * (M3.2 s.1 26))) ≤ 0 then (
  sg_m (s.2.1 ||| (0 : Int32)) (fun x5 : Int32 =>
  sg_m (s.2.2 + (1 : Int32)) (fun x6 : Int32 =>
  k14 (s.1, x5, x6) M3))) else (
  sg_m (s.2.1 ||| ((1 : Int32) <<< (s.2.2 &&& 31))) (fun x7 : Int32 =>
  sg_m (s.2.2 + (1 : Int32)) (fun x8 : Int32 =>
  k14 (s.1, x7, x8) M3)))
  else none)))
def gX11_over_14 (N : Nat)  : (Nat × Int32 × Int32) → sg_M → Option (Int32 × sg_M) := sg_lp (bX11_over_14 N ) N
set_option maxHeartbeats 4000000 in
set_option maxRecDepth 100000 in
theorem tX11_over_14 {ad : Nat → Nat} {X : sg_X} {N : Nat} {r : Int32 × sg_M} (C : sg_C Yr ad X cX11_over RX11 3 6) (E : sg_eI Yr ad X cX11_over .int r)  : ∀ (s : Nat × Int32 × Int32) (M : sg_M), gX11_over_14 N s M = some r → sg_K Yr s.1 11 → sg_T Yr ad X 3 14 [(0, .ref (ad (s.1))), (1, .int (s.2.1)), (2, .int (s.2.2))] [] M := by
  have key : ∀ n : Nat, ∀ (s : Nat × Int32 × Int32) (M : sg_M), sg_lp (bX11_over_14 N) n s M = some r → sg_K Yr s.1 11 → sg_T Yr ad X 3 14 [(0, .ref (ad (s.1))), (1, .int (s.2.1)), (2, .int (s.2.2))] [] M := by
    intro n
    induction n with
    | zero => intro s M h; cases h
    | succ n ih =>
      intro s M h hq0
      have h : bX11_over_14 N (sg_lp (bX11_over_14 N) n) s M = some r := h
      generalize sg_lp (bX11_over_14 N) n = k14 at h ih
      have hk14 := ih
      unfold bX11_over_14 at h
      refine i_iload_n C dX11_over_14 2 rfl ?_
      refine i_aload_n C dX11_over_15 0 rfl ?_
      refine s_vcI C [] vmX11_nodes lkX11_98 rfl rfl (by decide) hq0 (by decide) rfl rfl (Nat.le_of_ble_eq_true rfl) dX11_over_16 (ctX11_nodes C.inj hq0) h (fun x2 M1 h => ?_)
      refine s_icmp_ge C 59 (by decide) dX11_over_19 h (fun _ h => ?_) (fun _ h => ?_)
      · refine i_iload_n C dX11_over_59 1 rfl ?_
        exact s_iret C E dX11_over_60 h
      · refine i_iload_n C dX11_over_22 1 rfl ?_
        refine i_aload_n C dX11_over_23 0 rfl ?_
        refine i_iload_n C dX11_over_24 2 rfl ?_
        refine s_vcL C [_] vmX11_dropOf lkX11_282 rfl rfl (by decide) hq0 (by decide) rfl rfl (Nat.le_of_ble_eq_true rfl) dX11_over_25 (ctX11_dropOf C.inj hq0) h (fun x4 M3 h => ?_)
        refine i_aload_n C dX11_over_28 0 rfl ?_
        refine gf11_9 C hq0 dX11_over_29 ?_
        refine s_iconst C (2 : Int32) dX11_over_32 (by decide) ?_
        refine s_iald C (ky11_1 hq0) dX11_over_33 h (fun h => ?_)
        refine s_i2l C dX11_over_34 ?_
        refine i_aload_n C dX11_over_35 0 rfl ?_
        refine gf11_50 C hq0 dX11_over_36 ?_
        refine s_lmul C dX11_over_39 ?_
        refine s_lcmp C dX11_over_40 ?_
        refine s_if_le C 50 (by decide) dX11_over_41 h (fun _ h => ?_) (fun _ h => ?_)
        · refine s_iconst C (0 : Int32) dX11_over_50 (by decide) ?_
          refine s_ior C dX11_over_51 ?_
          refine z_gi h (fun x5 h => ?_)
          refine i_istore_n (lv9 := [(1, _), (0, _), (2, _)]) C 1 dX11_over_52 rfl (by decide) rfl ?_
          refine z_iinc (n := 1) (c9 := (1 : Int32)) (by decide) h (fun x6 hx h => ?_)
          refine i_iinc (lv9 := [(2, _), (1, _), (0, _)]) C dX11_over_53 2 rfl hx (by decide) rfl ?_
          refine s_goto C 14 (by decide) dX11_over_56 ?_
          exact sg_T.to (hk14 _ _ h hq0) [2, 1, 0] rfl
        · refine s_iconst C (1 : Int32) dX11_over_44 (by decide) ?_
          refine i_iload_n C dX11_over_45 2 rfl ?_
          refine s_ishl C dX11_over_46 ?_
          refine s_goto C 51 (by decide) dX11_over_47 ?_
          refine s_ior C dX11_over_51 ?_
          refine z_gi h (fun x7 h => ?_)
          refine i_istore_n (lv9 := [(1, _), (0, _), (2, _)]) C 1 dX11_over_52 rfl (by decide) rfl ?_
          refine z_iinc (n := 1) (c9 := (1 : Int32)) (by decide) h (fun x8 hx h => ?_)
          refine i_iinc (lv9 := [(2, _), (1, _), (0, _)]) C dX11_over_53 2 rfl hx (by decide) rfl ?_
          refine s_goto C 14 (by decide) dX11_over_56 ?_
          exact sg_T.to (hk14 _ _ h hq0) [2, 1, 0] rfl
  exact key N
def fX11_over (N : Nat) (a0_ : Nat) (M : sg_M) : Option (Int32 × sg_M) :=
  sg_b (fX11_asks N a0_ M) (fun (x10 : Int32) (M9 : sg_M) =>
  if x10 = 0 then (
  some ((-2 : Int32), M9)) else (
  sg_m (0 : Int32) (fun x11 : Int32 =>
  sg_m (0 : Int32) (fun x12 : Int32 =>
  gX11_over_14 N (a0_, x11, x12) M9))))
set_option maxHeartbeats 4000000 in
set_option maxRecDepth 100000 in
theorem tX11_over {ad : Nat → Nat} {X : sg_X} {N : Nat} {r : Int32 × sg_M} (C : sg_C Yr ad X cX11_over RX11 3 6) (E : sg_eI Yr ad X cX11_over .int r) : ∀ (a0_ : Nat) (M : sg_M), sg_K Yr a0_ 11 → fX11_over N a0_ M = some r → sg_T Yr ad X 3 0 [(0, .ref (ad a0_))] [] M := by
  intro a0_ M hq0 h
  unfold fX11_over at h
  refine i_aload_n C dX11_over_0 0 rfl ?_
  refine s_vcI C [] vmX11_asks lkX11_302 rfl rfl (by decide) hq0 (by decide) rfl rfl (Nat.le_of_ble_eq_true rfl) dX11_over_1 (ctX11_asks C.inj hq0) h (fun x10 M9 h => ?_)
  refine s_if_ne C 10 (by decide) dX11_over_4 h (fun _ h => ?_) (fun _ h => ?_)
  · refine s_bipush C (-2 : Int32) dX11_over_7 (by decide) ?_
    exact s_iret C E dX11_over_9 h
  · refine s_iconst C (0 : Int32) dX11_over_10 (by decide) ?_
    refine z_gi h (fun x11 h => ?_)
    refine i_istore_n (lv9 := [(1, _), (0, _)]) C 1 dX11_over_11 rfl (by decide) rfl ?_
    refine s_iconst C (0 : Int32) dX11_over_12 (by decide) ?_
    refine z_gi h (fun x12 h => ?_)
    refine i_istore_n (lv9 := [(2, _), (1, _), (0, _)]) C 2 dX11_over_13 rfl (by decide) rfl ?_
    exact sg_T.to (tX11_over_14 C E _ _ h hq0) [2, 1, 0] rfl
theorem ctX11_over {ad : Nat → Nat} {V : sg_V} {N : Nat} (hi : sg_inj Yr ad) {a0_ : Nat} {M : sg_M} (hq0 : sg_K Yr a0_ 11) : ∀ res, fX11_over N a0_ M = some res → sg_cI Yr ad V yX11_over cX11_over 3 .int 6 [.ref (ad a0_)] M res := fun res h => sg_bodyI (by decide) hi (Nat.le_of_ble_eq_true rfl) (fun X hX C E => by subst hX; exact tX11_over C E _  _ hq0 h)
def fX11_holds (N : Nat) (a0_ : Nat) (M : sg_M) : Option (Int32 × sg_M) :=
  sg_b (fX11_isGrid N a0_ M) (fun (x2 : Int32) (M1 : sg_M) =>
  if x2 = 0 then (
  some ((-2 : Int32), M1)) else (
  sg_b (fX11_doesHold N a0_ M1) (fun (x4 : Int32) (M3 : sg_M) =>
  if x4 = 0 then (
  some ((0 : Int32), M3)) else (
  some ((1 : Int32), M3)))))
set_option maxHeartbeats 4000000 in
set_option maxRecDepth 100000 in
theorem tX11_holds {ad : Nat → Nat} {X : sg_X} {N : Nat} {r : Int32 × sg_M} (C : sg_C Yr ad X cX11_holds RX11 1 6) (E : sg_eI Yr ad X cX11_holds .int r) : ∀ (a0_ : Nat) (M : sg_M), sg_K Yr a0_ 11 → fX11_holds N a0_ M = some r → sg_T Yr ad X 1 0 [(0, .ref (ad a0_))] [] M := by
  intro a0_ M hq0 h
  unfold fX11_holds at h
  refine i_aload_n C dX11_holds_0 0 rfl ?_
  refine s_vcI C [] vmX11_isGrid lkX11_109 rfl rfl (by decide) hq0 (by decide) rfl rfl (Nat.le_of_ble_eq_true rfl) dX11_holds_1 (ctX11_isGrid C.inj hq0) h (fun x2 M1 h => ?_)
  refine s_if_ne C 10 (by decide) dX11_holds_4 h (fun _ h => ?_) (fun _ h => ?_)
  · refine s_bipush C (-2 : Int32) dX11_holds_7 (by decide) ?_
    exact s_iret C E dX11_holds_9 h
  · refine i_aload_n C dX11_holds_10 0 rfl ?_
    refine s_vcI C [] vmX11_doesHold lkX11_334 rfl rfl (by decide) hq0 (by decide) rfl rfl (Nat.le_of_ble_eq_true rfl) dX11_holds_11 (ctX11_doesHold C.inj hq0) h (fun x4 M3 h => ?_)
    refine s_if_eq C 21 (by decide) dX11_holds_14 h (fun _ h => ?_) (fun _ h => ?_)
    · refine s_iconst C (0 : Int32) dX11_holds_21 (by decide) ?_
      exact s_iret C E dX11_holds_22 h
    · refine s_iconst C (1 : Int32) dX11_holds_17 (by decide) ?_
      refine s_goto C 22 (by decide) dX11_holds_18 ?_
      exact s_iret C E dX11_holds_22 h
theorem ctX11_holds {ad : Nat → Nat} {V : sg_V} {N : Nat} (hi : sg_inj Yr ad) {a0_ : Nat} {M : sg_M} (hq0 : sg_K Yr a0_ 11) : ∀ res, fX11_holds N a0_ M = some res → sg_cI Yr ad V yX11_holds cX11_holds 1 .int 6 [.ref (ad a0_)] M res := fun res h => sg_bodyI (by decide) hi (Nat.le_of_ble_eq_true rfl) (fun X hX C E => by subst hX; exact tX11_holds C E _  _ hq0 h)
def bX11_loss_23 (N : Nat)  (k23 : (Nat × Int32 × Int64 × Int32) → sg_M → Option (Int64 × sg_M)) (s : Nat × Int32 × Int64 × Int32) (M : sg_M) : Option (Int64 × sg_M) :=
  sg_b (fX11_nodes N s.1 M) (fun (x2 : Int32) (M1 : sg_M) =>
  if x2 ≤ s.2.2.2 then (
  sg_b (fX11_part N s.2.2.1 (M1.2 s.1 26) s.2.1 M1) (fun (x4 : Int64) (M3 : sg_M) =>
  some (x4, M3))) else (
  if sg_ib ((6 : Int32) + s.2.2.2) (Yr.2.2.1 (Yr.2.2.2 s.1 1)) = true then
  sg_b (fX11_dropOf N s.1 s.2.2.2 M1) (fun (x6 : Int64) (M5 : sg_M) =>
  sg_m (s.2.2.1 + (((M1.1 (Yr.2.2.2 s.1 1) (((6 : Int32) + s.2.2.2)).toNatClampNeg)).toInt64 * x6)) (fun x7 : Int64 =>
  sg_m (s.2.2.2 + (1 : Int32)) (fun x8 : Int32 =>
  k23 (s.1, s.2.1, x7, x8) M5)))
  else none))
def gX11_loss_23 (N : Nat)  : (Nat × Int32 × Int64 × Int32) → sg_M → Option (Int64 × sg_M) := sg_lp (bX11_loss_23 N ) N
set_option maxHeartbeats 4000000 in
set_option maxRecDepth 100000 in
theorem tX11_loss_23 {ad : Nat → Nat} {X : sg_X} {N : Nat} {r : Int64 × sg_M} (C : sg_C Yr ad X cX11_loss RX11 5 6) (E : sg_eL Yr ad X cX11_loss r)  : ∀ (s : Nat × Int32 × Int64 × Int32) (M : sg_M), gX11_loss_23 N s M = some r → sg_K Yr s.1 11 → sg_T Yr ad X 5 23 [(0, .ref (ad (s.1))), (1, .int (s.2.1)), (2, .long (s.2.2.1)), (4, .int (s.2.2.2))] [] M := by
  have key : ∀ n : Nat, ∀ (s : Nat × Int32 × Int64 × Int32) (M : sg_M), sg_lp (bX11_loss_23 N) n s M = some r → sg_K Yr s.1 11 → sg_T Yr ad X 5 23 [(0, .ref (ad (s.1))), (1, .int (s.2.1)), (2, .long (s.2.2.1)), (4, .int (s.2.2.2))] [] M := by
    intro n
    induction n with
    | zero => intro s M h; cases h
    | succ n ih =>
      intro s M h hq0
      have h : bX11_loss_23 N (sg_lp (bX11_loss_23 N) n) s M = some r := h
      generalize sg_lp (bX11_loss_23 N) n = k23 at h ih
      have hk23 := ih
      unfold bX11_loss_23 at h
      refine i_iload C dX11_loss_23 3 rfl ?_
      refine i_aload_n C dX11_loss_25 0 rfl ?_
      refine s_vcI C [] vmX11_nodes lkX11_98 rfl rfl (by decide) hq0 (by decide) rfl rfl (Nat.le_of_ble_eq_true rfl) dX11_loss_26 (ctX11_nodes C.inj hq0) h (fun x2 M1 h => ?_)
      refine s_icmp_ge C 59 (by decide) dX11_loss_29 h (fun _ h => ?_) (fun _ h => ?_)
      · refine i_lload_n C dX11_loss_59 2 rfl ?_
        refine i_aload_n C dX11_loss_60 0 rfl ?_
        refine gf11_50 C hq0 dX11_loss_61 ?_
        refine i_iload_n C dX11_loss_64 1 rfl ?_
        refine s_scL C [_, _, _] smX11_part lkX11_320 (by decide) rfl rfl (Nat.le_of_ble_eq_true rfl) dX11_loss_65 (ctX11_part C.inj ) h (fun x4 M3 h => ?_)
        exact s_lret C E dX11_loss_68 h
      · refine i_lload_n C dX11_loss_32 2 rfl ?_
        refine i_aload_n C dX11_loss_33 0 rfl ?_
        refine gf11_9 C hq0 dX11_loss_34 ?_
        refine s_bipush C (6 : Int32) dX11_loss_37 (by decide) ?_
        refine i_iload C dX11_loss_39 3 rfl ?_
        refine s_iadd C dX11_loss_41 ?_
        refine s_iald C (ky11_1 hq0) dX11_loss_42 h (fun h => ?_)
        refine s_i2l C dX11_loss_43 ?_
        refine i_aload_n C dX11_loss_44 0 rfl ?_
        refine i_iload C dX11_loss_45 3 rfl ?_
        refine s_vcL C [_] vmX11_dropOf lkX11_282 rfl rfl (by decide) hq0 (by decide) rfl rfl (Nat.le_of_ble_eq_true rfl) dX11_loss_47 (ctX11_dropOf C.inj hq0) h (fun x6 M5 h => ?_)
        refine s_lmul C dX11_loss_50 ?_
        refine s_ladd C dX11_loss_51 ?_
        refine z_gl h (fun x7 h => ?_)
        refine i_lstore_n (lv9 := [(2, _), (0, _), (1, _), (4, _)]) C 2 dX11_loss_52 rfl (by decide) rfl ?_
        refine z_iinc (n := 1) (c9 := (1 : Int32)) (by decide) h (fun x8 hx h => ?_)
        refine i_iinc (lv9 := [(4, _), (2, _), (0, _), (1, _)]) C dX11_loss_53 3 rfl hx (by decide) rfl ?_
        refine s_goto C 23 (by decide) dX11_loss_56 ?_
        exact sg_T.to (hk23 _ _ h hq0) [2, 3, 1, 0] rfl
  exact key N
def fX11_loss (N : Nat) (a0_ : Nat) (x1_ : Int32) (M : sg_M) : Option (Int64 × sg_M) :=
  sg_b (fX11_isPart N x1_ M) (fun (x10 : Int32) (M9 : sg_M) =>
  if x10 = 0 then (
  some ((-2 : Int64), M9)) else (
  sg_b (fX11_asks N a0_ M9) (fun (x12 : Int32) (M11 : sg_M) =>
  if x12 = 0 then (
  some ((-2 : Int64), M11)) else (
  sg_m (0 : Int64) (fun x13 : Int64 =>
  sg_m (0 : Int32) (fun x14 : Int32 =>
  gX11_loss_23 N (a0_, x1_, x13, x14) M11))))))
set_option maxHeartbeats 4000000 in
set_option maxRecDepth 100000 in
theorem tX11_loss {ad : Nat → Nat} {X : sg_X} {N : Nat} {r : Int64 × sg_M} (C : sg_C Yr ad X cX11_loss RX11 5 6) (E : sg_eL Yr ad X cX11_loss r) : ∀ (a0_ : Nat) (x1_ : Int32) (M : sg_M), sg_K Yr a0_ 11 → fX11_loss N a0_ x1_ M = some r → sg_T Yr ad X 5 0 [(0, .ref (ad a0_)), (1, .int x1_)] [] M := by
  intro a0_ x1_ M hq0 h
  unfold fX11_loss at h
  refine i_iload_n C dX11_loss_0 1 rfl ?_
  refine s_scI C [_] smX11_isPart lkX11_313 (by decide) rfl rfl (Nat.le_of_ble_eq_true rfl) dX11_loss_1 (ctX11_isPart C.inj ) h (fun x10 M9 h => ?_)
  refine s_if_eq C 14 (by decide) dX11_loss_4 h (fun _ h => ?_) (fun _ h => ?_)
  · refine s_ldc2 C (-2 : Int64) kl_X11_316 dX11_loss_14 ?_
    exact s_lret C E dX11_loss_17 h
  · refine i_aload_n C dX11_loss_7 0 rfl ?_
    refine s_vcI C [] vmX11_asks lkX11_302 rfl rfl (by decide) hq0 (by decide) rfl rfl (Nat.le_of_ble_eq_true rfl) dX11_loss_8 (ctX11_asks C.inj hq0) h (fun x12 M11 h => ?_)
    refine s_if_ne C 18 (by decide) dX11_loss_11 h (fun _ h => ?_) (fun _ h => ?_)
    · refine s_ldc2 C (-2 : Int64) kl_X11_316 dX11_loss_14 ?_
      exact s_lret C E dX11_loss_17 h
    · refine s_lconst C (0 : Int64) dX11_loss_18 (by decide) ?_
      refine z_gl h (fun x13 h => ?_)
      refine i_lstore_n (lv9 := [(2, _), (0, _), (1, _)]) C 2 dX11_loss_19 rfl (by decide) rfl ?_
      refine s_iconst C (0 : Int32) dX11_loss_20 (by decide) ?_
      refine z_gi h (fun x14 h => ?_)
      refine i_istore (lv9 := [(4, _), (2, _), (0, _), (1, _)]) C dX11_loss_21 (by decide) rfl ?_
      exact sg_T.to (tX11_loss_23 C E _ _ h hq0) [2, 3, 1, 0] rfl
theorem ctX11_loss {ad : Nat → Nat} {V : sg_V} {N : Nat} (hi : sg_inj Yr ad) {a0_ : Nat} {x1_ : Int32} {M : sg_M} (hq0 : sg_K Yr a0_ 11) : ∀ res, fX11_loss N a0_ x1_ M = some res → sg_cL Yr ad V yX11_loss cX11_loss 5 6 [.ref (ad a0_), .int x1_] M res := fun res h => sg_bodyL (by decide) hi (Nat.le_of_ble_eq_true rfl) (fun X hX C E => by subst hX; exact tX11_loss C E _ _  _ hq0 h)
def gX11_moves_47 (N : Nat)   (M : sg_M) : Option (Int64 × sg_M) :=
  some ((-1 : Int64), M)
set_option maxHeartbeats 4000000 in
set_option maxRecDepth 100000 in
theorem tX11_moves_47 {ad : Nat → Nat} {X : sg_X} {N : Nat} {r : Int64 × sg_M} (C : sg_C Yr ad X cX11_moves RX11 4 5) (E : sg_eL Yr ad X cX11_moves r)  : ∀  (M : sg_M), gX11_moves_47 N  M = some r → sg_T Yr ad X 4 47 [] [] M := by
  intro  M h 
  unfold gX11_moves_47 at h
  refine s_ldc2 C (-1 : Int64) kl_X11_318 dX11_moves_47 ?_
  refine s_goto C 67 (by decide) dX11_moves_50 ?_
  exact s_lret C E dX11_moves_67 h
def fX11_moves (N : Nat) (a0_ : Nat) (x1_ : Int32) (x2_ : Int32) (x3_ : Int32) (M : sg_M) : Option (Int64 × sg_M) :=
  sg_b (fX11_isNode N a0_ x1_ M) (fun (x2 : Int32) (M1 : sg_M) =>
  if x2 = 0 then (
  some ((-2 : Int64), M1)) else (
  sg_b (fX11_isNode N a0_ x2_ M1) (fun (x4 : Int32) (M3 : sg_M) =>
  if x4 = 0 then (
  some ((-2 : Int64), M3)) else (
  sg_b (fX11_isPart N x3_ M3) (fun (x6 : Int32) (M5 : sg_M) =>
  if x6 = 0 then (
  some ((-2 : Int64), M5)) else (
  sg_bv (fX11_lays N a0_ M5) (fun M7 : sg_M =>
  sg_b (fX11_isDead N a0_ x1_ M7) (fun (x9 : Int32) (M8 : sg_M) =>
  if x9 = 0 then (
  sg_b (fX11_isDead N a0_ x2_ M8) (fun (x11 : Int32) (M10 : sg_M) =>
  if x11 = 0 then (
  sg_b (fX11_movesOf N a0_ x1_ x2_ M10) (fun (x13 : Int64) (M12 : sg_M) =>
  sg_b (fX11_part N x13 (M12.2 a0_ 26) x3_ M12) (fun (x15 : Int64) (M14 : sg_M) =>
  some (x15, M14)))) else (
  gX11_moves_47 N M10))) else (
  gX11_moves_47 N M8)))))))))
set_option maxHeartbeats 4000000 in
set_option maxRecDepth 100000 in
theorem tX11_moves {ad : Nat → Nat} {X : sg_X} {N : Nat} {r : Int64 × sg_M} (C : sg_C Yr ad X cX11_moves RX11 4 5) (E : sg_eL Yr ad X cX11_moves r) : ∀ (a0_ : Nat) (x1_ : Int32) (x2_ : Int32) (x3_ : Int32) (M : sg_M), sg_K Yr a0_ 11 → fX11_moves N a0_ x1_ x2_ x3_ M = some r → sg_T Yr ad X 4 0 [(0, .ref (ad a0_)), (1, .int x1_), (2, .int x2_), (3, .int x3_)] [] M := by
  intro a0_ x1_ x2_ x3_ M hq0 h
  unfold fX11_moves at h
  refine i_aload_n C dX11_moves_0 0 rfl ?_
  refine i_iload_n C dX11_moves_1 1 rfl ?_
  refine s_vcI C [_] vmX11_isNode lkX11_308 rfl rfl (by decide) hq0 (by decide) rfl rfl (Nat.le_of_ble_eq_true rfl) dX11_moves_2 (ctX11_isNode C.inj hq0) h (fun x2 M1 h => ?_)
  refine s_if_eq C 23 (by decide) dX11_moves_5 h (fun _ h => ?_) (fun _ h => ?_)
  · refine s_ldc2 C (-2 : Int64) kl_X11_316 dX11_moves_23 ?_
    exact s_lret C E dX11_moves_26 h
  · refine i_aload_n C dX11_moves_8 0 rfl ?_
    refine i_iload_n C dX11_moves_9 2 rfl ?_
    refine s_vcI C [_] vmX11_isNode lkX11_308 rfl rfl (by decide) hq0 (by decide) rfl rfl (Nat.le_of_ble_eq_true rfl) dX11_moves_10 (ctX11_isNode C.inj hq0) h (fun x4 M3 h => ?_)
    refine s_if_eq C 23 (by decide) dX11_moves_13 h (fun _ h => ?_) (fun _ h => ?_)
    · refine s_ldc2 C (-2 : Int64) kl_X11_316 dX11_moves_23 ?_
      exact s_lret C E dX11_moves_26 h
    · refine i_iload_n C dX11_moves_16 3 rfl ?_
      refine s_scI C [_] smX11_isPart lkX11_313 (by decide) rfl rfl (Nat.le_of_ble_eq_true rfl) dX11_moves_17 (ctX11_isPart C.inj ) h (fun x6 M5 h => ?_)
      refine s_if_ne C 27 (by decide) dX11_moves_20 h (fun _ h => ?_) (fun _ h => ?_)
      · refine s_ldc2 C (-2 : Int64) kl_X11_316 dX11_moves_23 ?_
        exact s_lret C E dX11_moves_26 h
      · refine i_aload_n C dX11_moves_27 0 rfl ?_
        refine s_vcV C [] vmX11_lays lkX11_292 rfl rfl (by decide) hq0 (by decide) rfl rfl (Nat.le_of_ble_eq_true rfl) dX11_moves_28 (ctX11_lays C.inj hq0) h (fun M7 h => ?_)
        refine i_aload_n C dX11_moves_31 0 rfl ?_
        refine i_iload_n C dX11_moves_32 1 rfl ?_
        refine s_vcI C [_] vmX11_isDead lkX11_288 rfl rfl (by decide) hq0 (by decide) rfl rfl (Nat.le_of_ble_eq_true rfl) dX11_moves_33 (ctX11_isDead C.inj hq0) h (fun x9 M8 h => ?_)
        refine s_if_ne C 47 (by decide) dX11_moves_36 h (fun _ h => ?_) (fun _ h => ?_)
        · refine i_aload_n C dX11_moves_39 0 rfl ?_
          refine i_iload_n C dX11_moves_40 2 rfl ?_
          refine s_vcI C [_] vmX11_isDead lkX11_288 rfl rfl (by decide) hq0 (by decide) rfl rfl (Nat.le_of_ble_eq_true rfl) dX11_moves_41 (ctX11_isDead C.inj hq0) h (fun x11 M10 h => ?_)
          refine s_if_eq C 53 (by decide) dX11_moves_44 h (fun _ h => ?_) (fun _ h => ?_)
          · refine i_aload_n C dX11_moves_53 0 rfl ?_
            refine i_iload_n C dX11_moves_54 1 rfl ?_
            refine i_iload_n C dX11_moves_55 2 rfl ?_
            refine s_vcL C [_, _] vmX11_movesOf lkX11_278 rfl rfl (by decide) hq0 (by decide) rfl rfl (Nat.le_of_ble_eq_true rfl) dX11_moves_56 (ctX11_movesOf C.inj hq0) h (fun x13 M12 h => ?_)
            refine i_aload_n C dX11_moves_59 0 rfl ?_
            refine gf11_50 C hq0 dX11_moves_60 ?_
            refine i_iload_n C dX11_moves_63 3 rfl ?_
            refine s_scL C [_, _, _] smX11_part lkX11_320 (by decide) rfl rfl (Nat.le_of_ble_eq_true rfl) dX11_moves_64 (ctX11_part C.inj ) h (fun x15 M14 h => ?_)
            exact s_lret C E dX11_moves_67 h
          · exact sg_T.to (tX11_moves_47 C E _ h ) [] rfl
        · exact sg_T.to (tX11_moves_47 C E _ h ) [] rfl
theorem ctX11_moves {ad : Nat → Nat} {V : sg_V} {N : Nat} (hi : sg_inj Yr ad) {a0_ : Nat} {x1_ : Int32} {x2_ : Int32} {x3_ : Int32} {M : sg_M} (hq0 : sg_K Yr a0_ 11) : ∀ res, fX11_moves N a0_ x1_ x2_ x3_ M = some res → sg_cL Yr ad V yX11_moves cX11_moves 4 5 [.ref (ad a0_), .int x1_, .int x2_, .int x3_] M res := fun res h => sg_bodyL (by decide) hi (Nat.le_of_ble_eq_true rfl) (fun X hX C E => by subst hX; exact tX11_moves C E _ _ _ _  _ hq0 h)
def fX11_resists (N : Nat) (a0_ : Nat) (x1_ : Int32) (x2_ : Int32) (x3_ : Int32) (M : sg_M) : Option (Int64 × sg_M) :=
  sg_b (fX11_isNode N a0_ x1_ M) (fun (x2 : Int32) (M1 : sg_M) =>
  if x2 = 0 then (
  some ((-2 : Int64), M1)) else (
  sg_b (fX11_isNode N a0_ x2_ M1) (fun (x4 : Int32) (M3 : sg_M) =>
  if x4 = 0 then (
  some ((-2 : Int64), M3)) else (
  sg_b (fX11_isPart N x3_ M3) (fun (x6 : Int32) (M5 : sg_M) =>
  if x6 = 0 then (
  some ((-2 : Int64), M5)) else (
  sg_bv (fX11_solves N a0_ ((1 : Int32) <<< (x1_ &&& 31)) M5) (fun M7 : sg_M =>
  sg_b (fX11_isDead N a0_ x2_ M7) (fun (x9 : Int32) (M8 : sg_M) =>
  if x9 = 0 then (
  sg_b (fX11_movesOf N a0_ x2_ x2_ M8) (fun (x11 : Int64) (M10 : sg_M) =>
  sg_b (fX11_part N x11 (M10.2 a0_ 26) x3_ M10) (fun (x13 : Int64) (M12 : sg_M) =>
  some (x13, M12)))) else (
  some ((-1 : Int64), M8))))))))))
set_option maxHeartbeats 4000000 in
set_option maxRecDepth 100000 in
theorem tX11_resists {ad : Nat → Nat} {X : sg_X} {N : Nat} {r : Int64 × sg_M} (C : sg_C Yr ad X cX11_resists RX11 4 4) (E : sg_eL Yr ad X cX11_resists r) : ∀ (a0_ : Nat) (x1_ : Int32) (x2_ : Int32) (x3_ : Int32) (M : sg_M), sg_K Yr a0_ 11 → fX11_resists N a0_ x1_ x2_ x3_ M = some r → sg_T Yr ad X 4 0 [(0, .ref (ad a0_)), (1, .int x1_), (2, .int x2_), (3, .int x3_)] [] M := by
  intro a0_ x1_ x2_ x3_ M hq0 h
  unfold fX11_resists at h
  refine i_aload_n C dX11_resists_0 0 rfl ?_
  refine i_iload_n C dX11_resists_1 1 rfl ?_
  refine s_vcI C [_] vmX11_isNode lkX11_308 rfl rfl (by decide) hq0 (by decide) rfl rfl (Nat.le_of_ble_eq_true rfl) dX11_resists_2 (ctX11_isNode C.inj hq0) h (fun x2 M1 h => ?_)
  refine s_if_eq C 23 (by decide) dX11_resists_5 h (fun _ h => ?_) (fun _ h => ?_)
  · refine s_ldc2 C (-2 : Int64) kl_X11_316 dX11_resists_23 ?_
    exact s_lret C E dX11_resists_26 h
  · refine i_aload_n C dX11_resists_8 0 rfl ?_
    refine i_iload_n C dX11_resists_9 2 rfl ?_
    refine s_vcI C [_] vmX11_isNode lkX11_308 rfl rfl (by decide) hq0 (by decide) rfl rfl (Nat.le_of_ble_eq_true rfl) dX11_resists_10 (ctX11_isNode C.inj hq0) h (fun x4 M3 h => ?_)
    refine s_if_eq C 23 (by decide) dX11_resists_13 h (fun _ h => ?_) (fun _ h => ?_)
    · refine s_ldc2 C (-2 : Int64) kl_X11_316 dX11_resists_23 ?_
      exact s_lret C E dX11_resists_26 h
    · refine i_iload_n C dX11_resists_16 3 rfl ?_
      refine s_scI C [_] smX11_isPart lkX11_313 (by decide) rfl rfl (Nat.le_of_ble_eq_true rfl) dX11_resists_17 (ctX11_isPart C.inj ) h (fun x6 M5 h => ?_)
      refine s_if_ne C 27 (by decide) dX11_resists_20 h (fun _ h => ?_) (fun _ h => ?_)
      · refine s_ldc2 C (-2 : Int64) kl_X11_316 dX11_resists_23 ?_
        exact s_lret C E dX11_resists_26 h
      · refine i_aload_n C dX11_resists_27 0 rfl ?_
        refine s_iconst C (1 : Int32) dX11_resists_28 (by decide) ?_
        refine i_iload_n C dX11_resists_29 1 rfl ?_
        refine s_ishl C dX11_resists_30 ?_
        refine s_vcV C [_] vmX11_solves lkX11_275 rfl rfl (by decide) hq0 (by decide) rfl rfl (Nat.le_of_ble_eq_true rfl) dX11_resists_31 (ctX11_solves C.inj hq0) h (fun M7 h => ?_)
        refine i_aload_n C dX11_resists_34 0 rfl ?_
        refine i_iload_n C dX11_resists_35 2 rfl ?_
        refine s_vcI C [_] vmX11_isDead lkX11_288 rfl rfl (by decide) hq0 (by decide) rfl rfl (Nat.le_of_ble_eq_true rfl) dX11_resists_36 (ctX11_isDead C.inj hq0) h (fun x9 M8 h => ?_)
        refine s_if_eq C 48 (by decide) dX11_resists_39 h (fun _ h => ?_) (fun _ h => ?_)
        · refine i_aload_n C dX11_resists_48 0 rfl ?_
          refine i_iload_n C dX11_resists_49 2 rfl ?_
          refine i_iload_n C dX11_resists_50 2 rfl ?_
          refine s_vcL C [_, _] vmX11_movesOf lkX11_278 rfl rfl (by decide) hq0 (by decide) rfl rfl (Nat.le_of_ble_eq_true rfl) dX11_resists_51 (ctX11_movesOf C.inj hq0) h (fun x11 M10 h => ?_)
          refine i_aload_n C dX11_resists_54 0 rfl ?_
          refine gf11_50 C hq0 dX11_resists_55 ?_
          refine i_iload_n C dX11_resists_58 3 rfl ?_
          refine s_scL C [_, _, _] smX11_part lkX11_320 (by decide) rfl rfl (Nat.le_of_ble_eq_true rfl) dX11_resists_59 (ctX11_part C.inj ) h (fun x13 M12 h => ?_)
          exact s_lret C E dX11_resists_62 h
        · refine s_ldc2 C (-1 : Int64) kl_X11_318 dX11_resists_42 ?_
          refine s_goto C 62 (by decide) dX11_resists_45 ?_
          exact s_lret C E dX11_resists_62 h
theorem ctX11_resists {ad : Nat → Nat} {V : sg_V} {N : Nat} (hi : sg_inj Yr ad) {a0_ : Nat} {x1_ : Int32} {x2_ : Int32} {x3_ : Int32} {M : sg_M} (hq0 : sg_K Yr a0_ 11) : ∀ res, fX11_resists N a0_ x1_ x2_ x3_ M = some res → sg_cL Yr ad V yX11_resists cX11_resists 4 4 [.ref (ad a0_), .int x1_, .int x2_, .int x3_] M res := fun res h => sg_bodyL (by decide) hi (Nat.le_of_ble_eq_true rfl) (fun X hX C E => by subst hX; exact tX11_resists C E _ _ _ _  _ hq0 h)
def fX11_share (N : Nat) (a0_ : Nat) (x1_ : Int32) (x2_ : Int32) (x3_ : Int32) (M : sg_M) : Option (Int64 × sg_M) :=
  sg_b (fX11_isNode N a0_ x1_ M) (fun (x2 : Int32) (M1 : sg_M) =>
  if x2 = 0 then (
  some ((-2 : Int64), M1)) else (
  sg_b (fX11_isNode N a0_ x2_ M1) (fun (x4 : Int32) (M3 : sg_M) =>
  if x4 = 0 then (
  some ((-2 : Int64), M3)) else (
  sg_b (fX11_isPart N x3_ M3) (fun (x6 : Int32) (M5 : sg_M) =>
  if x6 = 0 then (
  some ((-2 : Int64), M5)) else (
  sg_bv (fX11_lays N a0_ M5) (fun M7 : sg_M =>
  sg_b (fX11_isDead N a0_ x1_ M7) (fun (x9 : Int32) (M8 : sg_M) =>
  if x9 = 0 then (
  sg_b (fX11_isDead N a0_ x2_ M8) (fun (x11 : Int32) (M10 : sg_M) =>
  if x11 = 0 then (
  sg_b (fX11_movesOf N a0_ x1_ x2_ M10) (fun (x13 : Int64) (M12 : sg_M) =>
  if sg_ib ((6 : Int32) + x2_) (Yr.2.2.1 (Yr.2.2.2 a0_ 1)) = true then
  sg_m (x13 * ((M12.1 (Yr.2.2.2 a0_ 1) (((6 : Int32) + x2_)).toNatClampNeg)).toInt64) (fun x14 : Int64 =>
  if (lg_cmp x14 (0 : Int64)) = 0 then (
  some ((x3_).toInt64, M12)) else (
  sg_b (fX11_dropOf N a0_ x1_ M12) (fun (x16 : Int64) (M15 : sg_M) =>
  sg_b (fX11_part N x14 x16 x3_ M15) (fun (x18 : Int64) (M17 : sg_M) =>
  some (x18, M17)))))
  else none)) else (
  some ((-1 : Int64), M10)))) else (
  some ((-1 : Int64), M8))))))))))
set_option maxHeartbeats 4000000 in
set_option maxRecDepth 100000 in
theorem tX11_share {ad : Nat → Nat} {X : sg_X} {N : Nat} {r : Int64 × sg_M} (C : sg_C Yr ad X cX11_share RX11 6 5) (E : sg_eL Yr ad X cX11_share r) : ∀ (a0_ : Nat) (x1_ : Int32) (x2_ : Int32) (x3_ : Int32) (M : sg_M), sg_K Yr a0_ 11 → fX11_share N a0_ x1_ x2_ x3_ M = some r → sg_T Yr ad X 6 0 [(0, .ref (ad a0_)), (1, .int x1_), (2, .int x2_), (3, .int x3_)] [] M := by
  intro a0_ x1_ x2_ x3_ M hq0 h
  unfold fX11_share at h
  refine i_aload_n C dX11_share_0 0 rfl ?_
  refine i_iload_n C dX11_share_1 1 rfl ?_
  refine s_vcI C [_] vmX11_isNode lkX11_308 rfl rfl (by decide) hq0 (by decide) rfl rfl (Nat.le_of_ble_eq_true rfl) dX11_share_2 (ctX11_isNode C.inj hq0) h (fun x2 M1 h => ?_)
  refine s_if_eq C 23 (by decide) dX11_share_5 h (fun _ h => ?_) (fun _ h => ?_)
  · refine s_ldc2 C (-2 : Int64) kl_X11_316 dX11_share_23 ?_
    exact s_lret C E dX11_share_26 h
  · refine i_aload_n C dX11_share_8 0 rfl ?_
    refine i_iload_n C dX11_share_9 2 rfl ?_
    refine s_vcI C [_] vmX11_isNode lkX11_308 rfl rfl (by decide) hq0 (by decide) rfl rfl (Nat.le_of_ble_eq_true rfl) dX11_share_10 (ctX11_isNode C.inj hq0) h (fun x4 M3 h => ?_)
    refine s_if_eq C 23 (by decide) dX11_share_13 h (fun _ h => ?_) (fun _ h => ?_)
    · refine s_ldc2 C (-2 : Int64) kl_X11_316 dX11_share_23 ?_
      exact s_lret C E dX11_share_26 h
    · refine i_iload_n C dX11_share_16 3 rfl ?_
      refine s_scI C [_] smX11_isPart lkX11_313 (by decide) rfl rfl (Nat.le_of_ble_eq_true rfl) dX11_share_17 (ctX11_isPart C.inj ) h (fun x6 M5 h => ?_)
      refine s_if_ne C 27 (by decide) dX11_share_20 h (fun _ h => ?_) (fun _ h => ?_)
      · refine s_ldc2 C (-2 : Int64) kl_X11_316 dX11_share_23 ?_
        exact s_lret C E dX11_share_26 h
      · refine i_aload_n C dX11_share_27 0 rfl ?_
        refine s_vcV C [] vmX11_lays lkX11_292 rfl rfl (by decide) hq0 (by decide) rfl rfl (Nat.le_of_ble_eq_true rfl) dX11_share_28 (ctX11_lays C.inj hq0) h (fun M7 h => ?_)
        refine i_aload_n C dX11_share_31 0 rfl ?_
        refine i_iload_n C dX11_share_32 1 rfl ?_
        refine s_vcI C [_] vmX11_isDead lkX11_288 rfl rfl (by decide) hq0 (by decide) rfl rfl (Nat.le_of_ble_eq_true rfl) dX11_share_33 (ctX11_isDead C.inj hq0) h (fun x9 M8 h => ?_)
        refine s_if_ne C 47 (by decide) dX11_share_36 h (fun _ h => ?_) (fun _ h => ?_)
        · refine i_aload_n C dX11_share_39 0 rfl ?_
          refine i_iload_n C dX11_share_40 2 rfl ?_
          refine s_vcI C [_] vmX11_isDead lkX11_288 rfl rfl (by decide) hq0 (by decide) rfl rfl (Nat.le_of_ble_eq_true rfl) dX11_share_41 (ctX11_isDead C.inj hq0) h (fun x11 M10 h => ?_)
          refine s_if_eq C 51 (by decide) dX11_share_44 h (fun _ h => ?_) (fun _ h => ?_)
          · refine i_aload_n C dX11_share_51 0 rfl ?_
            refine i_iload_n C dX11_share_52 1 rfl ?_
            refine i_iload_n C dX11_share_53 2 rfl ?_
            refine s_vcL C [_, _] vmX11_movesOf lkX11_278 rfl rfl (by decide) hq0 (by decide) rfl rfl (Nat.le_of_ble_eq_true rfl) dX11_share_54 (ctX11_movesOf C.inj hq0) h (fun x13 M12 h => ?_)
            refine i_aload_n C dX11_share_57 0 rfl ?_
            refine gf11_9 C hq0 dX11_share_58 ?_
            refine s_bipush C (6 : Int32) dX11_share_61 (by decide) ?_
            refine i_iload_n C dX11_share_63 2 rfl ?_
            refine s_iadd C dX11_share_64 ?_
            refine s_iald C (ky11_1 hq0) dX11_share_65 h (fun h => ?_)
            refine s_i2l C dX11_share_66 ?_
            refine s_lmul C dX11_share_67 ?_
            refine z_gl h (fun x14 h => ?_)
            refine i_lstore (lv9 := [(4, _), (0, _), (1, _), (2, _), (3, _)]) C dX11_share_68 (by decide) rfl ?_
            refine i_lload C dX11_share_70 0 rfl ?_
            refine s_lconst C (0 : Int64) dX11_share_72 (by decide) ?_
            refine s_lcmp C dX11_share_73 ?_
            refine s_if_ne C 82 (by decide) dX11_share_74 h (fun _ h => ?_) (fun _ h => ?_)
            · refine i_iload_n C dX11_share_77 4 rfl ?_
              refine s_i2l C dX11_share_78 ?_
              refine s_goto C 93 (by decide) dX11_share_79 ?_
              exact s_lret C E dX11_share_93 h
            · refine i_lload C dX11_share_82 0 rfl ?_
              refine i_aload_n C dX11_share_84 1 rfl ?_
              refine i_iload_n C dX11_share_85 2 rfl ?_
              refine s_vcL C [_] vmX11_dropOf lkX11_282 rfl rfl (by decide) hq0 (by decide) rfl rfl (Nat.le_of_ble_eq_true rfl) dX11_share_86 (ctX11_dropOf C.inj hq0) h (fun x16 M15 h => ?_)
              refine i_iload_n C dX11_share_89 4 rfl ?_
              refine s_scL C [_, _, _] smX11_part lkX11_320 (by decide) rfl rfl (Nat.le_of_ble_eq_true rfl) dX11_share_90 (ctX11_part C.inj ) h (fun x18 M17 h => ?_)
              exact s_lret C E dX11_share_93 h
          · refine s_ldc2 C (-1 : Int64) kl_X11_318 dX11_share_47 ?_
            exact s_lret C E dX11_share_50 h
        · refine s_ldc2 C (-1 : Int64) kl_X11_318 dX11_share_47 ?_
          exact s_lret C E dX11_share_50 h
theorem ctX11_share {ad : Nat → Nat} {V : sg_V} {N : Nat} (hi : sg_inj Yr ad) {a0_ : Nat} {x1_ : Int32} {x2_ : Int32} {x3_ : Int32} {M : sg_M} (hq0 : sg_K Yr a0_ 11) : ∀ res, fX11_share N a0_ x1_ x2_ x3_ M = some res → sg_cL Yr ad V yX11_share cX11_share 6 5 [.ref (ad a0_), .int x1_, .int x2_, .int x3_] M res := fun res h => sg_bodyL (by decide) hi (Nat.le_of_ble_eq_true rfl) (fun X hX C E => by subst hX; exact tX11_share C E _ _ _ _  _ hq0 h)
def fX11_comesBy (N : Nat) (a0_ : Nat) (x1_ : Int32) (x2_ : Int32) (M : sg_M) : Option (Int64 × sg_M) :=
  if sg_ib (((2 : Int32) * x1_) + (1 : Int32)) (Yr.2.2.1 (Yr.2.2.2 a0_ 7)) = true then
  if (M.1 (Yr.2.2.2 a0_ 7) ((((2 : Int32) * x1_) + (1 : Int32))).toNatClampNeg) = x2_ then (
  sg_b (fX11_throughOf N a0_ x1_ M) (fun (x2 : Int64) (M1 : sg_M) =>
  some (x2, M1))) else (
  if sg_ib ((2 : Int32) * x1_) (Yr.2.2.1 (Yr.2.2.2 a0_ 7)) = true then
  if (M.1 (Yr.2.2.2 a0_ 7) (((2 : Int32) * x1_)).toNatClampNeg) = x2_ then (
  sg_b (fX11_throughOf N a0_ x1_ M) (fun (x4 : Int64) (M3 : sg_M) =>
  some ((-x4), M3))) else (
  some ((0 : Int64), M))
  else none)
  else none
set_option maxHeartbeats 4000000 in
set_option maxRecDepth 100000 in
theorem tX11_comesBy {ad : Nat → Nat} {X : sg_X} {N : Nat} {r : Int64 × sg_M} (C : sg_C Yr ad X cX11_comesBy RX11 3 3) (E : sg_eL Yr ad X cX11_comesBy r) : ∀ (a0_ : Nat) (x1_ : Int32) (x2_ : Int32) (M : sg_M), sg_K Yr a0_ 11 → fX11_comesBy N a0_ x1_ x2_ M = some r → sg_T Yr ad X 3 0 [(0, .ref (ad a0_)), (1, .int x1_), (2, .int x2_)] [] M := by
  intro a0_ x1_ x2_ M hq0 h
  unfold fX11_comesBy at h
  refine i_aload_n C dX11_comesBy_0 0 rfl ?_
  refine gf11_26 C hq0 dX11_comesBy_1 ?_
  refine s_iconst C (2 : Int32) dX11_comesBy_4 (by decide) ?_
  refine i_iload_n C dX11_comesBy_5 1 rfl ?_
  refine s_imul C dX11_comesBy_6 ?_
  refine s_iconst C (1 : Int32) dX11_comesBy_7 (by decide) ?_
  refine s_iadd C dX11_comesBy_8 ?_
  refine s_iald C (ky11_7 hq0) dX11_comesBy_9 h (fun h => ?_)
  refine i_iload_n C dX11_comesBy_10 2 rfl ?_
  refine s_icmp_ne C 22 (by decide) dX11_comesBy_11 h (fun _ h => ?_) (fun _ h => ?_)
  · refine i_aload_n C dX11_comesBy_14 0 rfl ?_
    refine i_iload_n C dX11_comesBy_15 1 rfl ?_
    refine s_vcL C [_] vmX11_throughOf lkX11_328 rfl rfl (by decide) hq0 (by decide) rfl rfl (Nat.le_of_ble_eq_true rfl) dX11_comesBy_16 (ctX11_throughOf C.inj hq0) h (fun x2 M1 h => ?_)
    refine s_goto C 44 (by decide) dX11_comesBy_19 ?_
    exact s_lret C E dX11_comesBy_44 h
  · refine i_aload_n C dX11_comesBy_22 0 rfl ?_
    refine gf11_26 C hq0 dX11_comesBy_23 ?_
    refine s_iconst C (2 : Int32) dX11_comesBy_26 (by decide) ?_
    refine i_iload_n C dX11_comesBy_27 1 rfl ?_
    refine s_imul C dX11_comesBy_28 ?_
    refine s_iald C (ky11_7 hq0) dX11_comesBy_29 h (fun h => ?_)
    refine i_iload_n C dX11_comesBy_30 2 rfl ?_
    refine s_icmp_ne C 43 (by decide) dX11_comesBy_31 h (fun _ h => ?_) (fun _ h => ?_)
    · refine i_aload_n C dX11_comesBy_34 0 rfl ?_
      refine i_iload_n C dX11_comesBy_35 1 rfl ?_
      refine s_vcL C [_] vmX11_throughOf lkX11_328 rfl rfl (by decide) hq0 (by decide) rfl rfl (Nat.le_of_ble_eq_true rfl) dX11_comesBy_36 (ctX11_throughOf C.inj hq0) h (fun x4 M3 h => ?_)
      refine s_lneg C dX11_comesBy_39 ?_
      refine s_goto C 44 (by decide) dX11_comesBy_40 ?_
      exact s_lret C E dX11_comesBy_44 h
    · refine s_lconst C (0 : Int64) dX11_comesBy_43 (by decide) ?_
      exact s_lret C E dX11_comesBy_44 h
theorem ctX11_comesBy {ad : Nat → Nat} {V : sg_V} {N : Nat} (hi : sg_inj Yr ad) {a0_ : Nat} {x1_ : Int32} {x2_ : Int32} {M : sg_M} (hq0 : sg_K Yr a0_ 11) : ∀ res, fX11_comesBy N a0_ x1_ x2_ M = some res → sg_cL Yr ad V yX11_comesBy cX11_comesBy 3 3 [.ref (ad a0_), .int x1_, .int x2_] M res := fun res h => sg_bodyL (by decide) hi (Nat.le_of_ble_eq_true rfl) (fun X hX C E => by subst hX; exact tX11_comesBy C E _ _ _  _ hq0 h)
def bX11_feederOf_23 (N : Nat)  (k23 : (Nat × Int32 × Int64 × Int32 × Int32) → sg_M → Option (Int32 × sg_M)) (s : Nat × Int32 × Int64 × Int32 × Int32) (M : sg_M) : Option (Int32 × sg_M) :=
  if (M.1 s.1 8) ≤ s.2.2.2.2 then (
  some (s.2.2.2.1, M)) else (
  sg_b (fX11_comesBy N s.1 s.2.2.2.2 s.2.1 M) (fun (x2 : Int64) (M1 : sg_M) =>
  if 0 < (lg_cmp x2 s.2.2.1) then (
  sg_b (fX11_comesBy N s.1 s.2.2.2.2 s.2.1 M1) (fun (x4 : Int64) (M3 : sg_M) =>
  sg_m x4 (fun x5 : Int64 =>
  if sg_ib ((2 : Int32) * s.2.2.2.2) (Yr.2.2.1 (Yr.2.2.2 s.1 7)) = true then
  if sg_ib (((2 : Int32) * s.2.2.2.2) + (1 : Int32)) (Yr.2.2.1 (Yr.2.2.2 s.1 7)) = true then
  sg_m (((M3.1 (Yr.2.2.2 s.1 7) (((2 : Int32) * s.2.2.2.2)).toNatClampNeg) + (M3.1 (Yr.2.2.2 s.1 7) ((((2 : Int32) * s.2.2.2.2) + (1 : Int32))).toNatClampNeg)) - s.2.1) (fun x6 : Int32 =>
  sg_m (s.2.2.2.2 + (1 : Int32)) (fun x7 : Int32 =>
  k23 (s.1, s.2.1, x5, x6, x7) M3))
  else none
  else none))) else (
  sg_m (s.2.2.2.2 + (1 : Int32)) (fun x8 : Int32 =>
  k23 (s.1, s.2.1, s.2.2.1, s.2.2.2.1, x8) M1))))
def gX11_feederOf_23 (N : Nat)  : (Nat × Int32 × Int64 × Int32 × Int32) → sg_M → Option (Int32 × sg_M) := sg_lp (bX11_feederOf_23 N ) N
set_option maxHeartbeats 4000000 in
set_option maxRecDepth 100000 in
theorem tX11_feederOf_23 {ad : Nat → Nat} {X : sg_X} {N : Nat} {r : Int32 × sg_M} (C : sg_C Yr ad X cX11_feederOf RX11 6 4) (E : sg_eI Yr ad X cX11_feederOf .int r)  : ∀ (s : Nat × Int32 × Int64 × Int32 × Int32) (M : sg_M), gX11_feederOf_23 N s M = some r → sg_K Yr s.1 11 → sg_T Yr ad X 6 23 [(0, .ref (ad (s.1))), (1, .int (s.2.1)), (2, .long (s.2.2.1)), (4, .int (s.2.2.2.1)), (5, .int (s.2.2.2.2))] [] M := by
  have key : ∀ n : Nat, ∀ (s : Nat × Int32 × Int64 × Int32 × Int32) (M : sg_M), sg_lp (bX11_feederOf_23 N) n s M = some r → sg_K Yr s.1 11 → sg_T Yr ad X 6 23 [(0, .ref (ad (s.1))), (1, .int (s.2.1)), (2, .long (s.2.2.1)), (4, .int (s.2.2.2.1)), (5, .int (s.2.2.2.2))] [] M := by
    intro n
    induction n with
    | zero => intro s M h; cases h
    | succ n ih =>
      intro s M h hq0
      have h : bX11_feederOf_23 N (sg_lp (bX11_feederOf_23 N) n) s M = some r := h
      generalize sg_lp (bX11_feederOf_23 N) n = k23 at h ih
      have hk23 := ih
      unfold bX11_feederOf_23 at h
      refine i_iload C dX11_feederOf_23 4 rfl ?_
      refine i_aload_n C dX11_feederOf_25 0 rfl ?_
      refine gf11_102 C hq0 dX11_feederOf_26 ?_
      refine s_icmp_ge C 86 (by decide) dX11_feederOf_29 h (fun _ h => ?_) (fun _ h => ?_)
      · refine i_iload C dX11_feederOf_86 3 rfl ?_
        exact s_iret C E dX11_feederOf_88 h
      · refine i_aload_n C dX11_feederOf_32 0 rfl ?_
        refine i_iload C dX11_feederOf_33 4 rfl ?_
        refine i_iload_n C dX11_feederOf_35 1 rfl ?_
        refine s_vcL C [_, _] vmX11_comesBy lkX11_337 rfl rfl (by decide) hq0 (by decide) rfl rfl (Nat.le_of_ble_eq_true rfl) dX11_feederOf_36 (ctX11_comesBy C.inj hq0) h (fun x2 M1 h => ?_)
        refine i_lload_n C dX11_feederOf_39 2 rfl ?_
        refine s_lcmp C dX11_feederOf_40 ?_
        refine s_if_gt C 47 (by decide) dX11_feederOf_41 h (fun _ h => ?_) (fun _ h => ?_)
        · refine i_aload_n C dX11_feederOf_47 0 rfl ?_
          refine i_iload C dX11_feederOf_48 4 rfl ?_
          refine i_iload_n C dX11_feederOf_50 1 rfl ?_
          refine s_vcL C [_, _] vmX11_comesBy lkX11_337 rfl rfl (by decide) hq0 (by decide) rfl rfl (Nat.le_of_ble_eq_true rfl) dX11_feederOf_51 (ctX11_comesBy C.inj hq0) h (fun x4 M3 h => ?_)
          refine z_gl h (fun x5 h => ?_)
          refine i_lstore_n (lv9 := [(2, _), (0, _), (1, _), (4, _), (5, _)]) C 2 dX11_feederOf_54 rfl (by decide) rfl ?_
          refine i_aload_n C dX11_feederOf_55 1 rfl ?_
          refine gf11_26 C hq0 dX11_feederOf_56 ?_
          refine s_iconst C (2 : Int32) dX11_feederOf_59 (by decide) ?_
          refine i_iload C dX11_feederOf_60 4 rfl ?_
          refine s_imul C dX11_feederOf_62 ?_
          refine s_iald C (ky11_7 hq0) dX11_feederOf_63 h (fun h => ?_)
          refine i_aload_n C dX11_feederOf_64 1 rfl ?_
          refine gf11_26 C hq0 dX11_feederOf_65 ?_
          refine s_iconst C (2 : Int32) dX11_feederOf_68 (by decide) ?_
          refine i_iload C dX11_feederOf_69 4 rfl ?_
          refine s_imul C dX11_feederOf_71 ?_
          refine s_iconst C (1 : Int32) dX11_feederOf_72 (by decide) ?_
          refine s_iadd C dX11_feederOf_73 ?_
          refine s_iald C (ky11_7 hq0) dX11_feederOf_74 h (fun h => ?_)
          refine s_iadd C dX11_feederOf_75 ?_
          refine i_iload_n C dX11_feederOf_76 2 rfl ?_
          refine s_isub C dX11_feederOf_77 ?_
          refine z_gi h (fun x6 h => ?_)
          refine i_istore (lv9 := [(4, _), (2, _), (0, _), (1, _), (5, _)]) C dX11_feederOf_78 (by decide) rfl ?_
          refine z_iinc (n := 1) (c9 := (1 : Int32)) (by decide) h (fun x7 hx h => ?_)
          refine i_iinc (lv9 := [(5, _), (4, _), (2, _), (0, _), (1, _)]) C dX11_feederOf_80 4 rfl hx (by decide) rfl ?_
          refine s_goto C 23 (by decide) dX11_feederOf_83 ?_
          exact sg_T.to (hk23 _ _ h hq0) [3, 4, 2, 1, 0] rfl
        · refine s_goto C 80 (by decide) dX11_feederOf_44 ?_
          refine z_iinc (n := 1) (c9 := (1 : Int32)) (by decide) h (fun x8 hx h => ?_)
          refine i_iinc (lv9 := [(5, _), (0, _), (1, _), (2, _), (4, _)]) C dX11_feederOf_80 4 rfl hx (by decide) rfl ?_
          refine s_goto C 23 (by decide) dX11_feederOf_83 ?_
          exact sg_T.to (hk23 _ _ h hq0) [1, 2, 3, 4, 0] rfl
  exact key N
def fX11_feederOf (N : Nat) (a0_ : Nat) (x1_ : Int32) (M : sg_M) : Option (Int32 × sg_M) :=
  if sg_ib (5 : Int32) (Yr.2.2.1 (Yr.2.2.2 a0_ 1)) = true then
  sg_b (fX11_isOf N (M.1 (Yr.2.2.2 a0_ 1) ((5 : Int32)).toNatClampNeg) x1_ M) (fun (x10 : Int32) (M9 : sg_M) =>
  if x10 = 0 then (
  sg_m (0 : Int64) (fun x11 : Int64 =>
  sg_m (-1 : Int32) (fun x12 : Int32 =>
  sg_m (0 : Int32) (fun x13 : Int32 =>
  gX11_feederOf_23 N (a0_, x1_, x11, x12, x13) M9)))) else (
  some ((-1 : Int32), M9)))
  else none
set_option maxHeartbeats 4000000 in
set_option maxRecDepth 100000 in
theorem tX11_feederOf {ad : Nat → Nat} {X : sg_X} {N : Nat} {r : Int32 × sg_M} (C : sg_C Yr ad X cX11_feederOf RX11 6 4) (E : sg_eI Yr ad X cX11_feederOf .int r) : ∀ (a0_ : Nat) (x1_ : Int32) (M : sg_M), sg_K Yr a0_ 11 → fX11_feederOf N a0_ x1_ M = some r → sg_T Yr ad X 6 0 [(0, .ref (ad a0_)), (1, .int x1_)] [] M := by
  intro a0_ x1_ M hq0 h
  unfold fX11_feederOf at h
  refine i_aload_n C dX11_feederOf_0 0 rfl ?_
  refine gf11_9 C hq0 dX11_feederOf_1 ?_
  refine s_iconst C (5 : Int32) dX11_feederOf_4 (by decide) ?_
  refine s_iald C (ky11_1 hq0) dX11_feederOf_5 h (fun h => ?_)
  refine i_iload_n C dX11_feederOf_6 1 rfl ?_
  refine s_scI C [_, _] smX11_isOf lkX11_209 (by decide) rfl rfl (Nat.le_of_ble_eq_true rfl) dX11_feederOf_7 (ctX11_isOf C.inj ) h (fun x10 M9 h => ?_)
  refine s_if_eq C 15 (by decide) dX11_feederOf_10 h (fun _ h => ?_) (fun _ h => ?_)
  · refine s_lconst C (0 : Int64) dX11_feederOf_15 (by decide) ?_
    refine z_gl h (fun x11 h => ?_)
    refine i_lstore_n (lv9 := [(2, _), (0, _), (1, _)]) C 2 dX11_feederOf_16 rfl (by decide) rfl ?_
    refine s_iconst C (-1 : Int32) dX11_feederOf_17 (by decide) ?_
    refine z_gi h (fun x12 h => ?_)
    refine i_istore (lv9 := [(4, _), (2, _), (0, _), (1, _)]) C dX11_feederOf_18 (by decide) rfl ?_
    refine s_iconst C (0 : Int32) dX11_feederOf_20 (by decide) ?_
    refine z_gi h (fun x13 h => ?_)
    refine i_istore (lv9 := [(5, _), (4, _), (2, _), (0, _), (1, _)]) C dX11_feederOf_21 (by decide) rfl ?_
    exact sg_T.to (tX11_feederOf_23 C E _ _ h hq0) [3, 4, 2, 1, 0] rfl
  · refine s_iconst C (-1 : Int32) dX11_feederOf_13 (by decide) ?_
    exact s_iret C E dX11_feederOf_14 h
theorem ctX11_feederOf {ad : Nat → Nat} {V : sg_V} {N : Nat} (hi : sg_inj Yr ad) {a0_ : Nat} {x1_ : Int32} {M : sg_M} (hq0 : sg_K Yr a0_ 11) : ∀ res, fX11_feederOf N a0_ x1_ M = some res → sg_cI Yr ad V yX11_feederOf cX11_feederOf 6 .int 4 [.ref (ad a0_), .int x1_] M res := fun res h => sg_bodyI (by decide) hi (Nat.le_of_ble_eq_true rfl) (fun X hX C E => by subst hX; exact tX11_feederOf C E _ _  _ hq0 h)
def bX11_feeder_24 (N : Nat)  (k24 : (Nat × Int32 × Int32 × Int32) → sg_M → Option (Int32 × sg_M)) (s : Nat × Int32 × Int32 × Int32) (M : sg_M) : Option (Int32 × sg_M) :=
  if s.2.1 ≤ s.2.2.2 then (
  some (s.2.2.1, M)) else (
  if s.2.2.1 = (-1 : Int32) then (
  some (s.2.2.1, M)) else (
  sg_b (fX11_feederOf N s.1 s.2.2.1 M) (fun (x2 : Int32) (M1 : sg_M) =>
  sg_m x2 (fun x3 : Int32 =>
  sg_m (s.2.2.2 + (1 : Int32)) (fun x4 : Int32 =>
  k24 (s.1, s.2.1, x3, x4) M1)))))
def gX11_feeder_24 (N : Nat)  : (Nat × Int32 × Int32 × Int32) → sg_M → Option (Int32 × sg_M) := sg_lp (bX11_feeder_24 N ) N
set_option maxHeartbeats 4000000 in
set_option maxRecDepth 100000 in
theorem tX11_feeder_24 {ad : Nat → Nat} {X : sg_X} {N : Nat} {r : Int32 × sg_M} (C : sg_C Yr ad X cX11_feeder RX11 5 5) (E : sg_eI Yr ad X cX11_feeder .int r)  : ∀ (s : Nat × Int32 × Int32 × Int32) (M : sg_M), gX11_feeder_24 N s M = some r → sg_K Yr s.1 11 → sg_T Yr ad X 5 24 [(0, .ref (ad (s.1))), (2, .int (s.2.1)), (3, .int (s.2.2.1)), (4, .int (s.2.2.2))] [] M := by
  have key : ∀ n : Nat, ∀ (s : Nat × Int32 × Int32 × Int32) (M : sg_M), sg_lp (bX11_feeder_24 N) n s M = some r → sg_K Yr s.1 11 → sg_T Yr ad X 5 24 [(0, .ref (ad (s.1))), (2, .int (s.2.1)), (3, .int (s.2.2.1)), (4, .int (s.2.2.2))] [] M := by
    intro n
    induction n with
    | zero => intro s M h; cases h
    | succ n ih =>
      intro s M h hq0
      have h : bX11_feeder_24 N (sg_lp (bX11_feeder_24 N) n) s M = some r := h
      generalize sg_lp (bX11_feeder_24 N) n = k24 at h ih
      have hk24 := ih
      unfold bX11_feeder_24 at h
      refine i_iload C dX11_feeder_24 3 rfl ?_
      refine i_iload_n C dX11_feeder_26 1 rfl ?_
      refine s_icmp_ge C 47 (by decide) dX11_feeder_27 h (fun _ h => ?_) (fun _ h => ?_)
      · refine i_iload_n C dX11_feeder_47 2 rfl ?_
        exact s_iret C E dX11_feeder_48 h
      · refine i_iload_n C dX11_feeder_30 2 rfl ?_
        refine s_iconst C (-1 : Int32) dX11_feeder_31 (by decide) ?_
        refine s_icmp_eq C 47 (by decide) dX11_feeder_32 h (fun _ h => ?_) (fun _ h => ?_)
        · refine i_iload_n C dX11_feeder_47 2 rfl ?_
          exact s_iret C E dX11_feeder_48 h
        · refine i_aload_n C dX11_feeder_35 0 rfl ?_
          refine i_iload_n C dX11_feeder_36 2 rfl ?_
          refine s_vcI C [_] vmX11_feederOf lkX11_340 rfl rfl (by decide) hq0 (by decide) rfl rfl (Nat.le_of_ble_eq_true rfl) dX11_feeder_37 (ctX11_feederOf C.inj hq0) h (fun x2 M1 h => ?_)
          refine z_gi h (fun x3 h => ?_)
          refine i_istore_n (lv9 := [(3, _), (0, _), (2, _), (4, _)]) C 3 dX11_feeder_40 rfl (by decide) rfl ?_
          refine z_iinc (n := 1) (c9 := (1 : Int32)) (by decide) h (fun x4 hx h => ?_)
          refine i_iinc (lv9 := [(4, _), (3, _), (0, _), (2, _)]) C dX11_feeder_41 3 rfl hx (by decide) rfl ?_
          refine s_goto C 24 (by decide) dX11_feeder_44 ?_
          exact sg_T.to (hk24 _ _ h hq0) [2, 3, 1, 0] rfl
  exact key N
def fX11_feeder (N : Nat) (a0_ : Nat) (x1_ : Int32) (x2_ : Int32) (M : sg_M) : Option (Int32 × sg_M) :=
  sg_b (fX11_isNode N a0_ x1_ M) (fun (x6 : Int32) (M5 : sg_M) =>
  if x6 = 0 then (
  some ((-2 : Int32), M5)) else (
  if 0 ≤ x2_ then (
  sg_bv (fX11_lays N a0_ M5) (fun M7 : sg_M =>
  sg_m x1_ (fun x8 : Int32 =>
  sg_m (0 : Int32) (fun x9 : Int32 =>
  gX11_feeder_24 N (a0_, x2_, x8, x9) M7)))) else (
  some ((-2 : Int32), M5))))
set_option maxHeartbeats 4000000 in
set_option maxRecDepth 100000 in
theorem tX11_feeder {ad : Nat → Nat} {X : sg_X} {N : Nat} {r : Int32 × sg_M} (C : sg_C Yr ad X cX11_feeder RX11 5 5) (E : sg_eI Yr ad X cX11_feeder .int r) : ∀ (a0_ : Nat) (x1_ : Int32) (x2_ : Int32) (M : sg_M), sg_K Yr a0_ 11 → fX11_feeder N a0_ x1_ x2_ M = some r → sg_T Yr ad X 5 0 [(0, .ref (ad a0_)), (1, .int x1_), (2, .int x2_)] [] M := by
  intro a0_ x1_ x2_ M hq0 h
  unfold fX11_feeder at h
  refine i_aload_n C dX11_feeder_0 0 rfl ?_
  refine i_iload_n C dX11_feeder_1 1 rfl ?_
  refine s_vcI C [_] vmX11_isNode lkX11_308 rfl rfl (by decide) hq0 (by decide) rfl rfl (Nat.le_of_ble_eq_true rfl) dX11_feeder_2 (ctX11_isNode C.inj hq0) h (fun x6 M5 h => ?_)
  refine s_if_eq C 12 (by decide) dX11_feeder_5 h (fun _ h => ?_) (fun _ h => ?_)
  · refine s_bipush C (-2 : Int32) dX11_feeder_12 (by decide) ?_
    exact s_iret C E dX11_feeder_14 h
  · refine i_iload_n C dX11_feeder_8 2 rfl ?_
    refine s_if_ge C 15 (by decide) dX11_feeder_9 h (fun _ h => ?_) (fun _ h => ?_)
    · refine i_aload_n C dX11_feeder_15 0 rfl ?_
      refine s_vcV C [] vmX11_lays lkX11_292 rfl rfl (by decide) hq0 (by decide) rfl rfl (Nat.le_of_ble_eq_true rfl) dX11_feeder_16 (ctX11_lays C.inj hq0) h (fun M7 h => ?_)
      refine i_iload_n C dX11_feeder_19 1 rfl ?_
      refine z_gi h (fun x8 h => ?_)
      refine i_istore_n (lv9 := [(3, _), (0, _), (1, _), (2, _)]) C 3 dX11_feeder_20 rfl (by decide) rfl ?_
      refine s_iconst C (0 : Int32) dX11_feeder_21 (by decide) ?_
      refine z_gi h (fun x9 h => ?_)
      refine i_istore (lv9 := [(4, _), (3, _), (0, _), (1, _), (2, _)]) C dX11_feeder_22 (by decide) rfl ?_
      exact sg_T.to (tX11_feeder_24 C E _ _ h hq0) [2, 4, 1, 0] rfl
    · refine s_bipush C (-2 : Int32) dX11_feeder_12 (by decide) ?_
      exact s_iret C E dX11_feeder_14 h
theorem ctX11_feeder {ad : Nat → Nat} {V : sg_V} {N : Nat} (hi : sg_inj Yr ad) {a0_ : Nat} {x1_ : Int32} {x2_ : Int32} {M : sg_M} (hq0 : sg_K Yr a0_ 11) : ∀ res, fX11_feeder N a0_ x1_ x2_ M = some res → sg_cI Yr ad V yX11_feeder cX11_feeder 5 .int 5 [.ref (ad a0_), .int x1_, .int x2_] M res := fun res h => sg_bodyI (by decide) hi (Nat.le_of_ble_eq_true rfl) (fun X hX C E => by subst hX; exact tX11_feeder C E _ _ _  _ hq0 h)
def bX11_parts_21 (N : Nat)  (k21 : (Nat × Int32 × Int32 × Int32) → sg_M → Option (Int32 × sg_M)) (s : Nat × Int32 × Int32 × Int32) (M : sg_M) : Option (Int32 × sg_M) :=
  sg_b (fX11_nodes N s.1 M) (fun (x2 : Int32) (M1 : sg_M) =>
  if x2 ≤ s.2.2.2 then (
  some (s.2.1, M1)) else (
  sg_b (fX11_isOf N s.2.2.1 s.2.2.2 M1) (fun (x4 : Int32) (M3 : sg_M) =>
  if x4 = 0 then (
  sg_b (fX11_comesTo N s.1 ((1 : Int32) <<< (s.2.2.2 &&& 31)) M3) (fun (x6 : Int32) (M5 : sg_M) =>
  sg_m (s.2.2.1 ||| x6) (fun x7 : Int32 =>
  sg_m (s.2.1 + (1 : Int32)) (fun x8 : Int32 =>
  sg_m (s.2.2.2 + (1 : Int32)) (fun x9 : Int32 =>
  k21 (s.1, x8, x7, x9) M5))))) else (
  sg_m (s.2.2.2 + (1 : Int32)) (fun x10 : Int32 =>
  k21 (s.1, s.2.1, s.2.2.1, x10) M3)))))
def gX11_parts_21 (N : Nat)  : (Nat × Int32 × Int32 × Int32) → sg_M → Option (Int32 × sg_M) := sg_lp (bX11_parts_21 N ) N
set_option maxHeartbeats 4000000 in
set_option maxRecDepth 100000 in
theorem tX11_parts_21 {ad : Nat → Nat} {X : sg_X} {N : Nat} {r : Int32 × sg_M} (C : sg_C Yr ad X cX11_parts RX11 4 3) (E : sg_eI Yr ad X cX11_parts .int r)  : ∀ (s : Nat × Int32 × Int32 × Int32) (M : sg_M), gX11_parts_21 N s M = some r → sg_K Yr s.1 11 → sg_T Yr ad X 4 21 [(0, .ref (ad (s.1))), (1, .int (s.2.1)), (2, .int (s.2.2.1)), (3, .int (s.2.2.2))] [] M := by
  have key : ∀ n : Nat, ∀ (s : Nat × Int32 × Int32 × Int32) (M : sg_M), sg_lp (bX11_parts_21 N) n s M = some r → sg_K Yr s.1 11 → sg_T Yr ad X 4 21 [(0, .ref (ad (s.1))), (1, .int (s.2.1)), (2, .int (s.2.2.1)), (3, .int (s.2.2.2))] [] M := by
    intro n
    induction n with
    | zero => intro s M h; cases h
    | succ n ih =>
      intro s M h hq0
      have h : bX11_parts_21 N (sg_lp (bX11_parts_21 N) n) s M = some r := h
      generalize sg_lp (bX11_parts_21 N) n = k21 at h ih
      have hk21 := ih
      unfold bX11_parts_21 at h
      refine i_iload_n C dX11_parts_21 3 rfl ?_
      refine i_aload_n C dX11_parts_22 0 rfl ?_
      refine s_vcI C [] vmX11_nodes lkX11_98 rfl rfl (by decide) hq0 (by decide) rfl rfl (Nat.le_of_ble_eq_true rfl) dX11_parts_23 (ctX11_nodes C.inj hq0) h (fun x2 M1 h => ?_)
      refine s_icmp_ge C 59 (by decide) dX11_parts_26 h (fun _ h => ?_) (fun _ h => ?_)
      · refine i_iload_n C dX11_parts_59 1 rfl ?_
        exact s_iret C E dX11_parts_60 h
      · refine i_iload_n C dX11_parts_29 2 rfl ?_
        refine i_iload_n C dX11_parts_30 3 rfl ?_
        refine s_scI C [_, _] smX11_isOf lkX11_209 (by decide) rfl rfl (Nat.le_of_ble_eq_true rfl) dX11_parts_31 (ctX11_isOf C.inj ) h (fun x4 M3 h => ?_)
        refine s_if_eq C 40 (by decide) dX11_parts_34 h (fun _ h => ?_) (fun _ h => ?_)
        · refine i_iload_n C dX11_parts_40 2 rfl ?_
          refine i_aload_n C dX11_parts_41 0 rfl ?_
          refine s_iconst C (1 : Int32) dX11_parts_42 (by decide) ?_
          refine i_iload_n C dX11_parts_43 3 rfl ?_
          refine s_ishl C dX11_parts_44 ?_
          refine s_vcI C [_] vmX11_comesTo lkX11_263 rfl rfl (by decide) hq0 (by decide) rfl rfl (Nat.le_of_ble_eq_true rfl) dX11_parts_45 (ctX11_comesTo C.inj hq0) h (fun x6 M5 h => ?_)
          refine s_ior C dX11_parts_48 ?_
          refine z_gi h (fun x7 h => ?_)
          refine i_istore_n (lv9 := [(2, _), (0, _), (1, _), (3, _)]) C 2 dX11_parts_49 rfl (by decide) rfl ?_
          refine z_iinc (n := 1) (c9 := (1 : Int32)) (by decide) h (fun x8 hx h => ?_)
          refine i_iinc (lv9 := [(1, _), (2, _), (0, _), (3, _)]) C dX11_parts_50 2 rfl hx (by decide) rfl ?_
          refine z_iinc (n := 1) (c9 := (1 : Int32)) (by decide) h (fun x9 hx h => ?_)
          refine i_iinc (lv9 := [(3, _), (1, _), (2, _), (0, _)]) C dX11_parts_53 3 rfl hx (by decide) rfl ?_
          refine s_goto C 21 (by decide) dX11_parts_56 ?_
          exact sg_T.to (hk21 _ _ h hq0) [3, 1, 2, 0] rfl
        · refine s_goto C 53 (by decide) dX11_parts_37 ?_
          refine z_iinc (n := 1) (c9 := (1 : Int32)) (by decide) h (fun x10 hx h => ?_)
          refine i_iinc (lv9 := [(3, _), (0, _), (1, _), (2, _)]) C dX11_parts_53 3 rfl hx (by decide) rfl ?_
          refine s_goto C 21 (by decide) dX11_parts_56 ?_
          exact sg_T.to (hk21 _ _ h hq0) [1, 2, 3, 0] rfl
  exact key N
def fX11_parts (N : Nat) (a0_ : Nat) (M : sg_M) : Option (Int32 × sg_M) :=
  sg_b (fX11_isGrid N a0_ M) (fun (x12 : Int32) (M11 : sg_M) =>
  if x12 = 0 then (
  some ((-2 : Int32), M11)) else (
  sg_b (fX11_straps N a0_ M11) (fun (x14 : Int32) (M13 : sg_M) =>
  sg_m (0 : Int32) (fun x15 : Int32 =>
  sg_m (0 : Int32) (fun x16 : Int32 =>
  sg_m (0 : Int32) (fun x17 : Int32 =>
  gX11_parts_21 N (a0_, x15, x16, x17) M13))))))
set_option maxHeartbeats 4000000 in
set_option maxRecDepth 100000 in
theorem tX11_parts {ad : Nat → Nat} {X : sg_X} {N : Nat} {r : Int32 × sg_M} (C : sg_C Yr ad X cX11_parts RX11 4 3) (E : sg_eI Yr ad X cX11_parts .int r) : ∀ (a0_ : Nat) (M : sg_M), sg_K Yr a0_ 11 → fX11_parts N a0_ M = some r → sg_T Yr ad X 4 0 [(0, .ref (ad a0_))] [] M := by
  intro a0_ M hq0 h
  unfold fX11_parts at h
  refine i_aload_n C dX11_parts_0 0 rfl ?_
  refine s_vcI C [] vmX11_isGrid lkX11_109 rfl rfl (by decide) hq0 (by decide) rfl rfl (Nat.le_of_ble_eq_true rfl) dX11_parts_1 (ctX11_isGrid C.inj hq0) h (fun x12 M11 h => ?_)
  refine s_if_ne C 10 (by decide) dX11_parts_4 h (fun _ h => ?_) (fun _ h => ?_)
  · refine s_bipush C (-2 : Int32) dX11_parts_7 (by decide) ?_
    exact s_iret C E dX11_parts_9 h
  · refine i_aload_n C dX11_parts_10 0 rfl ?_
    refine s_vcI C [] vmX11_straps lkX11_116 rfl rfl (by decide) hq0 (by decide) rfl rfl (Nat.le_of_ble_eq_true rfl) dX11_parts_11 (ctX11_straps C.inj hq0) h (fun x14 M13 h => ?_)
    refine s_pop C dX11_parts_14 rfl ?_
    refine s_iconst C (0 : Int32) dX11_parts_15 (by decide) ?_
    refine z_gi h (fun x15 h => ?_)
    refine i_istore_n (lv9 := [(1, _), (0, _)]) C 1 dX11_parts_16 rfl (by decide) rfl ?_
    refine s_iconst C (0 : Int32) dX11_parts_17 (by decide) ?_
    refine z_gi h (fun x16 h => ?_)
    refine i_istore_n (lv9 := [(2, _), (1, _), (0, _)]) C 2 dX11_parts_18 rfl (by decide) rfl ?_
    refine s_iconst C (0 : Int32) dX11_parts_19 (by decide) ?_
    refine z_gi h (fun x17 h => ?_)
    refine i_istore_n (lv9 := [(3, _), (2, _), (1, _), (0, _)]) C 3 dX11_parts_20 rfl (by decide) rfl ?_
    exact sg_T.to (tX11_parts_21 C E _ _ h hq0) [3, 2, 1, 0] rfl
theorem ctX11_parts {ad : Nat → Nat} {V : sg_V} {N : Nat} (hi : sg_inj Yr ad) {a0_ : Nat} {M : sg_M} (hq0 : sg_K Yr a0_ 11) : ∀ res, fX11_parts N a0_ M = some res → sg_cI Yr ad V yX11_parts cX11_parts 4 .int 3 [.ref (ad a0_)] M res := fun res h => sg_bodyI (by decide) hi (Nat.le_of_ble_eq_true rfl) (fun X hX C E => by subst hX; exact tX11_parts C E _  _ hq0 h)
def fX11_reached (N : Nat) (a0_ : Nat) (x1_ : Int32) (M : sg_M) : Option (Int32 × sg_M) :=
  sg_b (fX11_isNode N a0_ x1_ M) (fun (x2 : Int32) (M1 : sg_M) =>
  if x2 = 0 then (
  some ((-2 : Int32), M1)) else (
  sg_b (fX11_straps N a0_ M1) (fun (x4 : Int32) (M3 : sg_M) =>
  sg_b (fX11_comesTo N a0_ ((1 : Int32) <<< (x1_ &&& 31)) M3) (fun (x6 : Int32) (M5 : sg_M) =>
  some (x6, M5)))))
set_option maxHeartbeats 4000000 in
set_option maxRecDepth 100000 in
theorem tX11_reached {ad : Nat → Nat} {X : sg_X} {N : Nat} {r : Int32 × sg_M} (C : sg_C Yr ad X cX11_reached RX11 2 3) (E : sg_eI Yr ad X cX11_reached .int r) : ∀ (a0_ : Nat) (x1_ : Int32) (M : sg_M), sg_K Yr a0_ 11 → fX11_reached N a0_ x1_ M = some r → sg_T Yr ad X 2 0 [(0, .ref (ad a0_)), (1, .int x1_)] [] M := by
  intro a0_ x1_ M hq0 h
  unfold fX11_reached at h
  refine i_aload_n C dX11_reached_0 0 rfl ?_
  refine i_iload_n C dX11_reached_1 1 rfl ?_
  refine s_vcI C [_] vmX11_isNode lkX11_308 rfl rfl (by decide) hq0 (by decide) rfl rfl (Nat.le_of_ble_eq_true rfl) dX11_reached_2 (ctX11_isNode C.inj hq0) h (fun x2 M1 h => ?_)
  refine s_if_ne C 11 (by decide) dX11_reached_5 h (fun _ h => ?_) (fun _ h => ?_)
  · refine s_bipush C (-2 : Int32) dX11_reached_8 (by decide) ?_
    exact s_iret C E dX11_reached_10 h
  · refine i_aload_n C dX11_reached_11 0 rfl ?_
    refine s_vcI C [] vmX11_straps lkX11_116 rfl rfl (by decide) hq0 (by decide) rfl rfl (Nat.le_of_ble_eq_true rfl) dX11_reached_12 (ctX11_straps C.inj hq0) h (fun x4 M3 h => ?_)
    refine s_pop C dX11_reached_15 rfl ?_
    refine i_aload_n C dX11_reached_16 0 rfl ?_
    refine s_iconst C (1 : Int32) dX11_reached_17 (by decide) ?_
    refine i_iload_n C dX11_reached_18 1 rfl ?_
    refine s_ishl C dX11_reached_19 ?_
    refine s_vcI C [_] vmX11_comesTo lkX11_263 rfl rfl (by decide) hq0 (by decide) rfl rfl (Nat.le_of_ble_eq_true rfl) dX11_reached_20 (ctX11_comesTo C.inj hq0) h (fun x6 M5 h => ?_)
    exact s_iret C E dX11_reached_23 h
theorem ctX11_reached {ad : Nat → Nat} {V : sg_V} {N : Nat} (hi : sg_inj Yr ad) {a0_ : Nat} {x1_ : Int32} {M : sg_M} (hq0 : sg_K Yr a0_ 11) : ∀ res, fX11_reached N a0_ x1_ M = some res → sg_cI Yr ad V yX11_reached cX11_reached 2 .int 3 [.ref (ad a0_), .int x1_] M res := fun res h => sg_bodyI (by decide) hi (Nat.le_of_ble_eq_true rfl) (fun X hX C E => by subst hX; exact tX11_reached C E _ _  _ hq0 h)
def fX11_isAhead (N : Nat) (a0_ : Nat) (x1_ : Int32) (x2_ : Int32) (x3_ : Int32) (M : sg_M) : Option (Int32 × sg_M) :=
  sg_b (fX11_movesOf N a0_ x1_ x2_ M) (fun (x2 : Int64) (M1 : sg_M) =>
  sg_b (fX11_movesOf N a0_ x1_ x3_ M1) (fun (x4 : Int64) (M3 : sg_M) =>
  if (lg_cmp x2 x4) = 0 then (
  if x3_ ≤ x2_ then (
  some ((0 : Int32), M3)) else (
  some ((1 : Int32), M3))) else (
  sg_b (fX11_movesOf N a0_ x1_ x2_ M3) (fun (x6 : Int64) (M5 : sg_M) =>
  sg_b (fX11_movesOf N a0_ x1_ x3_ M5) (fun (x8 : Int64) (M7 : sg_M) =>
  if (lg_cmp x6 x8) ≤ 0 then (
  some ((0 : Int32), M7)) else (
  some ((1 : Int32), M7)))))))
set_option maxHeartbeats 4000000 in
set_option maxRecDepth 100000 in
theorem tX11_isAhead {ad : Nat → Nat} {X : sg_X} {N : Nat} {r : Int32 × sg_M} (C : sg_C Yr ad X cX11_isAhead RX11 4 1) (E : sg_eI Yr ad X cX11_isAhead .boolean r) : ∀ (a0_ : Nat) (x1_ : Int32) (x2_ : Int32) (x3_ : Int32) (M : sg_M), sg_K Yr a0_ 11 → fX11_isAhead N a0_ x1_ x2_ x3_ M = some r → sg_T Yr ad X 4 0 [(0, .ref (ad a0_)), (1, .int x1_), (2, .int x2_), (3, .int x3_)] [] M := by
  intro a0_ x1_ x2_ x3_ M hq0 h
  unfold fX11_isAhead at h
  refine i_aload_n C dX11_isAhead_0 0 rfl ?_
  refine i_iload_n C dX11_isAhead_1 1 rfl ?_
  refine i_iload_n C dX11_isAhead_2 2 rfl ?_
  refine s_vcL C [_, _] vmX11_movesOf lkX11_278 rfl rfl (by decide) hq0 (by decide) rfl rfl (Nat.le_of_ble_eq_true rfl) dX11_isAhead_3 (ctX11_movesOf C.inj hq0) h (fun x2 M1 h => ?_)
  refine i_aload_n C dX11_isAhead_6 0 rfl ?_
  refine i_iload_n C dX11_isAhead_7 1 rfl ?_
  refine i_iload_n C dX11_isAhead_8 3 rfl ?_
  refine s_vcL C [_, _] vmX11_movesOf lkX11_278 rfl rfl (by decide) hq0 (by decide) rfl rfl (Nat.le_of_ble_eq_true rfl) dX11_isAhead_9 (ctX11_movesOf C.inj hq0) h (fun x4 M3 h => ?_)
  refine s_lcmp C dX11_isAhead_12 ?_
  refine s_if_eq C 40 (by decide) dX11_isAhead_13 h (fun _ h => ?_) (fun _ h => ?_)
  · refine i_iload_n C dX11_isAhead_40 2 rfl ?_
    refine i_iload_n C dX11_isAhead_41 3 rfl ?_
    refine s_icmp_ge C 49 (by decide) dX11_isAhead_42 h (fun _ h => ?_) (fun _ h => ?_)
    · refine s_iconst C (0 : Int32) dX11_isAhead_49 (by decide) ?_
      exact s_zret1 C E (by decide) dX11_isAhead_50 h
    · refine s_iconst C (1 : Int32) dX11_isAhead_45 (by decide) ?_
      refine s_goto C 50 (by decide) dX11_isAhead_46 ?_
      exact s_zret1 C E (by decide) dX11_isAhead_50 h
  · refine i_aload_n C dX11_isAhead_16 0 rfl ?_
    refine i_iload_n C dX11_isAhead_17 1 rfl ?_
    refine i_iload_n C dX11_isAhead_18 2 rfl ?_
    refine s_vcL C [_, _] vmX11_movesOf lkX11_278 rfl rfl (by decide) hq0 (by decide) rfl rfl (Nat.le_of_ble_eq_true rfl) dX11_isAhead_19 (ctX11_movesOf C.inj hq0) h (fun x6 M5 h => ?_)
    refine i_aload_n C dX11_isAhead_22 0 rfl ?_
    refine i_iload_n C dX11_isAhead_23 1 rfl ?_
    refine i_iload_n C dX11_isAhead_24 3 rfl ?_
    refine s_vcL C [_, _] vmX11_movesOf lkX11_278 rfl rfl (by decide) hq0 (by decide) rfl rfl (Nat.le_of_ble_eq_true rfl) dX11_isAhead_25 (ctX11_movesOf C.inj hq0) h (fun x8 M7 h => ?_)
    refine s_lcmp C dX11_isAhead_28 ?_
    refine s_if_le C 36 (by decide) dX11_isAhead_29 h (fun _ h => ?_) (fun _ h => ?_)
    · refine s_iconst C (0 : Int32) dX11_isAhead_36 (by decide) ?_
      refine s_goto C 50 (by decide) dX11_isAhead_37 ?_
      exact s_zret1 C E (by decide) dX11_isAhead_50 h
    · refine s_iconst C (1 : Int32) dX11_isAhead_32 (by decide) ?_
      refine s_goto C 50 (by decide) dX11_isAhead_33 ?_
      exact s_zret1 C E (by decide) dX11_isAhead_50 h
theorem ctX11_isAhead {ad : Nat → Nat} {V : sg_V} {N : Nat} (hi : sg_inj Yr ad) {a0_ : Nat} {x1_ : Int32} {x2_ : Int32} {x3_ : Int32} {M : sg_M} (hq0 : sg_K Yr a0_ 11) : ∀ res, fX11_isAhead N a0_ x1_ x2_ x3_ M = some res → sg_cI Yr ad V yX11_isAhead cX11_isAhead 4 .boolean 1 [.ref (ad a0_), .int x1_, .int x2_, .int x3_] M res := fun res h => sg_bodyI (by decide) hi (Nat.le_of_ble_eq_true rfl) (fun X hX C E => by subst hX; exact tX11_isAhead C E _ _ _ _  _ hq0 h)
def bX11_draws_125 (N : Nat)  (k125 : (Nat × Int32 × Int32) → sg_M → Option (sg_M)) (s : Nat × Int32 × Int32) (M : sg_M) : Option (sg_M) :=
  if s.2.1 ≤ s.2.2 then (
  some M) else (
  if sg_ib s.2.2 (Yr.2.2.1 (Yr.2.2.2 s.1 27)) = true then
  sg_m (M.1 (Yr.2.2.2 s.1 27) (s.2.2).toNatClampNeg) (fun x1 : Int32 =>
  if sg_ib ((15 : Int32) + x1) (Yr.2.2.1 (Yr.2.2.2 s.1 1)) = true then
  sg_m (M.1 (Yr.2.2.2 s.1 1) (((15 : Int32) + x1)).toNatClampNeg) (fun x2 : Int32 =>
  if sg_ib ((6 : Int32) + x1) (Yr.2.2.1 (Yr.2.2.2 s.1 1)) = true then
  if sg_ib (0 : Int32) (Yr.2.2.1 (Yr.2.2.2 s.1 29)) = true then
  if sg_ib x2 (Yr.2.2.1 (Yr.2.2.2 s.1 29)) = true then
  sg_m (if (if (M.1 (Yr.2.2.2 s.1 29) (x2).toNatClampNeg) < (M.1 (Yr.2.2.2 s.1 29) ((0 : Int32)).toNatClampNeg) then (M.1 (Yr.2.2.2 s.1 29) (x2).toNatClampNeg) else (M.1 (Yr.2.2.2 s.1 29) ((0 : Int32)).toNatClampNeg)) < (M.1 (Yr.2.2.2 s.1 1) (((6 : Int32) + x1)).toNatClampNeg) then (if (M.1 (Yr.2.2.2 s.1 29) (x2).toNatClampNeg) < (M.1 (Yr.2.2.2 s.1 29) ((0 : Int32)).toNatClampNeg) then (M.1 (Yr.2.2.2 s.1 29) (x2).toNatClampNeg) else (M.1 (Yr.2.2.2 s.1 29) ((0 : Int32)).toNatClampNeg)) else (M.1 (Yr.2.2.2 s.1 1) (((6 : Int32) + x1)).toNatClampNeg)) (fun x3 : Int32 =>
  if sg_ib x1 (Yr.2.2.1 (Yr.2.2.2 s.1 28)) = true then
  sg_m (sg_uI M (Yr.2.2.2 s.1 28) (x1).toNatClampNeg x3) (fun M4 : sg_M =>
  if sg_ib (0 : Int32) (Yr.2.2.1 (Yr.2.2.2 s.1 29)) = true then
  if sg_ib (0 : Int32) (Yr.2.2.1 (Yr.2.2.2 s.1 29)) = true then
  sg_m (sg_uI M4 (Yr.2.2.2 s.1 29) ((0 : Int32)).toNatClampNeg ((M4.1 (Yr.2.2.2 s.1 29) ((0 : Int32)).toNatClampNeg) - x3)) (fun M5 : sg_M =>
  if x2 ≤ 0 then (
  sg_m (s.2.2 + (1 : Int32)) (fun x6 : Int32 =>
  k125 (s.1, s.2.1, x6) M5)) else (
  if sg_ib x2 (Yr.2.2.1 (Yr.2.2.2 s.1 29)) = true then
  if sg_ib x2 (Yr.2.2.1 (Yr.2.2.2 s.1 29)) = true then
  sg_m (sg_uI M5 (Yr.2.2.2 s.1 29) (x2).toNatClampNeg ((M5.1 (Yr.2.2.2 s.1 29) (x2).toNatClampNeg) - x3)) (fun M7 : sg_M =>
  sg_m (s.2.2 + (1 : Int32)) (fun x8 : Int32 =>
  k125 (s.1, s.2.1, x8) M7))
  else none
  else none))
  else none
  else none)
  else none)
  else none
  else none
  else none)
  else none)
  else none)
def gX11_draws_125 (N : Nat)  : (Nat × Int32 × Int32) → sg_M → Option (sg_M) := sg_lp (bX11_draws_125 N ) N
set_option maxHeartbeats 4000000 in
set_option maxRecDepth 100000 in
theorem tX11_draws_125 {ad : Nat → Nat} {X : sg_X} {N : Nat} {r : sg_M} (C : sg_C Yr ad X cX11_draws RX11 7 2) (E : sg_eV Yr ad X cX11_draws r)  : ∀ (s : Nat × Int32 × Int32) (M : sg_M), gX11_draws_125 N s M = some r → sg_K Yr s.1 11 → sg_T Yr ad X 7 125 [(0, .ref (ad (s.1))), (2, .int (s.2.1)), (3, .int (s.2.2))] [] M := by
  have key : ∀ n : Nat, ∀ (s : Nat × Int32 × Int32) (M : sg_M), sg_lp (bX11_draws_125 N) n s M = some r → sg_K Yr s.1 11 → sg_T Yr ad X 7 125 [(0, .ref (ad (s.1))), (2, .int (s.2.1)), (3, .int (s.2.2))] [] M := by
    intro n
    induction n with
    | zero => intro s M h; cases h
    | succ n ih =>
      intro s M h hq0
      have h : bX11_draws_125 N (sg_lp (bX11_draws_125 N) n) s M = some r := h
      generalize sg_lp (bX11_draws_125 N) n = k125 at h ih
      have hk125 := ih
      unfold bX11_draws_125 at h
      refine i_iload_n C dX11_draws_125 2 rfl ?_
      refine i_iload_n C dX11_draws_126 1 rfl ?_
      refine s_icmp_ge C 224 (by decide) dX11_draws_127 h (fun _ h => ?_) (fun _ h => ?_)
      · exact s_vret C E dX11_draws_224 h
      · refine i_aload_n C dX11_draws_130 0 rfl ?_
        refine gf11_54 C hq0 dX11_draws_131 ?_
        refine i_iload_n C dX11_draws_134 2 rfl ?_
        refine s_iald C (ky11_27 hq0) dX11_draws_135 h (fun h => ?_)
        refine z_gi h (fun x1 h => ?_)
        refine i_istore (lv9 := [(4, _), (0, _), (2, _), (3, _)]) C dX11_draws_136 (by decide) rfl ?_
        refine i_aload_n C dX11_draws_138 1 rfl ?_
        refine gf11_9 C hq0 dX11_draws_139 ?_
        refine s_bipush C (15 : Int32) dX11_draws_142 (by decide) ?_
        refine i_iload C dX11_draws_144 0 rfl ?_
        refine s_iadd C dX11_draws_146 ?_
        refine s_iald C (ky11_1 hq0) dX11_draws_147 h (fun h => ?_)
        refine z_gi h (fun x2 h => ?_)
        refine i_istore (lv9 := [(5, _), (4, _), (0, _), (2, _), (3, _)]) C dX11_draws_148 (by decide) rfl ?_
        refine i_aload_n C dX11_draws_150 2 rfl ?_
        refine gf11_9 C hq0 dX11_draws_151 ?_
        refine s_bipush C (6 : Int32) dX11_draws_154 (by decide) ?_
        refine i_iload C dX11_draws_156 1 rfl ?_
        refine s_iadd C dX11_draws_158 ?_
        refine s_iald C (ky11_1 hq0) dX11_draws_159 h (fun h => ?_)
        refine i_aload_n C dX11_draws_160 2 rfl ?_
        refine gf11_60 C hq0 dX11_draws_161 ?_
        refine s_iconst C (0 : Int32) dX11_draws_164 (by decide) ?_
        refine s_iald C (ky11_29 hq0) dX11_draws_165 h (fun h => ?_)
        refine i_aload_n C dX11_draws_166 2 rfl ?_
        refine gf11_60 C hq0 dX11_draws_167 ?_
        refine i_iload C dX11_draws_170 0 rfl ?_
        refine s_iald C (ky11_29 hq0) dX11_draws_172 h (fun h => ?_)
        refine s_mmin C (by decide) mmin_X11_119 mmin_1 math_2 mmin_3 (Nat.le_of_ble_eq_true rfl) dX11_draws_173 ?_
        refine s_mmin C (by decide) mmin_X11_119 mmin_1 math_2 mmin_3 (Nat.le_of_ble_eq_true rfl) dX11_draws_176 ?_
        refine z_gi h (fun x3 h => ?_)
        refine i_istore (lv9 := [(6, _), (5, _), (4, _), (0, _), (2, _), (3, _)]) C dX11_draws_179 (by decide) rfl ?_
        refine i_aload_n C dX11_draws_181 3 rfl ?_
        refine gf11_57 C hq0 dX11_draws_182 ?_
        refine i_iload C dX11_draws_185 2 rfl ?_
        refine i_iload C dX11_draws_187 0 rfl ?_
        refine s_iast C (ky11_28 hq0) dX11_draws_189 h (fun h => ?_)
        refine z_gM h (fun M4 h => ?_)
        refine i_aload_n C dX11_draws_190 3 rfl ?_
        refine gf11_60 C hq0 dX11_draws_191 ?_
        refine s_iconst C (0 : Int32) dX11_draws_194 (by decide) ?_
        refine s_dup2 C dX11_draws_195 rfl rfl ?_
        refine s_iald C (ky11_29 hq0) dX11_draws_196 h (fun h => ?_)
        refine i_iload C dX11_draws_197 0 rfl ?_
        refine s_isub C dX11_draws_199 ?_
        refine s_iast C (ky11_29 hq0) dX11_draws_200 h (fun h => ?_)
        refine z_gM h (fun M5 h => ?_)
        refine i_iload C dX11_draws_201 1 rfl ?_
        refine s_if_le C 218 (by decide) dX11_draws_203 h (fun _ h => ?_) (fun _ h => ?_)
        · refine z_iinc (n := 1) (c9 := (1 : Int32)) (by decide) h (fun x6 hx h => ?_)
          refine i_iinc (lv9 := [(3, _), (6, _), (5, _), (4, _), (0, _), (2, _)]) C dX11_draws_218 5 rfl hx (by decide) rfl ?_
          refine s_goto C 125 (by decide) dX11_draws_221 ?_
          exact sg_T.to (hk125 _ _ h hq0) [4, 5, 0] rfl
        · refine i_aload_n C dX11_draws_206 3 rfl ?_
          refine gf11_60 C hq0 dX11_draws_207 ?_
          refine i_iload C dX11_draws_210 1 rfl ?_
          refine s_dup2 C dX11_draws_212 rfl rfl ?_
          refine s_iald C (ky11_29 hq0) dX11_draws_213 h (fun h => ?_)
          refine i_iload C dX11_draws_214 0 rfl ?_
          refine s_isub C dX11_draws_216 ?_
          refine s_iast C (ky11_29 hq0) dX11_draws_217 h (fun h => ?_)
          refine z_gM h (fun M7 h => ?_)
          refine z_iinc (n := 1) (c9 := (1 : Int32)) (by decide) h (fun x8 hx h => ?_)
          refine i_iinc (lv9 := [(3, _), (6, _), (5, _), (4, _), (0, _), (2, _)]) C dX11_draws_218 5 rfl hx (by decide) rfl ?_
          refine s_goto C 125 (by decide) dX11_draws_221 ?_
          exact sg_T.to (hk125 _ _ h hq0) [4, 5, 0] rfl
  exact key N
def bX11_draws_97 (N : Nat)  (k97 : (Nat × Int32 × Int32) → sg_M → Option (sg_M)) (s : Nat × Int32 × Int32) (M : sg_M) : Option (sg_M) :=
  if (4 : Int32) ≤ s.2.2 then (
  sg_m (0 : Int32) (fun x9 : Int32 =>
  gX11_draws_125 N (s.1, s.2.1, x9) M)) else (
  if sg_ib ((24 : Int32) + s.2.2) (Yr.2.2.1 (Yr.2.2.2 s.1 1)) = true then
  if sg_ib s.2.2 (Yr.2.2.1 (Yr.2.2.2 s.1 29)) = true then
  sg_m (sg_uI M (Yr.2.2.2 s.1 29) (s.2.2).toNatClampNeg (M.1 (Yr.2.2.2 s.1 1) (((24 : Int32) + s.2.2)).toNatClampNeg)) (fun M10 : sg_M =>
  sg_m (s.2.2 + (1 : Int32)) (fun x11 : Int32 =>
  k97 (s.1, s.2.1, x11) M10))
  else none
  else none)
def gX11_draws_97 (N : Nat)  : (Nat × Int32 × Int32) → sg_M → Option (sg_M) := sg_lp (bX11_draws_97 N ) N
set_option maxHeartbeats 4000000 in
set_option maxRecDepth 100000 in
theorem tX11_draws_97 {ad : Nat → Nat} {X : sg_X} {N : Nat} {r : sg_M} (C : sg_C Yr ad X cX11_draws RX11 7 2) (E : sg_eV Yr ad X cX11_draws r)  : ∀ (s : Nat × Int32 × Int32) (M : sg_M), gX11_draws_97 N s M = some r → sg_K Yr s.1 11 → sg_T Yr ad X 7 97 [(0, .ref (ad (s.1))), (2, .int (s.2.1)), (3, .int (s.2.2))] [] M := by
  have key : ∀ n : Nat, ∀ (s : Nat × Int32 × Int32) (M : sg_M), sg_lp (bX11_draws_97 N) n s M = some r → sg_K Yr s.1 11 → sg_T Yr ad X 7 97 [(0, .ref (ad (s.1))), (2, .int (s.2.1)), (3, .int (s.2.2))] [] M := by
    intro n
    induction n with
    | zero => intro s M h; cases h
    | succ n ih =>
      intro s M h hq0
      have h : bX11_draws_97 N (sg_lp (bX11_draws_97 N) n) s M = some r := h
      generalize sg_lp (bX11_draws_97 N) n = k97 at h ih
      have hk97 := ih
      unfold bX11_draws_97 at h
      refine i_iload_n C dX11_draws_97 2 rfl ?_
      refine s_iconst C (4 : Int32) dX11_draws_98 (by decide) ?_
      refine s_icmp_ge C 123 (by decide) dX11_draws_99 h (fun _ h => ?_) (fun _ h => ?_)
      · refine s_iconst C (0 : Int32) dX11_draws_123 (by decide) ?_
        refine z_gi h (fun x9 h => ?_)
        refine i_istore_n (lv9 := [(3, _), (0, _), (2, _)]) C 3 dX11_draws_124 rfl (by decide) rfl ?_
        exact sg_T.to (tX11_draws_125 C E _ _ h hq0) [1, 2, 0] rfl
      · refine i_aload_n C dX11_draws_102 0 rfl ?_
        refine gf11_60 C hq0 dX11_draws_103 ?_
        refine i_iload_n C dX11_draws_106 2 rfl ?_
        refine i_aload_n C dX11_draws_107 0 rfl ?_
        refine gf11_9 C hq0 dX11_draws_108 ?_
        refine s_bipush C (24 : Int32) dX11_draws_111 (by decide) ?_
        refine i_iload_n C dX11_draws_113 2 rfl ?_
        refine s_iadd C dX11_draws_114 ?_
        refine s_iald C (ky11_1 hq0) dX11_draws_115 h (fun h => ?_)
        refine s_iast C (ky11_29 hq0) dX11_draws_116 h (fun h => ?_)
        refine z_gM h (fun M10 h => ?_)
        refine z_iinc (n := 1) (c9 := (1 : Int32)) (by decide) h (fun x11 hx h => ?_)
        refine i_iinc (lv9 := [(3, _), (0, _), (2, _)]) C dX11_draws_117 2 rfl hx (by decide) rfl ?_
        refine s_goto C 97 (by decide) dX11_draws_120 ?_
        exact sg_T.to (hk97 _ _ h hq0) [1, 2, 0] rfl
  exact key N
def gX11_draws_78 (N : Nat) (k4 : (Nat × Int32 × Int32 × Int32) → sg_M → Option (sg_M)) (a0_ : Nat) (x1_ : Int32) (x2_ : Int32) (x3_ : Int32) (x4_ : Int32) (M : sg_M) : Option (sg_M) :=
  if sg_ib x4_ (Yr.2.2.1 (Yr.2.2.2 a0_ 27)) = true then
  sg_m (sg_uI M (Yr.2.2.2 a0_ 27) (x4_).toNatClampNeg x3_) (fun M12 : sg_M =>
  sg_m (x2_ + (1 : Int32)) (fun x13 : Int32 =>
  sg_m (x3_ + (1 : Int32)) (fun x14 : Int32 =>
  k4 (a0_, x1_, x13, x14) M12)))
  else none
set_option maxHeartbeats 4000000 in
set_option maxRecDepth 100000 in
theorem tX11_draws_78 {ad : Nat → Nat} {X : sg_X} {N : Nat} {r : sg_M} (C : sg_C Yr ad X cX11_draws RX11 7 2) (E : sg_eV Yr ad X cX11_draws r) {k4 : (Nat × Int32 × Int32 × Int32) → sg_M → Option (sg_M)} (hk4 : ∀ (s : Nat × Int32 × Int32 × Int32) (M : sg_M), k4 s M = some r → sg_K Yr s.1 11 → sg_T Yr ad X 7 4 [(0, .ref (ad (s.1))), (1, .int (s.2.1)), (2, .int (s.2.2.1)), (3, .int (s.2.2.2))] [] M) : ∀ (a0_ : Nat) (x1_ : Int32) (x2_ : Int32) (x3_ : Int32) (x4_ : Int32) (M : sg_M), gX11_draws_78 N k4 a0_ x1_ x2_ x3_ x4_ M = some r → sg_K Yr a0_ 11 → sg_T Yr ad X 7 78 [(0, .ref (ad a0_)), (1, .int x1_), (2, .int x2_), (3, .int x3_), (4, .int x4_)] [] M := by
  intro a0_ x1_ x2_ x3_ x4_ M h hq0
  unfold gX11_draws_78 at h
  refine i_aload_n C dX11_draws_78 0 rfl ?_
  refine gf11_54 C hq0 dX11_draws_79 ?_
  refine i_iload C dX11_draws_82 4 rfl ?_
  refine i_iload_n C dX11_draws_84 3 rfl ?_
  refine s_iast C (ky11_27 hq0) dX11_draws_85 h (fun h => ?_)
  refine z_gM h (fun M12 h => ?_)
  refine z_iinc (n := 1) (c9 := (1 : Int32)) (by decide) h (fun x13 hx h => ?_)
  refine i_iinc (lv9 := [(2, _), (0, _), (1, _), (3, _), (4, _)]) C dX11_draws_86 2 rfl hx (by decide) rfl ?_
  refine z_iinc (n := 1) (c9 := (1 : Int32)) (by decide) h (fun x14 hx h => ?_)
  refine i_iinc (lv9 := [(3, _), (2, _), (0, _), (1, _), (4, _)]) C dX11_draws_89 3 rfl hx (by decide) rfl ?_
  refine s_goto C 4 (by decide) dX11_draws_92 ?_
  exact sg_T.to (hk4 _ _ h hq0) [2, 3, 1, 0] rfl
def bX11_draws_33 (N : Nat) (k4 : (Nat × Int32 × Int32 × Int32) → sg_M → Option (sg_M)) (k33 : (Nat × Int32 × Int32 × Int32 × Int32) → sg_M → Option (sg_M)) (s : Nat × Int32 × Int32 × Int32 × Int32) (M : sg_M) : Option (sg_M) :=
  if s.2.2.2.2 ≤ 0 then (
  gX11_draws_78 N k4 s.1 s.2.1 s.2.2.1 s.2.2.2.1 s.2.2.2.2 M) else (
  if sg_ib (s.2.2.2.2 - (1 : Int32)) (Yr.2.2.1 (Yr.2.2.2 s.1 27)) = true then
  sg_b (fX11_isAhead N s.1 s.2.1 s.2.2.2.1 (M.1 (Yr.2.2.2 s.1 27) ((s.2.2.2.2 - (1 : Int32))).toNatClampNeg) M) (fun (x16 : Int32) (M15 : sg_M) =>
  if x16 = 0 then (
  gX11_draws_78 N k4 s.1 s.2.1 s.2.2.1 s.2.2.2.1 s.2.2.2.2 M15) else (
  if sg_ib (s.2.2.2.2 - (1 : Int32)) (Yr.2.2.1 (Yr.2.2.2 s.1 27)) = true then
  if sg_ib s.2.2.2.2 (Yr.2.2.1 (Yr.2.2.2 s.1 27)) = true then
  sg_m (sg_uI M15 (Yr.2.2.2 s.1 27) (s.2.2.2.2).toNatClampNeg (M15.1 (Yr.2.2.2 s.1 27) ((s.2.2.2.2 - (1 : Int32))).toNatClampNeg)) (fun M17 : sg_M =>
  sg_m (s.2.2.2.2 + (-1 : Int32)) (fun x18 : Int32 =>
  k33 (s.1, s.2.1, s.2.2.1, s.2.2.2.1, x18) M17))
  else none
  else none))
  else none)
def gX11_draws_33 (N : Nat) (k4 : (Nat × Int32 × Int32 × Int32) → sg_M → Option (sg_M)) : (Nat × Int32 × Int32 × Int32 × Int32) → sg_M → Option (sg_M) := sg_lp (bX11_draws_33 N k4) N
set_option maxHeartbeats 4000000 in
set_option maxRecDepth 100000 in
theorem tX11_draws_33 {ad : Nat → Nat} {X : sg_X} {N : Nat} {r : sg_M} (C : sg_C Yr ad X cX11_draws RX11 7 2) (E : sg_eV Yr ad X cX11_draws r) {k4 : (Nat × Int32 × Int32 × Int32) → sg_M → Option (sg_M)} (hk4 : ∀ (s : Nat × Int32 × Int32 × Int32) (M : sg_M), k4 s M = some r → sg_K Yr s.1 11 → sg_T Yr ad X 7 4 [(0, .ref (ad (s.1))), (1, .int (s.2.1)), (2, .int (s.2.2.1)), (3, .int (s.2.2.2))] [] M) : ∀ (s : Nat × Int32 × Int32 × Int32 × Int32) (M : sg_M), gX11_draws_33 N k4 s M = some r → sg_K Yr s.1 11 → sg_T Yr ad X 7 33 [(0, .ref (ad (s.1))), (1, .int (s.2.1)), (2, .int (s.2.2.1)), (3, .int (s.2.2.2.1)), (4, .int (s.2.2.2.2))] [] M := by
  have key : ∀ n : Nat, ∀ (s : Nat × Int32 × Int32 × Int32 × Int32) (M : sg_M), sg_lp (bX11_draws_33 N k4) n s M = some r → sg_K Yr s.1 11 → sg_T Yr ad X 7 33 [(0, .ref (ad (s.1))), (1, .int (s.2.1)), (2, .int (s.2.2.1)), (3, .int (s.2.2.2.1)), (4, .int (s.2.2.2.2))] [] M := by
    intro n
    induction n with
    | zero => intro s M h; cases h
    | succ n ih =>
      intro s M h hq0
      have h : bX11_draws_33 N k4 (sg_lp (bX11_draws_33 N k4) n) s M = some r := h
      generalize sg_lp (bX11_draws_33 N k4) n = k33 at h ih
      have hk33 := ih
      unfold bX11_draws_33 at h
      refine i_iload C dX11_draws_33 4 rfl ?_
      refine s_if_le C 78 (by decide) dX11_draws_35 h (fun _ h => ?_) (fun _ h => ?_)
      · exact sg_T.to (tX11_draws_78 C E hk4 _ _ _ _ _ _ h hq0) [0, 1, 2, 3, 4] rfl
      · refine i_aload_n C dX11_draws_38 0 rfl ?_
        refine i_iload_n C dX11_draws_39 1 rfl ?_
        refine i_iload_n C dX11_draws_40 3 rfl ?_
        refine i_aload_n C dX11_draws_41 0 rfl ?_
        refine gf11_54 C hq0 dX11_draws_42 ?_
        refine i_iload C dX11_draws_45 4 rfl ?_
        refine s_iconst C (1 : Int32) dX11_draws_47 (by decide) ?_
        refine s_isub C dX11_draws_48 ?_
        refine s_iald C (ky11_27 hq0) dX11_draws_49 h (fun h => ?_)
        refine s_vcI C [_, _, _] vmX11_isAhead lkX11_343 rfl rfl (by decide) hq0 (by decide) rfl rfl (Nat.le_of_ble_eq_true rfl) dX11_draws_50 (ctX11_isAhead C.inj hq0) h (fun x16 M15 h => ?_)
        refine s_if_eq C 78 (by decide) dX11_draws_53 h (fun _ h => ?_) (fun _ h => ?_)
        · exact sg_T.to (tX11_draws_78 C E hk4 _ _ _ _ _ _ h hq0) [0, 1, 2, 3, 4] rfl
        · refine i_aload_n C dX11_draws_56 0 rfl ?_
          refine gf11_54 C hq0 dX11_draws_57 ?_
          refine i_iload C dX11_draws_60 4 rfl ?_
          refine i_aload_n C dX11_draws_62 0 rfl ?_
          refine gf11_54 C hq0 dX11_draws_63 ?_
          refine i_iload C dX11_draws_66 4 rfl ?_
          refine s_iconst C (1 : Int32) dX11_draws_68 (by decide) ?_
          refine s_isub C dX11_draws_69 ?_
          refine s_iald C (ky11_27 hq0) dX11_draws_70 h (fun h => ?_)
          refine s_iast C (ky11_27 hq0) dX11_draws_71 h (fun h => ?_)
          refine z_gM h (fun M17 h => ?_)
          refine z_iinc (n := -1) (c9 := (-1 : Int32)) (by decide) h (fun x18 hx h => ?_)
          refine i_iinc (lv9 := [(4, _), (0, _), (1, _), (2, _), (3, _)]) C dX11_draws_72 4 rfl hx (by decide) rfl ?_
          refine s_goto C 33 (by decide) dX11_draws_75 ?_
          exact sg_T.to (hk33 _ _ h hq0) [1, 2, 3, 4, 0] rfl
  exact key N
def bX11_draws_4 (N : Nat)  (k4 : (Nat × Int32 × Int32 × Int32) → sg_M → Option (sg_M)) (s : Nat × Int32 × Int32 × Int32) (M : sg_M) : Option (sg_M) :=
  sg_b (fX11_nodes N s.1 M) (fun (x20 : Int32) (M19 : sg_M) =>
  if x20 ≤ s.2.2.2 then (
  sg_m (0 : Int32) (fun x21 : Int32 =>
  gX11_draws_97 N (s.1, s.2.2.1, x21) M19)) else (
  if sg_ib s.2.2.2 (Yr.2.2.1 (Yr.2.2.2 s.1 28)) = true then
  sg_m (sg_uI M19 (Yr.2.2.2 s.1 28) (s.2.2.2).toNatClampNeg (0 : Int32)) (fun M22 : sg_M =>
  sg_b (fX11_isDead N s.1 s.2.2.2 M22) (fun (x24 : Int32) (M23 : sg_M) =>
  if x24 = 0 then (
  sg_m s.2.2.1 (fun x25 : Int32 =>
  gX11_draws_33 N k4 (s.1, s.2.1, s.2.2.1, s.2.2.2, x25) M23)) else (
  sg_m (s.2.2.2 + (1 : Int32)) (fun x26 : Int32 =>
  k4 (s.1, s.2.1, s.2.2.1, x26) M23))))
  else none))
def gX11_draws_4 (N : Nat)  : (Nat × Int32 × Int32 × Int32) → sg_M → Option (sg_M) := sg_lp (bX11_draws_4 N ) N
set_option maxHeartbeats 4000000 in
set_option maxRecDepth 100000 in
theorem tX11_draws_4 {ad : Nat → Nat} {X : sg_X} {N : Nat} {r : sg_M} (C : sg_C Yr ad X cX11_draws RX11 7 2) (E : sg_eV Yr ad X cX11_draws r)  : ∀ (s : Nat × Int32 × Int32 × Int32) (M : sg_M), gX11_draws_4 N s M = some r → sg_K Yr s.1 11 → sg_T Yr ad X 7 4 [(0, .ref (ad (s.1))), (1, .int (s.2.1)), (2, .int (s.2.2.1)), (3, .int (s.2.2.2))] [] M := by
  have key : ∀ n : Nat, ∀ (s : Nat × Int32 × Int32 × Int32) (M : sg_M), sg_lp (bX11_draws_4 N) n s M = some r → sg_K Yr s.1 11 → sg_T Yr ad X 7 4 [(0, .ref (ad (s.1))), (1, .int (s.2.1)), (2, .int (s.2.2.1)), (3, .int (s.2.2.2))] [] M := by
    intro n
    induction n with
    | zero => intro s M h; cases h
    | succ n ih =>
      intro s M h hq0
      have h : bX11_draws_4 N (sg_lp (bX11_draws_4 N) n) s M = some r := h
      generalize sg_lp (bX11_draws_4 N) n = k4 at h ih
      have hk4 := ih
      unfold bX11_draws_4 at h
      refine i_iload_n C dX11_draws_4 3 rfl ?_
      refine i_aload_n C dX11_draws_5 0 rfl ?_
      refine s_vcI C [] vmX11_nodes lkX11_98 rfl rfl (by decide) hq0 (by decide) rfl rfl (Nat.le_of_ble_eq_true rfl) dX11_draws_6 (ctX11_nodes C.inj hq0) h (fun x20 M19 h => ?_)
      refine s_icmp_ge C 95 (by decide) dX11_draws_9 h (fun _ h => ?_) (fun _ h => ?_)
      · refine s_iconst C (0 : Int32) dX11_draws_95 (by decide) ?_
        refine z_gi h (fun x21 h => ?_)
        refine i_istore_n (lv9 := [(3, _), (0, _), (1, _), (2, _)]) C 3 dX11_draws_96 rfl (by decide) rfl ?_
        exact sg_T.to (tX11_draws_97 C E _ _ h hq0) [1, 3, 0] rfl
      · refine i_aload_n C dX11_draws_12 0 rfl ?_
        refine gf11_57 C hq0 dX11_draws_13 ?_
        refine i_iload_n C dX11_draws_16 3 rfl ?_
        refine s_iconst C (0 : Int32) dX11_draws_17 (by decide) ?_
        refine s_iast C (ky11_28 hq0) dX11_draws_18 h (fun h => ?_)
        refine z_gM h (fun M22 h => ?_)
        refine i_aload_n C dX11_draws_19 0 rfl ?_
        refine i_iload_n C dX11_draws_20 3 rfl ?_
        refine s_vcI C [_] vmX11_isDead lkX11_288 rfl rfl (by decide) hq0 (by decide) rfl rfl (Nat.le_of_ble_eq_true rfl) dX11_draws_21 (ctX11_isDead C.inj hq0) h (fun x24 M23 h => ?_)
        refine s_if_eq C 30 (by decide) dX11_draws_24 h (fun _ h => ?_) (fun _ h => ?_)
        · refine i_iload_n C dX11_draws_30 2 rfl ?_
          refine z_gi h (fun x25 h => ?_)
          refine i_istore (lv9 := [(4, _), (0, _), (1, _), (2, _), (3, _)]) C dX11_draws_31 (by decide) rfl ?_
          exact sg_T.to (tX11_draws_33 C E hk4 _ _ h hq0) [1, 2, 3, 4, 0] rfl
        · refine s_goto C 89 (by decide) dX11_draws_27 ?_
          refine z_iinc (n := 1) (c9 := (1 : Int32)) (by decide) h (fun x26 hx h => ?_)
          refine i_iinc (lv9 := [(3, _), (0, _), (1, _), (2, _)]) C dX11_draws_89 3 rfl hx (by decide) rfl ?_
          refine s_goto C 4 (by decide) dX11_draws_92 ?_
          exact sg_T.to (hk4 _ _ h hq0) [1, 2, 3, 0] rfl
  exact key N
def fX11_draws (N : Nat) (a0_ : Nat) (x1_ : Int32) (M : sg_M) : Option (sg_M) :=
  sg_m (0 : Int32) (fun x27 : Int32 =>
  sg_m (0 : Int32) (fun x28 : Int32 =>
  gX11_draws_4 N (a0_, x1_, x27, x28) M))
set_option maxHeartbeats 4000000 in
set_option maxRecDepth 100000 in
theorem tX11_draws {ad : Nat → Nat} {X : sg_X} {N : Nat} {r : sg_M} (C : sg_C Yr ad X cX11_draws RX11 7 2) (E : sg_eV Yr ad X cX11_draws r) : ∀ (a0_ : Nat) (x1_ : Int32) (M : sg_M), sg_K Yr a0_ 11 → fX11_draws N a0_ x1_ M = some r → sg_T Yr ad X 7 0 [(0, .ref (ad a0_)), (1, .int x1_)] [] M := by
  intro a0_ x1_ M hq0 h
  unfold fX11_draws at h
  refine s_iconst C (0 : Int32) dX11_draws_0 (by decide) ?_
  refine z_gi h (fun x27 h => ?_)
  refine i_istore_n (lv9 := [(2, _), (0, _), (1, _)]) C 2 dX11_draws_1 rfl (by decide) rfl ?_
  refine s_iconst C (0 : Int32) dX11_draws_2 (by decide) ?_
  refine z_gi h (fun x28 h => ?_)
  refine i_istore_n (lv9 := [(3, _), (2, _), (0, _), (1, _)]) C 3 dX11_draws_3 rfl (by decide) rfl ?_
  exact sg_T.to (tX11_draws_4 C E _ _ h hq0) [2, 3, 1, 0] rfl
theorem ctX11_draws {ad : Nat → Nat} {V : sg_V} {N : Nat} (hi : sg_inj Yr ad) {a0_ : Nat} {x1_ : Int32} {M : sg_M} (hq0 : sg_K Yr a0_ 11) : ∀ res, fX11_draws N a0_ x1_ M = some res → sg_cV Yr ad V yX11_draws cX11_draws 7 2 [.ref (ad a0_), .int x1_] M res := fun res h => sg_bodyV (by decide) hi (Nat.le_of_ble_eq_true rfl) (fun X hX C E => by subst hX; exact tX11_draws C E _ _  _ hq0 h)
def bX11_mostOf_10 (N : Nat)  (k10 : (Nat × Int32 × Int64 × Int32) → sg_M → Option (Int64 × sg_M)) (s : Nat × Int32 × Int64 × Int32) (M : sg_M) : Option (Int64 × sg_M) :=
  sg_b (fX11_nodes N s.1 M) (fun (x2 : Int32) (M1 : sg_M) =>
  if x2 ≤ s.2.2.2 then (
  some (s.2.2.1, M1)) else (
  sg_b (fX11_movesOf N s.1 s.2.1 s.2.2.2 M1) (fun (x4 : Int64) (M3 : sg_M) =>
  if sg_ib s.2.2.2 (Yr.2.2.1 (Yr.2.2.2 s.1 28)) = true then
  sg_m (s.2.2.1 + (x4 * ((M3.1 (Yr.2.2.2 s.1 28) (s.2.2.2).toNatClampNeg)).toInt64)) (fun x5 : Int64 =>
  sg_m (s.2.2.2 + (1 : Int32)) (fun x6 : Int32 =>
  k10 (s.1, s.2.1, x5, x6) M3))
  else none)))
def gX11_mostOf_10 (N : Nat)  : (Nat × Int32 × Int64 × Int32) → sg_M → Option (Int64 × sg_M) := sg_lp (bX11_mostOf_10 N ) N
set_option maxHeartbeats 4000000 in
set_option maxRecDepth 100000 in
theorem tX11_mostOf_10 {ad : Nat → Nat} {X : sg_X} {N : Nat} {r : Int64 × sg_M} (C : sg_C Yr ad X cX11_mostOf RX11 5 3) (E : sg_eL Yr ad X cX11_mostOf r)  : ∀ (s : Nat × Int32 × Int64 × Int32) (M : sg_M), gX11_mostOf_10 N s M = some r → sg_K Yr s.1 11 → sg_T Yr ad X 5 10 [(0, .ref (ad (s.1))), (1, .int (s.2.1)), (2, .long (s.2.2.1)), (4, .int (s.2.2.2))] [] M := by
  have key : ∀ n : Nat, ∀ (s : Nat × Int32 × Int64 × Int32) (M : sg_M), sg_lp (bX11_mostOf_10 N) n s M = some r → sg_K Yr s.1 11 → sg_T Yr ad X 5 10 [(0, .ref (ad (s.1))), (1, .int (s.2.1)), (2, .long (s.2.2.1)), (4, .int (s.2.2.2))] [] M := by
    intro n
    induction n with
    | zero => intro s M h; cases h
    | succ n ih =>
      intro s M h hq0
      have h : bX11_mostOf_10 N (sg_lp (bX11_mostOf_10 N) n) s M = some r := h
      generalize sg_lp (bX11_mostOf_10 N) n = k10 at h ih
      have hk10 := ih
      unfold bX11_mostOf_10 at h
      refine i_iload C dX11_mostOf_10 3 rfl ?_
      refine i_aload_n C dX11_mostOf_12 0 rfl ?_
      refine s_vcI C [] vmX11_nodes lkX11_98 rfl rfl (by decide) hq0 (by decide) rfl rfl (Nat.le_of_ble_eq_true rfl) dX11_mostOf_13 (ctX11_nodes C.inj hq0) h (fun x2 M1 h => ?_)
      refine s_icmp_ge C 44 (by decide) dX11_mostOf_16 h (fun _ h => ?_) (fun _ h => ?_)
      · refine i_lload_n C dX11_mostOf_44 2 rfl ?_
        exact s_lret C E dX11_mostOf_45 h
      · refine i_lload_n C dX11_mostOf_19 2 rfl ?_
        refine i_aload_n C dX11_mostOf_20 0 rfl ?_
        refine i_iload_n C dX11_mostOf_21 1 rfl ?_
        refine i_iload C dX11_mostOf_22 3 rfl ?_
        refine s_vcL C [_, _] vmX11_movesOf lkX11_278 rfl rfl (by decide) hq0 (by decide) rfl rfl (Nat.le_of_ble_eq_true rfl) dX11_mostOf_24 (ctX11_movesOf C.inj hq0) h (fun x4 M3 h => ?_)
        refine i_aload_n C dX11_mostOf_27 0 rfl ?_
        refine gf11_57 C hq0 dX11_mostOf_28 ?_
        refine i_iload C dX11_mostOf_31 3 rfl ?_
        refine s_iald C (ky11_28 hq0) dX11_mostOf_33 h (fun h => ?_)
        refine s_i2l C dX11_mostOf_34 ?_
        refine s_lmul C dX11_mostOf_35 ?_
        refine s_ladd C dX11_mostOf_36 ?_
        refine z_gl h (fun x5 h => ?_)
        refine i_lstore_n (lv9 := [(2, _), (0, _), (1, _), (4, _)]) C 2 dX11_mostOf_37 rfl (by decide) rfl ?_
        refine z_iinc (n := 1) (c9 := (1 : Int32)) (by decide) h (fun x6 hx h => ?_)
        refine i_iinc (lv9 := [(4, _), (2, _), (0, _), (1, _)]) C dX11_mostOf_38 3 rfl hx (by decide) rfl ?_
        refine s_goto C 10 (by decide) dX11_mostOf_41 ?_
        exact sg_T.to (hk10 _ _ h hq0) [2, 3, 1, 0] rfl
  exact key N
def fX11_mostOf (N : Nat) (a0_ : Nat) (x1_ : Int32) (M : sg_M) : Option (Int64 × sg_M) :=
  sg_bv (fX11_draws N a0_ x1_ M) (fun M7 : sg_M =>
  sg_m (0 : Int64) (fun x8 : Int64 =>
  sg_m (0 : Int32) (fun x9 : Int32 =>
  gX11_mostOf_10 N (a0_, x1_, x8, x9) M7)))
set_option maxHeartbeats 4000000 in
set_option maxRecDepth 100000 in
theorem tX11_mostOf {ad : Nat → Nat} {X : sg_X} {N : Nat} {r : Int64 × sg_M} (C : sg_C Yr ad X cX11_mostOf RX11 5 3) (E : sg_eL Yr ad X cX11_mostOf r) : ∀ (a0_ : Nat) (x1_ : Int32) (M : sg_M), sg_K Yr a0_ 11 → fX11_mostOf N a0_ x1_ M = some r → sg_T Yr ad X 5 0 [(0, .ref (ad a0_)), (1, .int x1_)] [] M := by
  intro a0_ x1_ M hq0 h
  unfold fX11_mostOf at h
  refine i_aload_n C dX11_mostOf_0 0 rfl ?_
  refine i_iload_n C dX11_mostOf_1 1 rfl ?_
  refine s_vcV C [_] vmX11_draws lkX11_347 rfl rfl (by decide) hq0 (by decide) rfl rfl (Nat.le_of_ble_eq_true rfl) dX11_mostOf_2 (ctX11_draws C.inj hq0) h (fun M7 h => ?_)
  refine s_lconst C (0 : Int64) dX11_mostOf_5 (by decide) ?_
  refine z_gl h (fun x8 h => ?_)
  refine i_lstore_n (lv9 := [(2, _), (0, _), (1, _)]) C 2 dX11_mostOf_6 rfl (by decide) rfl ?_
  refine s_iconst C (0 : Int32) dX11_mostOf_7 (by decide) ?_
  refine z_gi h (fun x9 h => ?_)
  refine i_istore (lv9 := [(4, _), (2, _), (0, _), (1, _)]) C dX11_mostOf_8 (by decide) rfl ?_
  exact sg_T.to (tX11_mostOf_10 C E _ _ h hq0) [2, 3, 1, 0] rfl
theorem ctX11_mostOf {ad : Nat → Nat} {V : sg_V} {N : Nat} (hi : sg_inj Yr ad) {a0_ : Nat} {x1_ : Int32} {M : sg_M} (hq0 : sg_K Yr a0_ 11) : ∀ res, fX11_mostOf N a0_ x1_ M = some res → sg_cL Yr ad V yX11_mostOf cX11_mostOf 5 3 [.ref (ad a0_), .int x1_] M res := fun res h => sg_bodyL (by decide) hi (Nat.le_of_ble_eq_true rfl) (fun X hX C E => by subst hX; exact tX11_mostOf C E _ _  _ hq0 h)
def fX11_most (N : Nat) (a0_ : Nat) (x1_ : Int32) (x2_ : Int32) (M : sg_M) : Option (Int64 × sg_M) :=
  sg_b (fX11_isNode N a0_ x1_ M) (fun (x2 : Int32) (M1 : sg_M) =>
  if x2 = 0 then (
  some ((-2 : Int64), M1)) else (
  sg_b (fX11_isPart N x2_ M1) (fun (x4 : Int32) (M3 : sg_M) =>
  if x4 = 0 then (
  some ((-2 : Int64), M3)) else (
  sg_bv (fX11_lays N a0_ M3) (fun M5 : sg_M =>
  sg_b (fX11_isDead N a0_ x1_ M5) (fun (x7 : Int32) (M6 : sg_M) =>
  if x7 = 0 then (
  sg_b (fX11_mostOf N a0_ x1_ M6) (fun (x9 : Int64) (M8 : sg_M) =>
  sg_b (fX11_part N x9 (M8.2 a0_ 26) x2_ M8) (fun (x11 : Int64) (M10 : sg_M) =>
  some (x11, M10)))) else (
  some ((-1 : Int64), M6))))))))
set_option maxHeartbeats 4000000 in
set_option maxRecDepth 100000 in
theorem tX11_most {ad : Nat → Nat} {X : sg_X} {N : Nat} {r : Int64 × sg_M} (C : sg_C Yr ad X cX11_most RX11 3 5) (E : sg_eL Yr ad X cX11_most r) : ∀ (a0_ : Nat) (x1_ : Int32) (x2_ : Int32) (M : sg_M), sg_K Yr a0_ 11 → fX11_most N a0_ x1_ x2_ M = some r → sg_T Yr ad X 3 0 [(0, .ref (ad a0_)), (1, .int x1_), (2, .int x2_)] [] M := by
  intro a0_ x1_ x2_ M hq0 h
  unfold fX11_most at h
  refine i_aload_n C dX11_most_0 0 rfl ?_
  refine i_iload_n C dX11_most_1 1 rfl ?_
  refine s_vcI C [_] vmX11_isNode lkX11_308 rfl rfl (by decide) hq0 (by decide) rfl rfl (Nat.le_of_ble_eq_true rfl) dX11_most_2 (ctX11_isNode C.inj hq0) h (fun x2 M1 h => ?_)
  refine s_if_eq C 15 (by decide) dX11_most_5 h (fun _ h => ?_) (fun _ h => ?_)
  · refine s_ldc2 C (-2 : Int64) kl_X11_316 dX11_most_15 ?_
    exact s_lret C E dX11_most_18 h
  · refine i_iload_n C dX11_most_8 2 rfl ?_
    refine s_scI C [_] smX11_isPart lkX11_313 (by decide) rfl rfl (Nat.le_of_ble_eq_true rfl) dX11_most_9 (ctX11_isPart C.inj ) h (fun x4 M3 h => ?_)
    refine s_if_ne C 19 (by decide) dX11_most_12 h (fun _ h => ?_) (fun _ h => ?_)
    · refine s_ldc2 C (-2 : Int64) kl_X11_316 dX11_most_15 ?_
      exact s_lret C E dX11_most_18 h
    · refine i_aload_n C dX11_most_19 0 rfl ?_
      refine s_vcV C [] vmX11_lays lkX11_292 rfl rfl (by decide) hq0 (by decide) rfl rfl (Nat.le_of_ble_eq_true rfl) dX11_most_20 (ctX11_lays C.inj hq0) h (fun M5 h => ?_)
      refine i_aload_n C dX11_most_23 0 rfl ?_
      refine i_iload_n C dX11_most_24 1 rfl ?_
      refine s_vcI C [_] vmX11_isDead lkX11_288 rfl rfl (by decide) hq0 (by decide) rfl rfl (Nat.le_of_ble_eq_true rfl) dX11_most_25 (ctX11_isDead C.inj hq0) h (fun x7 M6 h => ?_)
      refine s_if_eq C 37 (by decide) dX11_most_28 h (fun _ h => ?_) (fun _ h => ?_)
      · refine i_aload_n C dX11_most_37 0 rfl ?_
        refine i_iload_n C dX11_most_38 1 rfl ?_
        refine s_vcL C [_] vmX11_mostOf lkX11_349 rfl rfl (by decide) hq0 (by decide) rfl rfl (Nat.le_of_ble_eq_true rfl) dX11_most_39 (ctX11_mostOf C.inj hq0) h (fun x9 M8 h => ?_)
        refine i_aload_n C dX11_most_42 0 rfl ?_
        refine gf11_50 C hq0 dX11_most_43 ?_
        refine i_iload_n C dX11_most_46 2 rfl ?_
        refine s_scL C [_, _, _] smX11_part lkX11_320 (by decide) rfl rfl (Nat.le_of_ble_eq_true rfl) dX11_most_47 (ctX11_part C.inj ) h (fun x11 M10 h => ?_)
        exact s_lret C E dX11_most_50 h
      · refine s_ldc2 C (-1 : Int64) kl_X11_318 dX11_most_31 ?_
        refine s_goto C 50 (by decide) dX11_most_34 ?_
        exact s_lret C E dX11_most_50 h
theorem ctX11_most {ad : Nat → Nat} {V : sg_V} {N : Nat} (hi : sg_inj Yr ad) {a0_ : Nat} {x1_ : Int32} {x2_ : Int32} {M : sg_M} (hq0 : sg_K Yr a0_ 11) : ∀ res, fX11_most N a0_ x1_ x2_ M = some res → sg_cL Yr ad V yX11_most cX11_most 3 5 [.ref (ad a0_), .int x1_, .int x2_] M res := fun res h => sg_bodyL (by decide) hi (Nat.le_of_ble_eq_true rfl) (fun X hX C E => by subst hX; exact tX11_most C E _ _ _  _ hq0 h)
def fX11_drawn (N : Nat) (a0_ : Nat) (x1_ : Int32) (x2_ : Int32) (M : sg_M) : Option (Int32 × sg_M) :=
  sg_b (fX11_isNode N a0_ x1_ M) (fun (x2 : Int32) (M1 : sg_M) =>
  if x2 = 0 then (
  some ((-2 : Int32), M1)) else (
  sg_b (fX11_isNode N a0_ x2_ M1) (fun (x4 : Int32) (M3 : sg_M) =>
  if x4 = 0 then (
  some ((-2 : Int32), M3)) else (
  sg_bv (fX11_lays N a0_ M3) (fun M5 : sg_M =>
  sg_b (fX11_isDead N a0_ x1_ M5) (fun (x7 : Int32) (M6 : sg_M) =>
  if x7 = 0 then (
  sg_bv (fX11_draws N a0_ x1_ M6) (fun M8 : sg_M =>
  if sg_ib x2_ (Yr.2.2.1 (Yr.2.2.2 a0_ 28)) = true then
  some ((M8.1 (Yr.2.2.2 a0_ 28) (x2_).toNatClampNeg), M8)
  else none)) else (
  some ((-1 : Int32), M6))))))))
set_option maxHeartbeats 4000000 in
set_option maxRecDepth 100000 in
theorem tX11_drawn {ad : Nat → Nat} {X : sg_X} {N : Nat} {r : Int32 × sg_M} (C : sg_C Yr ad X cX11_drawn RX11 3 5) (E : sg_eI Yr ad X cX11_drawn .int r) : ∀ (a0_ : Nat) (x1_ : Int32) (x2_ : Int32) (M : sg_M), sg_K Yr a0_ 11 → fX11_drawn N a0_ x1_ x2_ M = some r → sg_T Yr ad X 3 0 [(0, .ref (ad a0_)), (1, .int x1_), (2, .int x2_)] [] M := by
  intro a0_ x1_ x2_ M hq0 h
  unfold fX11_drawn at h
  refine i_aload_n C dX11_drawn_0 0 rfl ?_
  refine i_iload_n C dX11_drawn_1 1 rfl ?_
  refine s_vcI C [_] vmX11_isNode lkX11_308 rfl rfl (by decide) hq0 (by decide) rfl rfl (Nat.le_of_ble_eq_true rfl) dX11_drawn_2 (ctX11_isNode C.inj hq0) h (fun x2 M1 h => ?_)
  refine s_if_eq C 16 (by decide) dX11_drawn_5 h (fun _ h => ?_) (fun _ h => ?_)
  · refine s_bipush C (-2 : Int32) dX11_drawn_16 (by decide) ?_
    exact s_iret C E dX11_drawn_18 h
  · refine i_aload_n C dX11_drawn_8 0 rfl ?_
    refine i_iload_n C dX11_drawn_9 2 rfl ?_
    refine s_vcI C [_] vmX11_isNode lkX11_308 rfl rfl (by decide) hq0 (by decide) rfl rfl (Nat.le_of_ble_eq_true rfl) dX11_drawn_10 (ctX11_isNode C.inj hq0) h (fun x4 M3 h => ?_)
    refine s_if_ne C 19 (by decide) dX11_drawn_13 h (fun _ h => ?_) (fun _ h => ?_)
    · refine s_bipush C (-2 : Int32) dX11_drawn_16 (by decide) ?_
      exact s_iret C E dX11_drawn_18 h
    · refine i_aload_n C dX11_drawn_19 0 rfl ?_
      refine s_vcV C [] vmX11_lays lkX11_292 rfl rfl (by decide) hq0 (by decide) rfl rfl (Nat.le_of_ble_eq_true rfl) dX11_drawn_20 (ctX11_lays C.inj hq0) h (fun M5 h => ?_)
      refine i_aload_n C dX11_drawn_23 0 rfl ?_
      refine i_iload_n C dX11_drawn_24 1 rfl ?_
      refine s_vcI C [_] vmX11_isDead lkX11_288 rfl rfl (by decide) hq0 (by decide) rfl rfl (Nat.le_of_ble_eq_true rfl) dX11_drawn_25 (ctX11_isDead C.inj hq0) h (fun x7 M6 h => ?_)
      refine s_if_eq C 33 (by decide) dX11_drawn_28 h (fun _ h => ?_) (fun _ h => ?_)
      · refine i_aload_n C dX11_drawn_33 0 rfl ?_
        refine i_iload_n C dX11_drawn_34 1 rfl ?_
        refine s_vcV C [_] vmX11_draws lkX11_347 rfl rfl (by decide) hq0 (by decide) rfl rfl (Nat.le_of_ble_eq_true rfl) dX11_drawn_35 (ctX11_draws C.inj hq0) h (fun M8 h => ?_)
        refine i_aload_n C dX11_drawn_38 0 rfl ?_
        refine gf11_57 C hq0 dX11_drawn_39 ?_
        refine i_iload_n C dX11_drawn_42 2 rfl ?_
        refine s_iald C (ky11_28 hq0) dX11_drawn_43 h (fun h => ?_)
        exact s_iret C E dX11_drawn_44 h
      · refine s_iconst C (-1 : Int32) dX11_drawn_31 (by decide) ?_
        exact s_iret C E dX11_drawn_32 h
theorem ctX11_drawn {ad : Nat → Nat} {V : sg_V} {N : Nat} (hi : sg_inj Yr ad) {a0_ : Nat} {x1_ : Int32} {x2_ : Int32} {M : sg_M} (hq0 : sg_K Yr a0_ 11) : ∀ res, fX11_drawn N a0_ x1_ x2_ M = some res → sg_cI Yr ad V yX11_drawn cX11_drawn 3 .int 5 [.ref (ad a0_), .int x1_, .int x2_] M res := fun res h => sg_bodyI (by decide) hi (Nat.le_of_ble_eq_true rfl) (fun X hX C E => by subst hX; exact tX11_drawn C E _ _ _  _ hq0 h)
def bX11_tight_34 (N : Nat)  (k34 : (Nat × Int32 × Int32) → sg_M → Option (Int32 × sg_M)) (s : Nat × Int32 × Int32) (M : sg_M) : Option (Int32 × sg_M) :=
  if (4 : Int32) ≤ s.2.2 then (
  some (s.2.1, M)) else (
  if sg_ib s.2.2 (Yr.2.2.1 (Yr.2.2.2 s.1 29)) = true then
  if (M.1 (Yr.2.2.2 s.1 29) (s.2.2).toNatClampNeg) = 0 then (
  sg_m (s.2.1 ||| ((1 : Int32) <<< (s.2.2 &&& 31))) (fun x1 : Int32 =>
  sg_m (s.2.2 + (1 : Int32)) (fun x2 : Int32 =>
  k34 (s.1, x1, x2) M))) else (
  sg_m (s.2.1 ||| (0 : Int32)) (fun x3 : Int32 =>
  sg_m (s.2.2 + (1 : Int32)) (fun x4 : Int32 =>
  k34 (s.1, x3, x4) M)))
  else none)
def gX11_tight_34 (N : Nat)  : (Nat × Int32 × Int32) → sg_M → Option (Int32 × sg_M) := sg_lp (bX11_tight_34 N ) N
set_option maxHeartbeats 4000000 in
set_option maxRecDepth 100000 in
theorem tX11_tight_34 {ad : Nat → Nat} {X : sg_X} {N : Nat} {r : Int32 × sg_M} (C : sg_C Yr ad X cX11_tight RX11 4 5) (E : sg_eI Yr ad X cX11_tight .int r)  : ∀ (s : Nat × Int32 × Int32) (M : sg_M), gX11_tight_34 N s M = some r → sg_K Yr s.1 11 → sg_T Yr ad X 4 34 [(0, .ref (ad (s.1))), (2, .int (s.2.1)), (3, .int (s.2.2))] [] M := by
  have key : ∀ n : Nat, ∀ (s : Nat × Int32 × Int32) (M : sg_M), sg_lp (bX11_tight_34 N) n s M = some r → sg_K Yr s.1 11 → sg_T Yr ad X 4 34 [(0, .ref (ad (s.1))), (2, .int (s.2.1)), (3, .int (s.2.2))] [] M := by
    intro n
    induction n with
    | zero => intro s M h; cases h
    | succ n ih =>
      intro s M h hq0
      have h : bX11_tight_34 N (sg_lp (bX11_tight_34 N) n) s M = some r := h
      generalize sg_lp (bX11_tight_34 N) n = k34 at h ih
      have hk34 := ih
      unfold bX11_tight_34 at h
      refine i_iload_n C dX11_tight_34 2 rfl ?_
      refine s_iconst C (4 : Int32) dX11_tight_35 (by decide) ?_
      refine s_icmp_ge C 64 (by decide) dX11_tight_36 h (fun _ h => ?_) (fun _ h => ?_)
      · refine i_iload_n C dX11_tight_64 1 rfl ?_
        exact s_iret C E dX11_tight_65 h
      · refine i_iload_n C dX11_tight_39 1 rfl ?_
        refine i_aload_n C dX11_tight_40 0 rfl ?_
        refine gf11_60 C hq0 dX11_tight_41 ?_
        refine i_iload_n C dX11_tight_44 2 rfl ?_
        refine s_iald C (ky11_29 hq0) dX11_tight_45 h (fun h => ?_)
        refine s_if_ne C 55 (by decide) dX11_tight_46 h (fun _ h => ?_) (fun _ h => ?_)
        · refine s_iconst C (1 : Int32) dX11_tight_49 (by decide) ?_
          refine i_iload_n C dX11_tight_50 2 rfl ?_
          refine s_ishl C dX11_tight_51 ?_
          refine s_goto C 56 (by decide) dX11_tight_52 ?_
          refine s_ior C dX11_tight_56 ?_
          refine z_gi h (fun x1 h => ?_)
          refine i_istore_n (lv9 := [(2, _), (0, _), (3, _)]) C 2 dX11_tight_57 rfl (by decide) rfl ?_
          refine z_iinc (n := 1) (c9 := (1 : Int32)) (by decide) h (fun x2 hx h => ?_)
          refine i_iinc (lv9 := [(3, _), (2, _), (0, _)]) C dX11_tight_58 2 rfl hx (by decide) rfl ?_
          refine s_goto C 34 (by decide) dX11_tight_61 ?_
          exact sg_T.to (hk34 _ _ h hq0) [2, 1, 0] rfl
        · refine s_iconst C (0 : Int32) dX11_tight_55 (by decide) ?_
          refine s_ior C dX11_tight_56 ?_
          refine z_gi h (fun x3 h => ?_)
          refine i_istore_n (lv9 := [(2, _), (0, _), (3, _)]) C 2 dX11_tight_57 rfl (by decide) rfl ?_
          refine z_iinc (n := 1) (c9 := (1 : Int32)) (by decide) h (fun x4 hx h => ?_)
          refine i_iinc (lv9 := [(3, _), (2, _), (0, _)]) C dX11_tight_58 2 rfl hx (by decide) rfl ?_
          refine s_goto C 34 (by decide) dX11_tight_61 ?_
          exact sg_T.to (hk34 _ _ h hq0) [2, 1, 0] rfl
  exact key N
def fX11_tight (N : Nat) (a0_ : Nat) (x1_ : Int32) (M : sg_M) : Option (Int32 × sg_M) :=
  sg_b (fX11_isNode N a0_ x1_ M) (fun (x6 : Int32) (M5 : sg_M) =>
  if x6 = 0 then (
  some ((-2 : Int32), M5)) else (
  sg_bv (fX11_lays N a0_ M5) (fun M7 : sg_M =>
  sg_b (fX11_isDead N a0_ x1_ M7) (fun (x9 : Int32) (M8 : sg_M) =>
  if x9 = 0 then (
  sg_bv (fX11_draws N a0_ x1_ M8) (fun M10 : sg_M =>
  sg_m (0 : Int32) (fun x11 : Int32 =>
  sg_m (0 : Int32) (fun x12 : Int32 =>
  gX11_tight_34 N (a0_, x11, x12) M10)))) else (
  some ((-1 : Int32), M8))))))
set_option maxHeartbeats 4000000 in
set_option maxRecDepth 100000 in
theorem tX11_tight {ad : Nat → Nat} {X : sg_X} {N : Nat} {r : Int32 × sg_M} (C : sg_C Yr ad X cX11_tight RX11 4 5) (E : sg_eI Yr ad X cX11_tight .int r) : ∀ (a0_ : Nat) (x1_ : Int32) (M : sg_M), sg_K Yr a0_ 11 → fX11_tight N a0_ x1_ M = some r → sg_T Yr ad X 4 0 [(0, .ref (ad a0_)), (1, .int x1_)] [] M := by
  intro a0_ x1_ M hq0 h
  unfold fX11_tight at h
  refine i_aload_n C dX11_tight_0 0 rfl ?_
  refine i_iload_n C dX11_tight_1 1 rfl ?_
  refine s_vcI C [_] vmX11_isNode lkX11_308 rfl rfl (by decide) hq0 (by decide) rfl rfl (Nat.le_of_ble_eq_true rfl) dX11_tight_2 (ctX11_isNode C.inj hq0) h (fun x6 M5 h => ?_)
  refine s_if_ne C 11 (by decide) dX11_tight_5 h (fun _ h => ?_) (fun _ h => ?_)
  · refine s_bipush C (-2 : Int32) dX11_tight_8 (by decide) ?_
    exact s_iret C E dX11_tight_10 h
  · refine i_aload_n C dX11_tight_11 0 rfl ?_
    refine s_vcV C [] vmX11_lays lkX11_292 rfl rfl (by decide) hq0 (by decide) rfl rfl (Nat.le_of_ble_eq_true rfl) dX11_tight_12 (ctX11_lays C.inj hq0) h (fun M7 h => ?_)
    refine i_aload_n C dX11_tight_15 0 rfl ?_
    refine i_iload_n C dX11_tight_16 1 rfl ?_
    refine s_vcI C [_] vmX11_isDead lkX11_288 rfl rfl (by decide) hq0 (by decide) rfl rfl (Nat.le_of_ble_eq_true rfl) dX11_tight_17 (ctX11_isDead C.inj hq0) h (fun x9 M8 h => ?_)
    refine s_if_eq C 25 (by decide) dX11_tight_20 h (fun _ h => ?_) (fun _ h => ?_)
    · refine i_aload_n C dX11_tight_25 0 rfl ?_
      refine i_iload_n C dX11_tight_26 1 rfl ?_
      refine s_vcV C [_] vmX11_draws lkX11_347 rfl rfl (by decide) hq0 (by decide) rfl rfl (Nat.le_of_ble_eq_true rfl) dX11_tight_27 (ctX11_draws C.inj hq0) h (fun M10 h => ?_)
      refine s_iconst C (0 : Int32) dX11_tight_30 (by decide) ?_
      refine z_gi h (fun x11 h => ?_)
      refine i_istore_n (lv9 := [(2, _), (0, _), (1, _)]) C 2 dX11_tight_31 rfl (by decide) rfl ?_
      refine s_iconst C (0 : Int32) dX11_tight_32 (by decide) ?_
      refine z_gi h (fun x12 h => ?_)
      refine i_istore_n (lv9 := [(3, _), (2, _), (0, _), (1, _)]) C 3 dX11_tight_33 rfl (by decide) rfl ?_
      exact sg_T.to (tX11_tight_34 C E _ _ h hq0) [2, 1, 0] rfl
    · refine s_iconst C (-1 : Int32) dX11_tight_23 (by decide) ?_
      exact s_iret C E dX11_tight_24 h
theorem ctX11_tight {ad : Nat → Nat} {V : sg_V} {N : Nat} (hi : sg_inj Yr ad) {a0_ : Nat} {x1_ : Int32} {M : sg_M} (hq0 : sg_K Yr a0_ 11) : ∀ res, fX11_tight N a0_ x1_ M = some res → sg_cI Yr ad V yX11_tight cX11_tight 4 .int 5 [.ref (ad a0_), .int x1_] M res := fun res h => sg_bodyI (by decide) hi (Nat.le_of_ble_eq_true rfl) (fun X hX C E => by subst hX; exact tX11_tight C E _ _  _ hq0 h)
def bX11_foe_19 (N : Nat)  (k19 : (Nat × Int32 × Int64 × Int32) → sg_M → Option (Int32 × sg_M)) (s : Nat × Int32 × Int64 × Int32) (M : sg_M) : Option (Int32 × sg_M) :=
  sg_b (fX11_nodes N s.1 M) (fun (x2 : Int32) (M1 : sg_M) =>
  if x2 ≤ s.2.2.2 then (
  some (s.2.1, M1)) else (
  sg_b (fX11_isDead N s.1 s.2.2.2 M1) (fun (x4 : Int32) (M3 : sg_M) =>
  if x4 = 0 then (
  sg_b (fX11_mostOf N s.1 s.2.2.2 M3) (fun (x6 : Int64) (M5 : sg_M) =>
  if 0 < (lg_cmp x6 s.2.2.1) then (
  sg_m s.2.2.2 (fun x7 : Int32 =>
  sg_b (fX11_mostOf N s.1 s.2.2.2 M5) (fun (x9 : Int64) (M8 : sg_M) =>
  sg_m x9 (fun x10 : Int64 =>
  sg_m (s.2.2.2 + (1 : Int32)) (fun x11 : Int32 =>
  k19 (s.1, x7, x10, x11) M8))))) else (
  sg_m (s.2.2.2 + (1 : Int32)) (fun x12 : Int32 =>
  k19 (s.1, s.2.1, s.2.2.1, x12) M5)))) else (
  sg_m (s.2.2.2 + (1 : Int32)) (fun x13 : Int32 =>
  k19 (s.1, s.2.1, s.2.2.1, x13) M3)))))
def gX11_foe_19 (N : Nat)  : (Nat × Int32 × Int64 × Int32) → sg_M → Option (Int32 × sg_M) := sg_lp (bX11_foe_19 N ) N
set_option maxHeartbeats 4000000 in
set_option maxRecDepth 100000 in
theorem tX11_foe_19 {ad : Nat → Nat} {X : sg_X} {N : Nat} {r : Int32 × sg_M} (C : sg_C Yr ad X cX11_foe RX11 5 6) (E : sg_eI Yr ad X cX11_foe .int r)  : ∀ (s : Nat × Int32 × Int64 × Int32) (M : sg_M), gX11_foe_19 N s M = some r → sg_K Yr s.1 11 → sg_T Yr ad X 5 19 [(0, .ref (ad (s.1))), (1, .int (s.2.1)), (2, .long (s.2.2.1)), (4, .int (s.2.2.2))] [] M := by
  have key : ∀ n : Nat, ∀ (s : Nat × Int32 × Int64 × Int32) (M : sg_M), sg_lp (bX11_foe_19 N) n s M = some r → sg_K Yr s.1 11 → sg_T Yr ad X 5 19 [(0, .ref (ad (s.1))), (1, .int (s.2.1)), (2, .long (s.2.2.1)), (4, .int (s.2.2.2))] [] M := by
    intro n
    induction n with
    | zero => intro s M h; cases h
    | succ n ih =>
      intro s M h hq0
      have h : bX11_foe_19 N (sg_lp (bX11_foe_19 N) n) s M = some r := h
      generalize sg_lp (bX11_foe_19 N) n = k19 at h ih
      have hk19 := ih
      unfold bX11_foe_19 at h
      refine i_iload C dX11_foe_19 3 rfl ?_
      refine i_aload_n C dX11_foe_21 0 rfl ?_
      refine s_vcI C [] vmX11_nodes lkX11_98 rfl rfl (by decide) hq0 (by decide) rfl rfl (Nat.le_of_ble_eq_true rfl) dX11_foe_22 (ctX11_nodes C.inj hq0) h (fun x2 M1 h => ?_)
      refine s_icmp_ge C 67 (by decide) dX11_foe_25 h (fun _ h => ?_) (fun _ h => ?_)
      · refine i_iload_n C dX11_foe_67 1 rfl ?_
        exact s_iret C E dX11_foe_68 h
      · refine i_aload_n C dX11_foe_28 0 rfl ?_
        refine i_iload C dX11_foe_29 3 rfl ?_
        refine s_vcI C [_] vmX11_isDead lkX11_288 rfl rfl (by decide) hq0 (by decide) rfl rfl (Nat.le_of_ble_eq_true rfl) dX11_foe_31 (ctX11_isDead C.inj hq0) h (fun x4 M3 h => ?_)
        refine s_if_ne C 61 (by decide) dX11_foe_34 h (fun _ h => ?_) (fun _ h => ?_)
        · refine i_aload_n C dX11_foe_37 0 rfl ?_
          refine i_iload C dX11_foe_38 3 rfl ?_
          refine s_vcL C [_] vmX11_mostOf lkX11_349 rfl rfl (by decide) hq0 (by decide) rfl rfl (Nat.le_of_ble_eq_true rfl) dX11_foe_40 (ctX11_mostOf C.inj hq0) h (fun x6 M5 h => ?_)
          refine i_lload_n C dX11_foe_43 2 rfl ?_
          refine s_lcmp C dX11_foe_44 ?_
          refine s_if_gt C 51 (by decide) dX11_foe_45 h (fun _ h => ?_) (fun _ h => ?_)
          · refine i_iload C dX11_foe_51 3 rfl ?_
            refine z_gi h (fun x7 h => ?_)
            refine i_istore_n (lv9 := [(1, _), (0, _), (2, _), (4, _)]) C 1 dX11_foe_53 rfl (by decide) rfl ?_
            refine i_aload_n C dX11_foe_54 1 rfl ?_
            refine i_iload C dX11_foe_55 3 rfl ?_
            refine s_vcL C [_] vmX11_mostOf lkX11_349 rfl rfl (by decide) hq0 (by decide) rfl rfl (Nat.le_of_ble_eq_true rfl) dX11_foe_57 (ctX11_mostOf C.inj hq0) h (fun x9 M8 h => ?_)
            refine z_gl h (fun x10 h => ?_)
            refine i_lstore_n (lv9 := [(2, _), (1, _), (0, _), (4, _)]) C 2 dX11_foe_60 rfl (by decide) rfl ?_
            refine z_iinc (n := 1) (c9 := (1 : Int32)) (by decide) h (fun x11 hx h => ?_)
            refine i_iinc (lv9 := [(4, _), (2, _), (1, _), (0, _)]) C dX11_foe_61 3 rfl hx (by decide) rfl ?_
            refine s_goto C 19 (by decide) dX11_foe_64 ?_
            exact sg_T.to (hk19 _ _ h hq0) [3, 2, 1, 0] rfl
          · refine s_goto C 61 (by decide) dX11_foe_48 ?_
            refine z_iinc (n := 1) (c9 := (1 : Int32)) (by decide) h (fun x12 hx h => ?_)
            refine i_iinc (lv9 := [(4, _), (0, _), (1, _), (2, _)]) C dX11_foe_61 3 rfl hx (by decide) rfl ?_
            refine s_goto C 19 (by decide) dX11_foe_64 ?_
            exact sg_T.to (hk19 _ _ h hq0) [1, 2, 3, 0] rfl
        · refine z_iinc (n := 1) (c9 := (1 : Int32)) (by decide) h (fun x13 hx h => ?_)
          refine i_iinc (lv9 := [(4, _), (0, _), (1, _), (2, _)]) C dX11_foe_61 3 rfl hx (by decide) rfl ?_
          refine s_goto C 19 (by decide) dX11_foe_64 ?_
          exact sg_T.to (hk19 _ _ h hq0) [1, 2, 3, 0] rfl
  exact key N
def fX11_foe (N : Nat) (a0_ : Nat) (M : sg_M) : Option (Int32 × sg_M) :=
  sg_b (fX11_asks N a0_ M) (fun (x15 : Int32) (M14 : sg_M) =>
  if x15 = 0 then (
  some ((-2 : Int32), M14)) else (
  sg_m (-1 : Int32) (fun x16 : Int32 =>
  sg_m (-1 : Int64) (fun x17 : Int64 =>
  sg_m (0 : Int32) (fun x18 : Int32 =>
  gX11_foe_19 N (a0_, x16, x17, x18) M14)))))
set_option maxHeartbeats 4000000 in
set_option maxRecDepth 100000 in
theorem tX11_foe {ad : Nat → Nat} {X : sg_X} {N : Nat} {r : Int32 × sg_M} (C : sg_C Yr ad X cX11_foe RX11 5 6) (E : sg_eI Yr ad X cX11_foe .int r) : ∀ (a0_ : Nat) (M : sg_M), sg_K Yr a0_ 11 → fX11_foe N a0_ M = some r → sg_T Yr ad X 5 0 [(0, .ref (ad a0_))] [] M := by
  intro a0_ M hq0 h
  unfold fX11_foe at h
  refine i_aload_n C dX11_foe_0 0 rfl ?_
  refine s_vcI C [] vmX11_asks lkX11_302 rfl rfl (by decide) hq0 (by decide) rfl rfl (Nat.le_of_ble_eq_true rfl) dX11_foe_1 (ctX11_asks C.inj hq0) h (fun x15 M14 h => ?_)
  refine s_if_ne C 10 (by decide) dX11_foe_4 h (fun _ h => ?_) (fun _ h => ?_)
  · refine s_bipush C (-2 : Int32) dX11_foe_7 (by decide) ?_
    exact s_iret C E dX11_foe_9 h
  · refine s_iconst C (-1 : Int32) dX11_foe_10 (by decide) ?_
    refine z_gi h (fun x16 h => ?_)
    refine i_istore_n (lv9 := [(1, _), (0, _)]) C 1 dX11_foe_11 rfl (by decide) rfl ?_
    refine s_ldc2 C (-1 : Int64) kl_X11_318 dX11_foe_12 ?_
    refine z_gl h (fun x17 h => ?_)
    refine i_lstore_n (lv9 := [(2, _), (1, _), (0, _)]) C 2 dX11_foe_15 rfl (by decide) rfl ?_
    refine s_iconst C (0 : Int32) dX11_foe_16 (by decide) ?_
    refine z_gi h (fun x18 h => ?_)
    refine i_istore (lv9 := [(4, _), (2, _), (1, _), (0, _)]) C dX11_foe_17 (by decide) rfl ?_
    exact sg_T.to (tX11_foe_19 C E _ _ h hq0) [3, 2, 1, 0] rfl
theorem ctX11_foe {ad : Nat → Nat} {V : sg_V} {N : Nat} (hi : sg_inj Yr ad) {a0_ : Nat} {M : sg_M} (hq0 : sg_K Yr a0_ 11) : ∀ res, fX11_foe N a0_ M = some res → sg_cI Yr ad V yX11_foe cX11_foe 5 .int 6 [.ref (ad a0_)] M res := fun res h => sg_bodyI (by decide) hi (Nat.le_of_ble_eq_true rfl) (fun X hX C E => by subst hX; exact tX11_foe C E _  _ hq0 h)
def bX11_unsafe_14 (N : Nat)  (k14 : (Nat × Int32 × Int32) → sg_M → Option (Int32 × sg_M)) (s : Nat × Int32 × Int32) (M : sg_M) : Option (Int32 × sg_M) :=
  sg_b (fX11_nodes N s.1 M) (fun (x2 : Int32) (M1 : sg_M) =>
  if x2 ≤ s.2.2 then (
  some (s.2.1, M1)) else (
  sg_b (fX11_isDead N s.1 s.2.2 M1) (fun (x4 : Int32) (M3 : sg_M) =>
  if x4 = 0 then (
  sg_b (fX11_mostOf N s.1 s.2.2 M3) (fun (x6 : Int64) (M5 : sg_M) =>
  if sg_ib (2 : Int32) (Yr.2.2.1 (Yr.2.2.2 s.1 1)) = true then
  if (lg_cmp x6 (((M5.1 (Yr.2.2.2 s.1 1) ((2 : Int32)).toNatClampNeg)).toInt64 * (M5.2 s.1 26))) ≤ 0 then (
  sg_m (s.2.1 ||| (0 : Int32)) (fun x7 : Int32 =>
  sg_m (s.2.2 + (1 : Int32)) (fun x8 : Int32 =>
  k14 (s.1, x7, x8) M5))) else (
  sg_m (s.2.1 ||| ((1 : Int32) <<< (s.2.2 &&& 31))) (fun x9 : Int32 =>
  sg_m (s.2.2 + (1 : Int32)) (fun x10 : Int32 =>
  k14 (s.1, x9, x10) M5)))
  else none)) else (
  sg_m (s.2.1 ||| (0 : Int32)) (fun x11 : Int32 =>
  sg_m (s.2.2 + (1 : Int32)) (fun x12 : Int32 =>
  k14 (s.1, x11, x12) M3))))))
def gX11_unsafe_14 (N : Nat)  : (Nat × Int32 × Int32) → sg_M → Option (Int32 × sg_M) := sg_lp (bX11_unsafe_14 N ) N
set_option maxHeartbeats 4000000 in
set_option maxRecDepth 100000 in
theorem tX11_unsafe_14 {ad : Nat → Nat} {X : sg_X} {N : Nat} {r : Int32 × sg_M} (C : sg_C Yr ad X cX11_unsafe RX11 3 6) (E : sg_eI Yr ad X cX11_unsafe .int r)  : ∀ (s : Nat × Int32 × Int32) (M : sg_M), gX11_unsafe_14 N s M = some r → sg_K Yr s.1 11 → sg_T Yr ad X 3 14 [(0, .ref (ad (s.1))), (1, .int (s.2.1)), (2, .int (s.2.2))] [] M := by
  have key : ∀ n : Nat, ∀ (s : Nat × Int32 × Int32) (M : sg_M), sg_lp (bX11_unsafe_14 N) n s M = some r → sg_K Yr s.1 11 → sg_T Yr ad X 3 14 [(0, .ref (ad (s.1))), (1, .int (s.2.1)), (2, .int (s.2.2))] [] M := by
    intro n
    induction n with
    | zero => intro s M h; cases h
    | succ n ih =>
      intro s M h hq0
      have h : bX11_unsafe_14 N (sg_lp (bX11_unsafe_14 N) n) s M = some r := h
      generalize sg_lp (bX11_unsafe_14 N) n = k14 at h ih
      have hk14 := ih
      unfold bX11_unsafe_14 at h
      refine i_iload_n C dX11_unsafe_14 2 rfl ?_
      refine i_aload_n C dX11_unsafe_15 0 rfl ?_
      refine s_vcI C [] vmX11_nodes lkX11_98 rfl rfl (by decide) hq0 (by decide) rfl rfl (Nat.le_of_ble_eq_true rfl) dX11_unsafe_16 (ctX11_nodes C.inj hq0) h (fun x2 M1 h => ?_)
      refine s_icmp_ge C 67 (by decide) dX11_unsafe_19 h (fun _ h => ?_) (fun _ h => ?_)
      · refine i_iload_n C dX11_unsafe_67 1 rfl ?_
        exact s_iret C E dX11_unsafe_68 h
      · refine i_iload_n C dX11_unsafe_22 1 rfl ?_
        refine i_aload_n C dX11_unsafe_23 0 rfl ?_
        refine i_iload_n C dX11_unsafe_24 2 rfl ?_
        refine s_vcI C [_] vmX11_isDead lkX11_288 rfl rfl (by decide) hq0 (by decide) rfl rfl (Nat.le_of_ble_eq_true rfl) dX11_unsafe_25 (ctX11_isDead C.inj hq0) h (fun x4 M3 h => ?_)
        refine s_if_ne C 58 (by decide) dX11_unsafe_28 h (fun _ h => ?_) (fun _ h => ?_)
        · refine i_aload_n C dX11_unsafe_31 0 rfl ?_
          refine i_iload_n C dX11_unsafe_32 2 rfl ?_
          refine s_vcL C [_] vmX11_mostOf lkX11_349 rfl rfl (by decide) hq0 (by decide) rfl rfl (Nat.le_of_ble_eq_true rfl) dX11_unsafe_33 (ctX11_mostOf C.inj hq0) h (fun x6 M5 h => ?_)
          refine i_aload_n C dX11_unsafe_36 0 rfl ?_
          refine gf11_9 C hq0 dX11_unsafe_37 ?_
          refine s_iconst C (2 : Int32) dX11_unsafe_40 (by decide) ?_
          refine s_iald C (ky11_1 hq0) dX11_unsafe_41 h (fun h => ?_)
          refine s_i2l C dX11_unsafe_42 ?_
          refine i_aload_n C dX11_unsafe_43 0 rfl ?_
          refine gf11_50 C hq0 dX11_unsafe_44 ?_
          refine s_lmul C dX11_unsafe_47 ?_
          refine s_lcmp C dX11_unsafe_48 ?_
          refine s_if_le C 58 (by decide) dX11_unsafe_49 h (fun _ h => ?_) (fun _ h => ?_)
          · refine s_iconst C (0 : Int32) dX11_unsafe_58 (by decide) ?_
            refine s_ior C dX11_unsafe_59 ?_
            refine z_gi h (fun x7 h => ?_)
            refine i_istore_n (lv9 := [(1, _), (0, _), (2, _)]) C 1 dX11_unsafe_60 rfl (by decide) rfl ?_
            refine z_iinc (n := 1) (c9 := (1 : Int32)) (by decide) h (fun x8 hx h => ?_)
            refine i_iinc (lv9 := [(2, _), (1, _), (0, _)]) C dX11_unsafe_61 2 rfl hx (by decide) rfl ?_
            refine s_goto C 14 (by decide) dX11_unsafe_64 ?_
            exact sg_T.to (hk14 _ _ h hq0) [2, 1, 0] rfl
          · refine s_iconst C (1 : Int32) dX11_unsafe_52 (by decide) ?_
            refine i_iload_n C dX11_unsafe_53 2 rfl ?_
            refine s_ishl C dX11_unsafe_54 ?_
            refine s_goto C 59 (by decide) dX11_unsafe_55 ?_
            refine s_ior C dX11_unsafe_59 ?_
            refine z_gi h (fun x9 h => ?_)
            refine i_istore_n (lv9 := [(1, _), (0, _), (2, _)]) C 1 dX11_unsafe_60 rfl (by decide) rfl ?_
            refine z_iinc (n := 1) (c9 := (1 : Int32)) (by decide) h (fun x10 hx h => ?_)
            refine i_iinc (lv9 := [(2, _), (1, _), (0, _)]) C dX11_unsafe_61 2 rfl hx (by decide) rfl ?_
            refine s_goto C 14 (by decide) dX11_unsafe_64 ?_
            exact sg_T.to (hk14 _ _ h hq0) [2, 1, 0] rfl
        · refine s_iconst C (0 : Int32) dX11_unsafe_58 (by decide) ?_
          refine s_ior C dX11_unsafe_59 ?_
          refine z_gi h (fun x11 h => ?_)
          refine i_istore_n (lv9 := [(1, _), (0, _), (2, _)]) C 1 dX11_unsafe_60 rfl (by decide) rfl ?_
          refine z_iinc (n := 1) (c9 := (1 : Int32)) (by decide) h (fun x12 hx h => ?_)
          refine i_iinc (lv9 := [(2, _), (1, _), (0, _)]) C dX11_unsafe_61 2 rfl hx (by decide) rfl ?_
          refine s_goto C 14 (by decide) dX11_unsafe_64 ?_
          exact sg_T.to (hk14 _ _ h hq0) [2, 1, 0] rfl
  exact key N
def fX11_unsafe (N : Nat) (a0_ : Nat) (M : sg_M) : Option (Int32 × sg_M) :=
  sg_b (fX11_asks N a0_ M) (fun (x14 : Int32) (M13 : sg_M) =>
  if x14 = 0 then (
  some ((-2 : Int32), M13)) else (
  sg_m (0 : Int32) (fun x15 : Int32 =>
  sg_m (0 : Int32) (fun x16 : Int32 =>
  gX11_unsafe_14 N (a0_, x15, x16) M13))))
set_option maxHeartbeats 4000000 in
set_option maxRecDepth 100000 in
theorem tX11_unsafe {ad : Nat → Nat} {X : sg_X} {N : Nat} {r : Int32 × sg_M} (C : sg_C Yr ad X cX11_unsafe RX11 3 6) (E : sg_eI Yr ad X cX11_unsafe .int r) : ∀ (a0_ : Nat) (M : sg_M), sg_K Yr a0_ 11 → fX11_unsafe N a0_ M = some r → sg_T Yr ad X 3 0 [(0, .ref (ad a0_))] [] M := by
  intro a0_ M hq0 h
  unfold fX11_unsafe at h
  refine i_aload_n C dX11_unsafe_0 0 rfl ?_
  refine s_vcI C [] vmX11_asks lkX11_302 rfl rfl (by decide) hq0 (by decide) rfl rfl (Nat.le_of_ble_eq_true rfl) dX11_unsafe_1 (ctX11_asks C.inj hq0) h (fun x14 M13 h => ?_)
  refine s_if_ne C 10 (by decide) dX11_unsafe_4 h (fun _ h => ?_) (fun _ h => ?_)
  · refine s_bipush C (-2 : Int32) dX11_unsafe_7 (by decide) ?_
    exact s_iret C E dX11_unsafe_9 h
  · refine s_iconst C (0 : Int32) dX11_unsafe_10 (by decide) ?_
    refine z_gi h (fun x15 h => ?_)
    refine i_istore_n (lv9 := [(1, _), (0, _)]) C 1 dX11_unsafe_11 rfl (by decide) rfl ?_
    refine s_iconst C (0 : Int32) dX11_unsafe_12 (by decide) ?_
    refine z_gi h (fun x16 h => ?_)
    refine i_istore_n (lv9 := [(2, _), (1, _), (0, _)]) C 2 dX11_unsafe_13 rfl (by decide) rfl ?_
    exact sg_T.to (tX11_unsafe_14 C E _ _ h hq0) [2, 1, 0] rfl
theorem ctX11_unsafe {ad : Nat → Nat} {V : sg_V} {N : Nat} (hi : sg_inj Yr ad) {a0_ : Nat} {M : sg_M} (hq0 : sg_K Yr a0_ 11) : ∀ res, fX11_unsafe N a0_ M = some res → sg_cI Yr ad V yX11_unsafe cX11_unsafe 3 .int 6 [.ref (ad a0_)] M res := fun res h => sg_bodyI (by decide) hi (Nat.le_of_ble_eq_true rfl) (fun X hX C E => by subst hX; exact tX11_unsafe C E _  _ hq0 h)
def fX11_heatOf (N : Nat) (a0_ : Nat) (x1_ : Int32) (M : sg_M) : Option (Int64 × sg_M) :=
  if sg_ib ((28 : Int32) + x1_) (Yr.2.2.1 (Yr.2.2.2 a0_ 1)) = true then
  if (M.1 (Yr.2.2.2 a0_ 1) (((28 : Int32) + x1_)).toNatClampNeg) = 0 then (
  some ((0 : Int64), M)) else (
  if sg_ib (((2 : Int32) * x1_) + (1 : Int32)) (Yr.2.2.1 (Yr.2.2.2 a0_ 7)) = true then
  sg_b (fX11_dropOf N a0_ (M.1 (Yr.2.2.2 a0_ 7) ((((2 : Int32) * x1_) + (1 : Int32))).toNatClampNeg) M) (fun (x2 : Int64) (M1 : sg_M) =>
  if sg_ib ((2 : Int32) * x1_) (Yr.2.2.1 (Yr.2.2.2 a0_ 7)) = true then
  sg_b (fX11_dropOf N a0_ (M1.1 (Yr.2.2.2 a0_ 7) (((2 : Int32) * x1_)).toNatClampNeg) M1) (fun (x4 : Int64) (M3 : sg_M) =>
  some ((if 0 < (x2 - x4) then (x2 - x4) else -(x2 - x4)), M3))
  else none)
  else none)
  else none
set_option maxHeartbeats 4000000 in
set_option maxRecDepth 100000 in
theorem tX11_heatOf {ad : Nat → Nat} {X : sg_X} {N : Nat} {r : Int64 × sg_M} (C : sg_C Yr ad X cX11_heatOf RX11 2 2) (E : sg_eL Yr ad X cX11_heatOf r) : ∀ (a0_ : Nat) (x1_ : Int32) (M : sg_M), sg_K Yr a0_ 11 → fX11_heatOf N a0_ x1_ M = some r → sg_T Yr ad X 2 0 [(0, .ref (ad a0_)), (1, .int x1_)] [] M := by
  intro a0_ x1_ M hq0 h
  unfold fX11_heatOf at h
  refine i_aload_n C dX11_heatOf_0 0 rfl ?_
  refine gf11_9 C hq0 dX11_heatOf_1 ?_
  refine s_bipush C (28 : Int32) dX11_heatOf_4 (by decide) ?_
  refine i_iload_n C dX11_heatOf_6 1 rfl ?_
  refine s_iadd C dX11_heatOf_7 ?_
  refine s_iald C (ky11_1 hq0) dX11_heatOf_8 h (fun h => ?_)
  refine s_if_ne C 16 (by decide) dX11_heatOf_9 h (fun _ h => ?_) (fun _ h => ?_)
  · refine s_lconst C (0 : Int64) dX11_heatOf_12 (by decide) ?_
    refine s_goto C 46 (by decide) dX11_heatOf_13 ?_
    exact s_lret C E dX11_heatOf_46 h
  · refine i_aload_n C dX11_heatOf_16 0 rfl ?_
    refine i_aload_n C dX11_heatOf_17 0 rfl ?_
    refine gf11_26 C hq0 dX11_heatOf_18 ?_
    refine s_iconst C (2 : Int32) dX11_heatOf_21 (by decide) ?_
    refine i_iload_n C dX11_heatOf_22 1 rfl ?_
    refine s_imul C dX11_heatOf_23 ?_
    refine s_iconst C (1 : Int32) dX11_heatOf_24 (by decide) ?_
    refine s_iadd C dX11_heatOf_25 ?_
    refine s_iald C (ky11_7 hq0) dX11_heatOf_26 h (fun h => ?_)
    refine s_vcL C [_] vmX11_dropOf lkX11_282 rfl rfl (by decide) hq0 (by decide) rfl rfl (Nat.le_of_ble_eq_true rfl) dX11_heatOf_27 (ctX11_dropOf C.inj hq0) h (fun x2 M1 h => ?_)
    refine i_aload_n C dX11_heatOf_30 0 rfl ?_
    refine i_aload_n C dX11_heatOf_31 0 rfl ?_
    refine gf11_26 C hq0 dX11_heatOf_32 ?_
    refine s_iconst C (2 : Int32) dX11_heatOf_35 (by decide) ?_
    refine i_iload_n C dX11_heatOf_36 1 rfl ?_
    refine s_imul C dX11_heatOf_37 ?_
    refine s_iald C (ky11_7 hq0) dX11_heatOf_38 h (fun h => ?_)
    refine s_vcL C [_] vmX11_dropOf lkX11_282 rfl rfl (by decide) hq0 (by decide) rfl rfl (Nat.le_of_ble_eq_true rfl) dX11_heatOf_39 (ctX11_dropOf C.inj hq0) h (fun x4 M3 h => ?_)
    refine s_lsub C dX11_heatOf_42 ?_
    refine s_mabsl C (by decide) mabsl_X11_75 mabsl_1 math_2 mabsl_3 (Nat.le_of_ble_eq_true rfl) dX11_heatOf_43 ?_
    exact s_lret C E dX11_heatOf_46 h
theorem ctX11_heatOf {ad : Nat → Nat} {V : sg_V} {N : Nat} (hi : sg_inj Yr ad) {a0_ : Nat} {x1_ : Int32} {M : sg_M} (hq0 : sg_K Yr a0_ 11) : ∀ res, fX11_heatOf N a0_ x1_ M = some res → sg_cL Yr ad V yX11_heatOf cX11_heatOf 2 2 [.ref (ad a0_), .int x1_] M res := fun res h => sg_bodyL (by decide) hi (Nat.le_of_ble_eq_true rfl) (fun X hX C E => by subst hX; exact tX11_heatOf C E _ _  _ hq0 h)
def fX11_heat (N : Nat) (a0_ : Nat) (x1_ : Int32) (x2_ : Int32) (M : sg_M) : Option (Int64 × sg_M) :=
  sg_b (fX11_isStrap N a0_ x1_ M) (fun (x2 : Int32) (M1 : sg_M) =>
  if x2 = 0 then (
  some ((-2 : Int64), M1)) else (
  sg_b (fX11_isPart N x2_ M1) (fun (x4 : Int32) (M3 : sg_M) =>
  if x4 = 0 then (
  some ((-2 : Int64), M3)) else (
  sg_bv (fX11_lays N a0_ M3) (fun M5 : sg_M =>
  sg_b (fX11_heatOf N a0_ x1_ M5) (fun (x7 : Int64) (M6 : sg_M) =>
  sg_b (fX11_part N x7 (M6.2 a0_ 26) x2_ M6) (fun (x9 : Int64) (M8 : sg_M) =>
  some (x9, M8))))))))
set_option maxHeartbeats 4000000 in
set_option maxRecDepth 100000 in
theorem tX11_heat {ad : Nat → Nat} {X : sg_X} {N : Nat} {r : Int64 × sg_M} (C : sg_C Yr ad X cX11_heat RX11 3 5) (E : sg_eL Yr ad X cX11_heat r) : ∀ (a0_ : Nat) (x1_ : Int32) (x2_ : Int32) (M : sg_M), sg_K Yr a0_ 11 → fX11_heat N a0_ x1_ x2_ M = some r → sg_T Yr ad X 3 0 [(0, .ref (ad a0_)), (1, .int x1_), (2, .int x2_)] [] M := by
  intro a0_ x1_ x2_ M hq0 h
  unfold fX11_heat at h
  refine i_aload_n C dX11_heat_0 0 rfl ?_
  refine i_iload_n C dX11_heat_1 1 rfl ?_
  refine s_vcI C [_] vmX11_isStrap lkX11_305 rfl rfl (by decide) hq0 (by decide) rfl rfl (Nat.le_of_ble_eq_true rfl) dX11_heat_2 (ctX11_isStrap C.inj hq0) h (fun x2 M1 h => ?_)
  refine s_if_eq C 15 (by decide) dX11_heat_5 h (fun _ h => ?_) (fun _ h => ?_)
  · refine s_ldc2 C (-2 : Int64) kl_X11_316 dX11_heat_15 ?_
    exact s_lret C E dX11_heat_18 h
  · refine i_iload_n C dX11_heat_8 2 rfl ?_
    refine s_scI C [_] smX11_isPart lkX11_313 (by decide) rfl rfl (Nat.le_of_ble_eq_true rfl) dX11_heat_9 (ctX11_isPart C.inj ) h (fun x4 M3 h => ?_)
    refine s_if_ne C 19 (by decide) dX11_heat_12 h (fun _ h => ?_) (fun _ h => ?_)
    · refine s_ldc2 C (-2 : Int64) kl_X11_316 dX11_heat_15 ?_
      exact s_lret C E dX11_heat_18 h
    · refine i_aload_n C dX11_heat_19 0 rfl ?_
      refine s_vcV C [] vmX11_lays lkX11_292 rfl rfl (by decide) hq0 (by decide) rfl rfl (Nat.le_of_ble_eq_true rfl) dX11_heat_20 (ctX11_lays C.inj hq0) h (fun M5 h => ?_)
      refine i_aload_n C dX11_heat_23 0 rfl ?_
      refine i_iload_n C dX11_heat_24 1 rfl ?_
      refine s_vcL C [_] vmX11_heatOf lkX11_352 rfl rfl (by decide) hq0 (by decide) rfl rfl (Nat.le_of_ble_eq_true rfl) dX11_heat_25 (ctX11_heatOf C.inj hq0) h (fun x7 M6 h => ?_)
      refine i_aload_n C dX11_heat_28 0 rfl ?_
      refine gf11_50 C hq0 dX11_heat_29 ?_
      refine i_iload_n C dX11_heat_32 2 rfl ?_
      refine s_scL C [_, _, _] smX11_part lkX11_320 (by decide) rfl rfl (Nat.le_of_ble_eq_true rfl) dX11_heat_33 (ctX11_part C.inj ) h (fun x9 M8 h => ?_)
      exact s_lret C E dX11_heat_36 h
theorem ctX11_heat {ad : Nat → Nat} {V : sg_V} {N : Nat} (hi : sg_inj Yr ad) {a0_ : Nat} {x1_ : Int32} {x2_ : Int32} {M : sg_M} (hq0 : sg_K Yr a0_ 11) : ∀ res, fX11_heat N a0_ x1_ x2_ M = some res → sg_cL Yr ad V yX11_heat cX11_heat 3 5 [.ref (ad a0_), .int x1_, .int x2_] M res := fun res h => sg_bodyL (by decide) hi (Nat.le_of_ble_eq_true rfl) (fun X hX C E => by subst hX; exact tX11_heat C E _ _ _  _ hq0 h)
def bX11_hottest_17 (N : Nat)  (k17 : (Nat × Int32 × Int64 × Int32) → sg_M → Option (Int32 × sg_M)) (s : Nat × Int32 × Int64 × Int32) (M : sg_M) : Option (Int32 × sg_M) :=
  if (M.1 s.1 8) ≤ s.2.2.2 then (
  some (s.2.1, M)) else (
  sg_b (fX11_heatOf N s.1 s.2.2.2 M) (fun (x2 : Int64) (M1 : sg_M) =>
  if 0 < (lg_cmp x2 s.2.2.1) then (
  sg_m s.2.2.2 (fun x3 : Int32 =>
  sg_b (fX11_heatOf N s.1 s.2.2.2 M1) (fun (x5 : Int64) (M4 : sg_M) =>
  sg_m x5 (fun x6 : Int64 =>
  sg_m (s.2.2.2 + (1 : Int32)) (fun x7 : Int32 =>
  k17 (s.1, x3, x6, x7) M4))))) else (
  sg_m (s.2.2.2 + (1 : Int32)) (fun x8 : Int32 =>
  k17 (s.1, s.2.1, s.2.2.1, x8) M1))))
def gX11_hottest_17 (N : Nat)  : (Nat × Int32 × Int64 × Int32) → sg_M → Option (Int32 × sg_M) := sg_lp (bX11_hottest_17 N ) N
set_option maxHeartbeats 4000000 in
set_option maxRecDepth 100000 in
theorem tX11_hottest_17 {ad : Nat → Nat} {X : sg_X} {N : Nat} {r : Int32 × sg_M} (C : sg_C Yr ad X cX11_hottest RX11 5 6) (E : sg_eI Yr ad X cX11_hottest .int r)  : ∀ (s : Nat × Int32 × Int64 × Int32) (M : sg_M), gX11_hottest_17 N s M = some r → sg_K Yr s.1 11 → sg_T Yr ad X 5 17 [(0, .ref (ad (s.1))), (1, .int (s.2.1)), (2, .long (s.2.2.1)), (4, .int (s.2.2.2))] [] M := by
  have key : ∀ n : Nat, ∀ (s : Nat × Int32 × Int64 × Int32) (M : sg_M), sg_lp (bX11_hottest_17 N) n s M = some r → sg_K Yr s.1 11 → sg_T Yr ad X 5 17 [(0, .ref (ad (s.1))), (1, .int (s.2.1)), (2, .long (s.2.2.1)), (4, .int (s.2.2.2))] [] M := by
    intro n
    induction n with
    | zero => intro s M h; cases h
    | succ n ih =>
      intro s M h hq0
      have h : bX11_hottest_17 N (sg_lp (bX11_hottest_17 N) n) s M = some r := h
      generalize sg_lp (bX11_hottest_17 N) n = k17 at h ih
      have hk17 := ih
      unfold bX11_hottest_17 at h
      refine i_iload C dX11_hottest_17 3 rfl ?_
      refine i_aload_n C dX11_hottest_19 0 rfl ?_
      refine gf11_102 C hq0 dX11_hottest_20 ?_
      refine s_icmp_ge C 56 (by decide) dX11_hottest_23 h (fun _ h => ?_) (fun _ h => ?_)
      · refine i_iload_n C dX11_hottest_56 1 rfl ?_
        exact s_iret C E dX11_hottest_57 h
      · refine i_aload_n C dX11_hottest_26 0 rfl ?_
        refine i_iload C dX11_hottest_27 3 rfl ?_
        refine s_vcL C [_] vmX11_heatOf lkX11_352 rfl rfl (by decide) hq0 (by decide) rfl rfl (Nat.le_of_ble_eq_true rfl) dX11_hottest_29 (ctX11_heatOf C.inj hq0) h (fun x2 M1 h => ?_)
        refine i_lload_n C dX11_hottest_32 2 rfl ?_
        refine s_lcmp C dX11_hottest_33 ?_
        refine s_if_gt C 40 (by decide) dX11_hottest_34 h (fun _ h => ?_) (fun _ h => ?_)
        · refine i_iload C dX11_hottest_40 3 rfl ?_
          refine z_gi h (fun x3 h => ?_)
          refine i_istore_n (lv9 := [(1, _), (0, _), (2, _), (4, _)]) C 1 dX11_hottest_42 rfl (by decide) rfl ?_
          refine i_aload_n C dX11_hottest_43 1 rfl ?_
          refine i_iload C dX11_hottest_44 3 rfl ?_
          refine s_vcL C [_] vmX11_heatOf lkX11_352 rfl rfl (by decide) hq0 (by decide) rfl rfl (Nat.le_of_ble_eq_true rfl) dX11_hottest_46 (ctX11_heatOf C.inj hq0) h (fun x5 M4 h => ?_)
          refine z_gl h (fun x6 h => ?_)
          refine i_lstore_n (lv9 := [(2, _), (1, _), (0, _), (4, _)]) C 2 dX11_hottest_49 rfl (by decide) rfl ?_
          refine z_iinc (n := 1) (c9 := (1 : Int32)) (by decide) h (fun x7 hx h => ?_)
          refine i_iinc (lv9 := [(4, _), (2, _), (1, _), (0, _)]) C dX11_hottest_50 3 rfl hx (by decide) rfl ?_
          refine s_goto C 17 (by decide) dX11_hottest_53 ?_
          exact sg_T.to (hk17 _ _ h hq0) [3, 2, 1, 0] rfl
        · refine s_goto C 50 (by decide) dX11_hottest_37 ?_
          refine z_iinc (n := 1) (c9 := (1 : Int32)) (by decide) h (fun x8 hx h => ?_)
          refine i_iinc (lv9 := [(4, _), (0, _), (1, _), (2, _)]) C dX11_hottest_50 3 rfl hx (by decide) rfl ?_
          refine s_goto C 17 (by decide) dX11_hottest_53 ?_
          exact sg_T.to (hk17 _ _ h hq0) [1, 2, 3, 0] rfl
  exact key N
def fX11_hottest (N : Nat) (a0_ : Nat) (M : sg_M) : Option (Int32 × sg_M) :=
  sg_b (fX11_asks N a0_ M) (fun (x10 : Int32) (M9 : sg_M) =>
  if x10 = 0 then (
  some ((-2 : Int32), M9)) else (
  sg_m (-1 : Int32) (fun x11 : Int32 =>
  sg_m (0 : Int64) (fun x12 : Int64 =>
  sg_m (0 : Int32) (fun x13 : Int32 =>
  gX11_hottest_17 N (a0_, x11, x12, x13) M9)))))
set_option maxHeartbeats 4000000 in
set_option maxRecDepth 100000 in
theorem tX11_hottest {ad : Nat → Nat} {X : sg_X} {N : Nat} {r : Int32 × sg_M} (C : sg_C Yr ad X cX11_hottest RX11 5 6) (E : sg_eI Yr ad X cX11_hottest .int r) : ∀ (a0_ : Nat) (M : sg_M), sg_K Yr a0_ 11 → fX11_hottest N a0_ M = some r → sg_T Yr ad X 5 0 [(0, .ref (ad a0_))] [] M := by
  intro a0_ M hq0 h
  unfold fX11_hottest at h
  refine i_aload_n C dX11_hottest_0 0 rfl ?_
  refine s_vcI C [] vmX11_asks lkX11_302 rfl rfl (by decide) hq0 (by decide) rfl rfl (Nat.le_of_ble_eq_true rfl) dX11_hottest_1 (ctX11_asks C.inj hq0) h (fun x10 M9 h => ?_)
  refine s_if_ne C 10 (by decide) dX11_hottest_4 h (fun _ h => ?_) (fun _ h => ?_)
  · refine s_bipush C (-2 : Int32) dX11_hottest_7 (by decide) ?_
    exact s_iret C E dX11_hottest_9 h
  · refine s_iconst C (-1 : Int32) dX11_hottest_10 (by decide) ?_
    refine z_gi h (fun x11 h => ?_)
    refine i_istore_n (lv9 := [(1, _), (0, _)]) C 1 dX11_hottest_11 rfl (by decide) rfl ?_
    refine s_lconst C (0 : Int64) dX11_hottest_12 (by decide) ?_
    refine z_gl h (fun x12 h => ?_)
    refine i_lstore_n (lv9 := [(2, _), (1, _), (0, _)]) C 2 dX11_hottest_13 rfl (by decide) rfl ?_
    refine s_iconst C (0 : Int32) dX11_hottest_14 (by decide) ?_
    refine z_gi h (fun x13 h => ?_)
    refine i_istore (lv9 := [(4, _), (2, _), (1, _), (0, _)]) C dX11_hottest_15 (by decide) rfl ?_
    exact sg_T.to (tX11_hottest_17 C E _ _ h hq0) [3, 2, 1, 0] rfl
theorem ctX11_hottest {ad : Nat → Nat} {V : sg_V} {N : Nat} (hi : sg_inj Yr ad) {a0_ : Nat} {M : sg_M} (hq0 : sg_K Yr a0_ 11) : ∀ res, fX11_hottest N a0_ M = some res → sg_cI Yr ad V yX11_hottest cX11_hottest 5 .int 6 [.ref (ad a0_)] M res := fun res h => sg_bodyI (by decide) hi (Nat.le_of_ble_eq_true rfl) (fun X hX C E => by subst hX; exact tX11_hottest C E _  _ hq0 h)
def bX11_wears_8 (N : Nat)  (k8 : (Nat × Int32 × Int32) → sg_M → Option (Int32 × sg_M)) (s : Nat × Int32 × Int32) (M : sg_M) : Option (Int32 × sg_M) :=
  if (M.1 s.1 8) ≤ s.2.2 then (
  some (s.2.1, M)) else (
  sg_b (fX11_heatOf N s.1 s.2.2 M) (fun (x2 : Int64) (M1 : sg_M) =>
  if sg_ib (3 : Int32) (Yr.2.2.1 (Yr.2.2.2 s.1 1)) = true then
  if (lg_cmp x2 (((M1.1 (Yr.2.2.2 s.1 1) ((3 : Int32)).toNatClampNeg)).toInt64 * (M1.2 s.1 26))) ≤ 0 then (
  sg_m (s.2.1 ||| (0 : Int32)) (fun x3 : Int32 =>
  sg_m (s.2.2 + (1 : Int32)) (fun x4 : Int32 =>
  k8 (s.1, x3, x4) M1))) else (
  sg_m (s.2.1 ||| ((1 : Int32) <<< (s.2.2 &&& 31))) (fun x5 : Int32 =>
  sg_m (s.2.2 + (1 : Int32)) (fun x6 : Int32 =>
  k8 (s.1, x5, x6) M1)))
  else none))
def gX11_wears_8 (N : Nat)  : (Nat × Int32 × Int32) → sg_M → Option (Int32 × sg_M) := sg_lp (bX11_wears_8 N ) N
set_option maxHeartbeats 4000000 in
set_option maxRecDepth 100000 in
theorem tX11_wears_8 {ad : Nat → Nat} {X : sg_X} {N : Nat} {r : Int32 × sg_M} (C : sg_C Yr ad X cX11_wears RX11 3 5) (E : sg_eI Yr ad X cX11_wears .int r)  : ∀ (s : Nat × Int32 × Int32) (M : sg_M), gX11_wears_8 N s M = some r → sg_K Yr s.1 11 → sg_T Yr ad X 3 8 [(0, .ref (ad (s.1))), (1, .int (s.2.1)), (2, .int (s.2.2))] [] M := by
  have key : ∀ n : Nat, ∀ (s : Nat × Int32 × Int32) (M : sg_M), sg_lp (bX11_wears_8 N) n s M = some r → sg_K Yr s.1 11 → sg_T Yr ad X 3 8 [(0, .ref (ad (s.1))), (1, .int (s.2.1)), (2, .int (s.2.2))] [] M := by
    intro n
    induction n with
    | zero => intro s M h; cases h
    | succ n ih =>
      intro s M h hq0
      have h : bX11_wears_8 N (sg_lp (bX11_wears_8 N) n) s M = some r := h
      generalize sg_lp (bX11_wears_8 N) n = k8 at h ih
      have hk8 := ih
      unfold bX11_wears_8 at h
      refine i_iload_n C dX11_wears_8 2 rfl ?_
      refine i_aload_n C dX11_wears_9 0 rfl ?_
      refine gf11_102 C hq0 dX11_wears_10 ?_
      refine s_icmp_ge C 53 (by decide) dX11_wears_13 h (fun _ h => ?_) (fun _ h => ?_)
      · refine i_iload_n C dX11_wears_53 1 rfl ?_
        exact s_iret C E dX11_wears_54 h
      · refine i_iload_n C dX11_wears_16 1 rfl ?_
        refine i_aload_n C dX11_wears_17 0 rfl ?_
        refine i_iload_n C dX11_wears_18 2 rfl ?_
        refine s_vcL C [_] vmX11_heatOf lkX11_352 rfl rfl (by decide) hq0 (by decide) rfl rfl (Nat.le_of_ble_eq_true rfl) dX11_wears_19 (ctX11_heatOf C.inj hq0) h (fun x2 M1 h => ?_)
        refine i_aload_n C dX11_wears_22 0 rfl ?_
        refine gf11_9 C hq0 dX11_wears_23 ?_
        refine s_iconst C (3 : Int32) dX11_wears_26 (by decide) ?_
        refine s_iald C (ky11_1 hq0) dX11_wears_27 h (fun h => ?_)
        refine s_i2l C dX11_wears_28 ?_
        refine i_aload_n C dX11_wears_29 0 rfl ?_
        refine gf11_50 C hq0 dX11_wears_30 ?_
        refine s_lmul C dX11_wears_33 ?_
        refine s_lcmp C dX11_wears_34 ?_
        refine s_if_le C 44 (by decide) dX11_wears_35 h (fun _ h => ?_) (fun _ h => ?_)
        · refine s_iconst C (0 : Int32) dX11_wears_44 (by decide) ?_
          refine s_ior C dX11_wears_45 ?_
          refine z_gi h (fun x3 h => ?_)
          refine i_istore_n (lv9 := [(1, _), (0, _), (2, _)]) C 1 dX11_wears_46 rfl (by decide) rfl ?_
          refine z_iinc (n := 1) (c9 := (1 : Int32)) (by decide) h (fun x4 hx h => ?_)
          refine i_iinc (lv9 := [(2, _), (1, _), (0, _)]) C dX11_wears_47 2 rfl hx (by decide) rfl ?_
          refine s_goto C 8 (by decide) dX11_wears_50 ?_
          exact sg_T.to (hk8 _ _ h hq0) [2, 1, 0] rfl
        · refine s_iconst C (1 : Int32) dX11_wears_38 (by decide) ?_
          refine i_iload_n C dX11_wears_39 2 rfl ?_
          refine s_ishl C dX11_wears_40 ?_
          refine s_goto C 45 (by decide) dX11_wears_41 ?_
          refine s_ior C dX11_wears_45 ?_
          refine z_gi h (fun x5 h => ?_)
          refine i_istore_n (lv9 := [(1, _), (0, _), (2, _)]) C 1 dX11_wears_46 rfl (by decide) rfl ?_
          refine z_iinc (n := 1) (c9 := (1 : Int32)) (by decide) h (fun x6 hx h => ?_)
          refine i_iinc (lv9 := [(2, _), (1, _), (0, _)]) C dX11_wears_47 2 rfl hx (by decide) rfl ?_
          refine s_goto C 8 (by decide) dX11_wears_50 ?_
          exact sg_T.to (hk8 _ _ h hq0) [2, 1, 0] rfl
  exact key N
def fX11_wears (N : Nat) (a0_ : Nat) (M : sg_M) : Option (Int32 × sg_M) :=
  sg_bv (fX11_lays N a0_ M) (fun M7 : sg_M =>
  sg_m (0 : Int32) (fun x8 : Int32 =>
  sg_m (0 : Int32) (fun x9 : Int32 =>
  gX11_wears_8 N (a0_, x8, x9) M7)))
set_option maxHeartbeats 4000000 in
set_option maxRecDepth 100000 in
theorem tX11_wears {ad : Nat → Nat} {X : sg_X} {N : Nat} {r : Int32 × sg_M} (C : sg_C Yr ad X cX11_wears RX11 3 5) (E : sg_eI Yr ad X cX11_wears .int r) : ∀ (a0_ : Nat) (M : sg_M), sg_K Yr a0_ 11 → fX11_wears N a0_ M = some r → sg_T Yr ad X 3 0 [(0, .ref (ad a0_))] [] M := by
  intro a0_ M hq0 h
  unfold fX11_wears at h
  refine i_aload_n C dX11_wears_0 0 rfl ?_
  refine s_vcV C [] vmX11_lays lkX11_292 rfl rfl (by decide) hq0 (by decide) rfl rfl (Nat.le_of_ble_eq_true rfl) dX11_wears_1 (ctX11_lays C.inj hq0) h (fun M7 h => ?_)
  refine s_iconst C (0 : Int32) dX11_wears_4 (by decide) ?_
  refine z_gi h (fun x8 h => ?_)
  refine i_istore_n (lv9 := [(1, _), (0, _)]) C 1 dX11_wears_5 rfl (by decide) rfl ?_
  refine s_iconst C (0 : Int32) dX11_wears_6 (by decide) ?_
  refine z_gi h (fun x9 h => ?_)
  refine i_istore_n (lv9 := [(2, _), (1, _), (0, _)]) C 2 dX11_wears_7 rfl (by decide) rfl ?_
  exact sg_T.to (tX11_wears_8 C E _ _ h hq0) [2, 1, 0] rfl
theorem ctX11_wears {ad : Nat → Nat} {V : sg_V} {N : Nat} (hi : sg_inj Yr ad) {a0_ : Nat} {M : sg_M} (hq0 : sg_K Yr a0_ 11) : ∀ res, fX11_wears N a0_ M = some res → sg_cI Yr ad V yX11_wears cX11_wears 3 .int 5 [.ref (ad a0_)] M res := fun res h => sg_bodyI (by decide) hi (Nat.le_of_ble_eq_true rfl) (fun X hX C E => by subst hX; exact tX11_wears C E _  _ hq0 h)
def fX11_wearing (N : Nat) (a0_ : Nat) (M : sg_M) : Option (Int32 × sg_M) :=
  sg_b (fX11_isGrid N a0_ M) (fun (x2 : Int32) (M1 : sg_M) =>
  if x2 = 0 then (
  some ((-2 : Int32), M1)) else (
  sg_b (fX11_wears N a0_ M1) (fun (x4 : Int32) (M3 : sg_M) =>
  some (x4, M3))))
set_option maxHeartbeats 4000000 in
set_option maxRecDepth 100000 in
theorem tX11_wearing {ad : Nat → Nat} {X : sg_X} {N : Nat} {r : Int32 × sg_M} (C : sg_C Yr ad X cX11_wearing RX11 1 6) (E : sg_eI Yr ad X cX11_wearing .int r) : ∀ (a0_ : Nat) (M : sg_M), sg_K Yr a0_ 11 → fX11_wearing N a0_ M = some r → sg_T Yr ad X 1 0 [(0, .ref (ad a0_))] [] M := by
  intro a0_ M hq0 h
  unfold fX11_wearing at h
  refine i_aload_n C dX11_wearing_0 0 rfl ?_
  refine s_vcI C [] vmX11_isGrid lkX11_109 rfl rfl (by decide) hq0 (by decide) rfl rfl (Nat.le_of_ble_eq_true rfl) dX11_wearing_1 (ctX11_isGrid C.inj hq0) h (fun x2 M1 h => ?_)
  refine s_if_eq C 14 (by decide) dX11_wearing_4 h (fun _ h => ?_) (fun _ h => ?_)
  · refine s_bipush C (-2 : Int32) dX11_wearing_14 (by decide) ?_
    exact s_iret C E dX11_wearing_16 h
  · refine i_aload_n C dX11_wearing_7 0 rfl ?_
    refine s_vcI C [] vmX11_wears lkX11_355 rfl rfl (by decide) hq0 (by decide) rfl rfl (Nat.le_of_ble_eq_true rfl) dX11_wearing_8 (ctX11_wears C.inj hq0) h (fun x4 M3 h => ?_)
    refine s_goto C 16 (by decide) dX11_wearing_11 ?_
    exact s_iret C E dX11_wearing_16 h
theorem ctX11_wearing {ad : Nat → Nat} {V : sg_V} {N : Nat} (hi : sg_inj Yr ad) {a0_ : Nat} {M : sg_M} (hq0 : sg_K Yr a0_ 11) : ∀ res, fX11_wearing N a0_ M = some res → sg_cI Yr ad V yX11_wearing cX11_wearing 1 .int 6 [.ref (ad a0_)] M res := fun res h => sg_bodyI (by decide) hi (Nat.le_of_ble_eq_true rfl) (fun X hX C E => by subst hX; exact tX11_wearing C E _  _ hq0 h)
def bX11_ages_7 (N : Nat)  (k7 : (Nat × Int32 × Int32) → sg_M → Option (Int32 × sg_M)) (s : Nat × Int32 × Int32) (M : sg_M) : Option (Int32 × sg_M) :=
  if (M.1 s.1 8) ≤ s.2.2 then (
  some (s.2.1, M)) else (
  sg_b (fX11_isOf N s.2.1 s.2.2 M) (fun (x2 : Int32) (M1 : sg_M) =>
  if x2 = 0 then (
  sg_m (s.2.2 + (1 : Int32)) (fun x3 : Int32 =>
  k7 (s.1, s.2.1, x3) M1)) else (
  if sg_ib ((28 : Int32) + s.2.2) (Yr.2.2.1 (Yr.2.2.2 s.1 1)) = true then
  if sg_ib ((28 : Int32) + s.2.2) (Yr.2.2.1 (Yr.2.2.2 s.1 1)) = true then
  sg_m (sg_uI M1 (Yr.2.2.2 s.1 1) (((28 : Int32) + s.2.2)).toNatClampNeg ((M1.1 (Yr.2.2.2 s.1 1) (((28 : Int32) + s.2.2)).toNatClampNeg) - (1 : Int32))) (fun M4 : sg_M =>
  sg_m (s.2.2 + (1 : Int32)) (fun x5 : Int32 =>
  k7 (s.1, s.2.1, x5) M4))
  else none
  else none)))
def gX11_ages_7 (N : Nat)  : (Nat × Int32 × Int32) → sg_M → Option (Int32 × sg_M) := sg_lp (bX11_ages_7 N ) N
set_option maxHeartbeats 4000000 in
set_option maxRecDepth 100000 in
theorem tX11_ages_7 {ad : Nat → Nat} {X : sg_X} {N : Nat} {r : Int32 × sg_M} (C : sg_C Yr ad X cX11_ages RX11 3 6) (E : sg_eI Yr ad X cX11_ages .int r)  : ∀ (s : Nat × Int32 × Int32) (M : sg_M), gX11_ages_7 N s M = some r → sg_K Yr s.1 11 → sg_T Yr ad X 3 7 [(0, .ref (ad (s.1))), (1, .int (s.2.1)), (2, .int (s.2.2))] [] M := by
  have key : ∀ n : Nat, ∀ (s : Nat × Int32 × Int32) (M : sg_M), sg_lp (bX11_ages_7 N) n s M = some r → sg_K Yr s.1 11 → sg_T Yr ad X 3 7 [(0, .ref (ad (s.1))), (1, .int (s.2.1)), (2, .int (s.2.2))] [] M := by
    intro n
    induction n with
    | zero => intro s M h; cases h
    | succ n ih =>
      intro s M h hq0
      have h : bX11_ages_7 N (sg_lp (bX11_ages_7 N) n) s M = some r := h
      generalize sg_lp (bX11_ages_7 N) n = k7 at h ih
      have hk7 := ih
      unfold bX11_ages_7 at h
      refine i_iload_n C dX11_ages_7 2 rfl ?_
      refine i_aload_n C dX11_ages_8 0 rfl ?_
      refine gf11_102 C hq0 dX11_ages_9 ?_
      refine s_icmp_ge C 42 (by decide) dX11_ages_12 h (fun _ h => ?_) (fun _ h => ?_)
      · refine i_iload_n C dX11_ages_42 1 rfl ?_
        exact s_iret C E dX11_ages_43 h
      · refine i_iload_n C dX11_ages_15 1 rfl ?_
        refine i_iload_n C dX11_ages_16 2 rfl ?_
        refine s_scI C [_, _] smX11_isOf lkX11_209 (by decide) rfl rfl (Nat.le_of_ble_eq_true rfl) dX11_ages_17 (ctX11_isOf C.inj ) h (fun x2 M1 h => ?_)
        refine s_if_eq C 36 (by decide) dX11_ages_20 h (fun _ h => ?_) (fun _ h => ?_)
        · refine z_iinc (n := 1) (c9 := (1 : Int32)) (by decide) h (fun x3 hx h => ?_)
          refine i_iinc (lv9 := [(2, _), (0, _), (1, _)]) C dX11_ages_36 2 rfl hx (by decide) rfl ?_
          refine s_goto C 7 (by decide) dX11_ages_39 ?_
          exact sg_T.to (hk7 _ _ h hq0) [1, 2, 0] rfl
        · refine i_aload_n C dX11_ages_23 0 rfl ?_
          refine gf11_9 C hq0 dX11_ages_24 ?_
          refine s_bipush C (28 : Int32) dX11_ages_27 (by decide) ?_
          refine i_iload_n C dX11_ages_29 2 rfl ?_
          refine s_iadd C dX11_ages_30 ?_
          refine s_dup2 C dX11_ages_31 rfl rfl ?_
          refine s_iald C (ky11_1 hq0) dX11_ages_32 h (fun h => ?_)
          refine s_iconst C (1 : Int32) dX11_ages_33 (by decide) ?_
          refine s_isub C dX11_ages_34 ?_
          refine s_iast C (ky11_1 hq0) dX11_ages_35 h (fun h => ?_)
          refine z_gM h (fun M4 h => ?_)
          refine z_iinc (n := 1) (c9 := (1 : Int32)) (by decide) h (fun x5 hx h => ?_)
          refine i_iinc (lv9 := [(2, _), (0, _), (1, _)]) C dX11_ages_36 2 rfl hx (by decide) rfl ?_
          refine s_goto C 7 (by decide) dX11_ages_39 ?_
          exact sg_T.to (hk7 _ _ h hq0) [1, 2, 0] rfl
  exact key N
def fX11_ages (N : Nat) (a0_ : Nat) (M : sg_M) : Option (Int32 × sg_M) :=
  sg_b (fX11_wears N a0_ M) (fun (x7 : Int32) (M6 : sg_M) =>
  sg_m x7 (fun x8 : Int32 =>
  sg_m (0 : Int32) (fun x9 : Int32 =>
  gX11_ages_7 N (a0_, x8, x9) M6)))
set_option maxHeartbeats 4000000 in
set_option maxRecDepth 100000 in
theorem tX11_ages {ad : Nat → Nat} {X : sg_X} {N : Nat} {r : Int32 × sg_M} (C : sg_C Yr ad X cX11_ages RX11 3 6) (E : sg_eI Yr ad X cX11_ages .int r) : ∀ (a0_ : Nat) (M : sg_M), sg_K Yr a0_ 11 → fX11_ages N a0_ M = some r → sg_T Yr ad X 3 0 [(0, .ref (ad a0_))] [] M := by
  intro a0_ M hq0 h
  unfold fX11_ages at h
  refine i_aload_n C dX11_ages_0 0 rfl ?_
  refine s_vcI C [] vmX11_wears lkX11_355 rfl rfl (by decide) hq0 (by decide) rfl rfl (Nat.le_of_ble_eq_true rfl) dX11_ages_1 (ctX11_wears C.inj hq0) h (fun x7 M6 h => ?_)
  refine z_gi h (fun x8 h => ?_)
  refine i_istore_n (lv9 := [(1, _), (0, _)]) C 1 dX11_ages_4 rfl (by decide) rfl ?_
  refine s_iconst C (0 : Int32) dX11_ages_5 (by decide) ?_
  refine z_gi h (fun x9 h => ?_)
  refine i_istore_n (lv9 := [(2, _), (1, _), (0, _)]) C 2 dX11_ages_6 rfl (by decide) rfl ?_
  exact sg_T.to (tX11_ages_7 C E _ _ h hq0) [2, 1, 0] rfl
theorem ctX11_ages {ad : Nat → Nat} {V : sg_V} {N : Nat} (hi : sg_inj Yr ad) {a0_ : Nat} {M : sg_M} (hq0 : sg_K Yr a0_ 11) : ∀ res, fX11_ages N a0_ M = some res → sg_cI Yr ad V yX11_ages cX11_ages 3 .int 6 [.ref (ad a0_)] M res := fun res h => sg_bodyI (by decide) hi (Nat.le_of_ble_eq_true rfl) (fun X hX C E => by subst hX; exact tX11_ages C E _  _ hq0 h)
def bX11_puts_2 (N : Nat)  (k2 : (Nat × Int32) → sg_M → Option (sg_M)) (s : Nat × Int32) (M : sg_M) : Option (sg_M) :=
  if (40 : Int32) ≤ s.2 then (
  some M) else (
  if sg_ib s.2 (Yr.2.2.1 (Yr.2.2.2 s.1 1)) = true then
  if sg_ib s.2 (Yr.2.2.1 (Yr.2.2.2 s.1 30)) = true then
  sg_m (sg_uI M (Yr.2.2.2 s.1 30) (s.2).toNatClampNeg (M.1 (Yr.2.2.2 s.1 1) (s.2).toNatClampNeg)) (fun M1 : sg_M =>
  sg_m (s.2 + (1 : Int32)) (fun x2 : Int32 =>
  k2 (s.1, x2) M1))
  else none
  else none)
def gX11_puts_2 (N : Nat)  : (Nat × Int32) → sg_M → Option (sg_M) := sg_lp (bX11_puts_2 N ) N
set_option maxHeartbeats 4000000 in
set_option maxRecDepth 100000 in
theorem tX11_puts_2 {ad : Nat → Nat} {X : sg_X} {N : Nat} {r : sg_M} (C : sg_C Yr ad X cX11_puts RX11 2 0) (E : sg_eV Yr ad X cX11_puts r)  : ∀ (s : Nat × Int32) (M : sg_M), gX11_puts_2 N s M = some r → sg_K Yr s.1 11 → sg_T Yr ad X 2 2 [(0, .ref (ad (s.1))), (1, .int (s.2))] [] M := by
  have key : ∀ n : Nat, ∀ (s : Nat × Int32) (M : sg_M), sg_lp (bX11_puts_2 N) n s M = some r → sg_K Yr s.1 11 → sg_T Yr ad X 2 2 [(0, .ref (ad (s.1))), (1, .int (s.2))] [] M := by
    intro n
    induction n with
    | zero => intro s M h; cases h
    | succ n ih =>
      intro s M h hq0
      have h : bX11_puts_2 N (sg_lp (bX11_puts_2 N) n) s M = some r := h
      generalize sg_lp (bX11_puts_2 N) n = k2 at h ih
      have hk2 := ih
      unfold bX11_puts_2 at h
      refine i_iload_n C dX11_puts_2 1 rfl ?_
      refine s_bipush C (40 : Int32) dX11_puts_3 (by decide) ?_
      refine s_icmp_ge C 26 (by decide) dX11_puts_5 h (fun _ h => ?_) (fun _ h => ?_)
      · exact s_vret C E dX11_puts_26 h
      · refine i_aload_n C dX11_puts_8 0 rfl ?_
        refine gf11_63 C hq0 dX11_puts_9 ?_
        refine i_iload_n C dX11_puts_12 1 rfl ?_
        refine i_aload_n C dX11_puts_13 0 rfl ?_
        refine gf11_9 C hq0 dX11_puts_14 ?_
        refine i_iload_n C dX11_puts_17 1 rfl ?_
        refine s_iald C (ky11_1 hq0) dX11_puts_18 h (fun h => ?_)
        refine s_iast C (ky11_30 hq0) dX11_puts_19 h (fun h => ?_)
        refine z_gM h (fun M1 h => ?_)
        refine z_iinc (n := 1) (c9 := (1 : Int32)) (by decide) h (fun x2 hx h => ?_)
        refine i_iinc (lv9 := [(1, _), (0, _)]) C dX11_puts_20 1 rfl hx (by decide) rfl ?_
        refine s_goto C 2 (by decide) dX11_puts_23 ?_
        exact sg_T.to (hk2 _ _ h hq0) [1, 0] rfl
  exact key N
def fX11_puts (N : Nat) (a0_ : Nat) (M : sg_M) : Option (sg_M) :=
  sg_m (0 : Int32) (fun x3 : Int32 =>
  gX11_puts_2 N (a0_, x3) M)
set_option maxHeartbeats 4000000 in
set_option maxRecDepth 100000 in
theorem tX11_puts {ad : Nat → Nat} {X : sg_X} {N : Nat} {r : sg_M} (C : sg_C Yr ad X cX11_puts RX11 2 0) (E : sg_eV Yr ad X cX11_puts r) : ∀ (a0_ : Nat) (M : sg_M), sg_K Yr a0_ 11 → fX11_puts N a0_ M = some r → sg_T Yr ad X 2 0 [(0, .ref (ad a0_))] [] M := by
  intro a0_ M hq0 h
  unfold fX11_puts at h
  refine s_iconst C (0 : Int32) dX11_puts_0 (by decide) ?_
  refine z_gi h (fun x3 h => ?_)
  refine i_istore_n (lv9 := [(1, _), (0, _)]) C 1 dX11_puts_1 rfl (by decide) rfl ?_
  exact sg_T.to (tX11_puts_2 C E _ _ h hq0) [1, 0] rfl
theorem ctX11_puts {ad : Nat → Nat} {V : sg_V} {N : Nat} (hi : sg_inj Yr ad) {a0_ : Nat} {M : sg_M} (hq0 : sg_K Yr a0_ 11) : ∀ res, fX11_puts N a0_ M = some res → sg_cV Yr ad V yX11_puts cX11_puts 2 0 [.ref (ad a0_)] M res := fun res h => sg_bodyV (by decide) hi (Nat.le_of_ble_eq_true rfl) (fun X hX C E => by subst hX; exact tX11_puts C E _  _ hq0 h)
def bX11_takesOut_2 (N : Nat)  (k2 : (Nat × Int32) → sg_M → Option (sg_M)) (s : Nat × Int32) (M : sg_M) : Option (sg_M) :=
  if (40 : Int32) ≤ s.2 then (
  some M) else (
  if sg_ib s.2 (Yr.2.2.1 (Yr.2.2.2 s.1 30)) = true then
  if sg_ib s.2 (Yr.2.2.1 (Yr.2.2.2 s.1 1)) = true then
  sg_m (sg_uI M (Yr.2.2.2 s.1 1) (s.2).toNatClampNeg (M.1 (Yr.2.2.2 s.1 30) (s.2).toNatClampNeg)) (fun M1 : sg_M =>
  sg_m (s.2 + (1 : Int32)) (fun x2 : Int32 =>
  k2 (s.1, x2) M1))
  else none
  else none)
def gX11_takesOut_2 (N : Nat)  : (Nat × Int32) → sg_M → Option (sg_M) := sg_lp (bX11_takesOut_2 N ) N
set_option maxHeartbeats 4000000 in
set_option maxRecDepth 100000 in
theorem tX11_takesOut_2 {ad : Nat → Nat} {X : sg_X} {N : Nat} {r : sg_M} (C : sg_C Yr ad X cX11_takesOut RX11 2 0) (E : sg_eV Yr ad X cX11_takesOut r)  : ∀ (s : Nat × Int32) (M : sg_M), gX11_takesOut_2 N s M = some r → sg_K Yr s.1 11 → sg_T Yr ad X 2 2 [(0, .ref (ad (s.1))), (1, .int (s.2))] [] M := by
  have key : ∀ n : Nat, ∀ (s : Nat × Int32) (M : sg_M), sg_lp (bX11_takesOut_2 N) n s M = some r → sg_K Yr s.1 11 → sg_T Yr ad X 2 2 [(0, .ref (ad (s.1))), (1, .int (s.2))] [] M := by
    intro n
    induction n with
    | zero => intro s M h; cases h
    | succ n ih =>
      intro s M h hq0
      have h : bX11_takesOut_2 N (sg_lp (bX11_takesOut_2 N) n) s M = some r := h
      generalize sg_lp (bX11_takesOut_2 N) n = k2 at h ih
      have hk2 := ih
      unfold bX11_takesOut_2 at h
      refine i_iload_n C dX11_takesOut_2 1 rfl ?_
      refine s_bipush C (40 : Int32) dX11_takesOut_3 (by decide) ?_
      refine s_icmp_ge C 26 (by decide) dX11_takesOut_5 h (fun _ h => ?_) (fun _ h => ?_)
      · exact s_vret C E dX11_takesOut_26 h
      · refine i_aload_n C dX11_takesOut_8 0 rfl ?_
        refine gf11_9 C hq0 dX11_takesOut_9 ?_
        refine i_iload_n C dX11_takesOut_12 1 rfl ?_
        refine i_aload_n C dX11_takesOut_13 0 rfl ?_
        refine gf11_63 C hq0 dX11_takesOut_14 ?_
        refine i_iload_n C dX11_takesOut_17 1 rfl ?_
        refine s_iald C (ky11_30 hq0) dX11_takesOut_18 h (fun h => ?_)
        refine s_iast C (ky11_1 hq0) dX11_takesOut_19 h (fun h => ?_)
        refine z_gM h (fun M1 h => ?_)
        refine z_iinc (n := 1) (c9 := (1 : Int32)) (by decide) h (fun x2 hx h => ?_)
        refine i_iinc (lv9 := [(1, _), (0, _)]) C dX11_takesOut_20 1 rfl hx (by decide) rfl ?_
        refine s_goto C 2 (by decide) dX11_takesOut_23 ?_
        exact sg_T.to (hk2 _ _ h hq0) [1, 0] rfl
  exact key N
def fX11_takesOut (N : Nat) (a0_ : Nat) (M : sg_M) : Option (sg_M) :=
  sg_m (0 : Int32) (fun x3 : Int32 =>
  gX11_takesOut_2 N (a0_, x3) M)
set_option maxHeartbeats 4000000 in
set_option maxRecDepth 100000 in
theorem tX11_takesOut {ad : Nat → Nat} {X : sg_X} {N : Nat} {r : sg_M} (C : sg_C Yr ad X cX11_takesOut RX11 2 0) (E : sg_eV Yr ad X cX11_takesOut r) : ∀ (a0_ : Nat) (M : sg_M), sg_K Yr a0_ 11 → fX11_takesOut N a0_ M = some r → sg_T Yr ad X 2 0 [(0, .ref (ad a0_))] [] M := by
  intro a0_ M hq0 h
  unfold fX11_takesOut at h
  refine s_iconst C (0 : Int32) dX11_takesOut_0 (by decide) ?_
  refine z_gi h (fun x3 h => ?_)
  refine i_istore_n (lv9 := [(1, _), (0, _)]) C 1 dX11_takesOut_1 rfl (by decide) rfl ?_
  exact sg_T.to (tX11_takesOut_2 C E _ _ h hq0) [1, 0] rfl
theorem ctX11_takesOut {ad : Nat → Nat} {V : sg_V} {N : Nat} (hi : sg_inj Yr ad) {a0_ : Nat} {M : sg_M} (hq0 : sg_K Yr a0_ 11) : ∀ res, fX11_takesOut N a0_ M = some res → sg_cV Yr ad V yX11_takesOut cX11_takesOut 2 0 [.ref (ad a0_)] M res := fun res h => sg_bodyV (by decide) hi (Nat.le_of_ble_eq_true rfl) (fun X hX C E => by subst hX; exact tX11_takesOut C E _  _ hq0 h)
def bX11_aged_29 (N : Nat)  (k29 : (Nat × Int32 × Int32 × Int32) → sg_M → Option (Int32 × sg_M)) (s : Nat × Int32 × Int32 × Int32) (M : sg_M) : Option (Int32 × sg_M) :=
  if s.2.1 ≤ s.2.2.2 then (
  if sg_ib ((28 : Int32) + s.2.2.1) (Yr.2.2.1 (Yr.2.2.2 s.1 1)) = true then
  sg_m (M.1 (Yr.2.2.2 s.1 1) (((28 : Int32) + s.2.2.1)).toNatClampNeg) (fun x1 : Int32 =>
  sg_bv (fX11_takesOut N s.1 M) (fun M2 : sg_M =>
  some (x1, M2)))
  else none) else (
  sg_b (fX11_ages N s.1 M) (fun (x4 : Int32) (M3 : sg_M) =>
  sg_m (s.2.2.2 + (1 : Int32)) (fun x5 : Int32 =>
  k29 (s.1, s.2.1, s.2.2.1, x5) M3)))
def gX11_aged_29 (N : Nat)  : (Nat × Int32 × Int32 × Int32) → sg_M → Option (Int32 × sg_M) := sg_lp (bX11_aged_29 N ) N
set_option maxHeartbeats 4000000 in
set_option maxRecDepth 100000 in
theorem tX11_aged_29 {ad : Nat → Nat} {X : sg_X} {N : Nat} {r : Int32 × sg_M} (C : sg_C Yr ad X cX11_aged RX11 4 7) (E : sg_eI Yr ad X cX11_aged .int r)  : ∀ (s : Nat × Int32 × Int32 × Int32) (M : sg_M), gX11_aged_29 N s M = some r → sg_K Yr s.1 11 → sg_T Yr ad X 4 29 [(0, .ref (ad (s.1))), (1, .int (s.2.1)), (2, .int (s.2.2.1)), (3, .int (s.2.2.2))] [] M := by
  have key : ∀ n : Nat, ∀ (s : Nat × Int32 × Int32 × Int32) (M : sg_M), sg_lp (bX11_aged_29 N) n s M = some r → sg_K Yr s.1 11 → sg_T Yr ad X 4 29 [(0, .ref (ad (s.1))), (1, .int (s.2.1)), (2, .int (s.2.2.1)), (3, .int (s.2.2.2))] [] M := by
    intro n
    induction n with
    | zero => intro s M h; cases h
    | succ n ih =>
      intro s M h hq0
      have h : bX11_aged_29 N (sg_lp (bX11_aged_29 N) n) s M = some r := h
      generalize sg_lp (bX11_aged_29 N) n = k29 at h ih
      have hk29 := ih
      unfold bX11_aged_29 at h
      refine i_iload_n C dX11_aged_29 3 rfl ?_
      refine i_iload_n C dX11_aged_30 1 rfl ?_
      refine s_icmp_ge C 45 (by decide) dX11_aged_31 h (fun _ h => ?_) (fun _ h => ?_)
      · refine i_aload_n C dX11_aged_45 0 rfl ?_
        refine gf11_9 C hq0 dX11_aged_46 ?_
        refine s_bipush C (28 : Int32) dX11_aged_49 (by decide) ?_
        refine i_iload_n C dX11_aged_51 2 rfl ?_
        refine s_iadd C dX11_aged_52 ?_
        refine s_iald C (ky11_1 hq0) dX11_aged_53 h (fun h => ?_)
        refine z_gi h (fun x1 h => ?_)
        refine i_istore_n (lv9 := [(3, _), (0, _), (1, _), (2, _)]) C 3 dX11_aged_54 rfl (by decide) rfl ?_
        refine i_aload_n C dX11_aged_55 1 rfl ?_
        refine s_vcV C [] vmX11_takesOut lkX11_366 rfl rfl (by decide) hq0 (by decide) rfl rfl (Nat.le_of_ble_eq_true rfl) dX11_aged_56 (ctX11_takesOut C.inj hq0) h (fun M2 h => ?_)
        refine i_iload_n C dX11_aged_59 0 rfl ?_
        exact s_iret C E dX11_aged_60 h
      · refine i_aload_n C dX11_aged_34 0 rfl ?_
        refine s_vcI C [] vmX11_ages lkX11_363 rfl rfl (by decide) hq0 (by decide) rfl rfl (Nat.le_of_ble_eq_true rfl) dX11_aged_35 (ctX11_ages C.inj hq0) h (fun x4 M3 h => ?_)
        refine s_pop C dX11_aged_38 rfl ?_
        refine z_iinc (n := 1) (c9 := (1 : Int32)) (by decide) h (fun x5 hx h => ?_)
        refine i_iinc (lv9 := [(3, _), (0, _), (1, _), (2, _)]) C dX11_aged_39 3 rfl hx (by decide) rfl ?_
        refine s_goto C 29 (by decide) dX11_aged_42 ?_
        exact sg_T.to (hk29 _ _ h hq0) [1, 2, 3, 0] rfl
  exact key N
def fX11_aged (N : Nat) (a0_ : Nat) (x1_ : Int32) (x2_ : Int32) (M : sg_M) : Option (Int32 × sg_M) :=
  sg_b (fX11_in N (x1_).toInt64 (0 : Int64) (100 : Int64) M) (fun (x7 : Int32) (M6 : sg_M) =>
  if x7 = 0 then (
  some ((-2 : Int32), M6)) else (
  sg_b (fX11_isStrap N a0_ x2_ M6) (fun (x9 : Int32) (M8 : sg_M) =>
  if x9 = 0 then (
  some ((-2 : Int32), M8)) else (
  sg_bv (fX11_puts N a0_ M8) (fun M10 : sg_M =>
  sg_m (0 : Int32) (fun x11 : Int32 =>
  gX11_aged_29 N (a0_, x1_, x2_, x11) M10))))))
set_option maxHeartbeats 4000000 in
set_option maxRecDepth 100000 in
theorem tX11_aged {ad : Nat → Nat} {X : sg_X} {N : Nat} {r : Int32 × sg_M} (C : sg_C Yr ad X cX11_aged RX11 4 7) (E : sg_eI Yr ad X cX11_aged .int r) : ∀ (a0_ : Nat) (x1_ : Int32) (x2_ : Int32) (M : sg_M), sg_K Yr a0_ 11 → fX11_aged N a0_ x1_ x2_ M = some r → sg_T Yr ad X 4 0 [(0, .ref (ad a0_)), (1, .int x1_), (2, .int x2_)] [] M := by
  intro a0_ x1_ x2_ M hq0 h
  unfold fX11_aged at h
  refine i_iload_n C dX11_aged_0 1 rfl ?_
  refine s_i2l C dX11_aged_1 ?_
  refine s_lconst C (0 : Int64) dX11_aged_2 (by decide) ?_
  refine s_ldc2 C (100 : Int64) kl_X11_358 dX11_aged_3 ?_
  refine s_scI C [_, _, _] smX11_in lkX11_87 (by decide) rfl rfl (Nat.le_of_ble_eq_true rfl) dX11_aged_6 (ctX11_in C.inj ) h (fun x7 M6 h => ?_)
  refine s_if_eq C 20 (by decide) dX11_aged_9 h (fun _ h => ?_) (fun _ h => ?_)
  · refine s_bipush C (-2 : Int32) dX11_aged_20 (by decide) ?_
    exact s_iret C E dX11_aged_22 h
  · refine i_aload_n C dX11_aged_12 0 rfl ?_
    refine i_iload_n C dX11_aged_13 2 rfl ?_
    refine s_vcI C [_] vmX11_isStrap lkX11_305 rfl rfl (by decide) hq0 (by decide) rfl rfl (Nat.le_of_ble_eq_true rfl) dX11_aged_14 (ctX11_isStrap C.inj hq0) h (fun x9 M8 h => ?_)
    refine s_if_ne C 23 (by decide) dX11_aged_17 h (fun _ h => ?_) (fun _ h => ?_)
    · refine s_bipush C (-2 : Int32) dX11_aged_20 (by decide) ?_
      exact s_iret C E dX11_aged_22 h
    · refine i_aload_n C dX11_aged_23 0 rfl ?_
      refine s_vcV C [] vmX11_puts lkX11_360 rfl rfl (by decide) hq0 (by decide) rfl rfl (Nat.le_of_ble_eq_true rfl) dX11_aged_24 (ctX11_puts C.inj hq0) h (fun M10 h => ?_)
      refine s_iconst C (0 : Int32) dX11_aged_27 (by decide) ?_
      refine z_gi h (fun x11 h => ?_)
      refine i_istore_n (lv9 := [(3, _), (0, _), (1, _), (2, _)]) C 3 dX11_aged_28 rfl (by decide) rfl ?_
      exact sg_T.to (tX11_aged_29 C E _ _ h hq0) [1, 2, 3, 0] rfl
theorem ctX11_aged {ad : Nat → Nat} {V : sg_V} {N : Nat} (hi : sg_inj Yr ad) {a0_ : Nat} {x1_ : Int32} {x2_ : Int32} {M : sg_M} (hq0 : sg_K Yr a0_ 11) : ∀ res, fX11_aged N a0_ x1_ x2_ M = some res → sg_cI Yr ad V yX11_aged cX11_aged 4 .int 7 [.ref (ad a0_), .int x1_, .int x2_] M res := fun res h => sg_bodyI (by decide) hi (Nat.le_of_ble_eq_true rfl) (fun X hX C E => by subst hX; exact tX11_aged C E _ _ _  _ hq0 h)
def gX11_lasts_43 (N : Nat)  (a0_ : Nat) (x1_ : Int32) (x2_ : Int32) (M : sg_M) : Option (Int32 × sg_M) :=
  sg_bv (fX11_takesOut N a0_ M) (fun M1 : sg_M =>
  if x2_ = 0 then (
  some (x1_, M1)) else (
  some ((-1 : Int32), M1)))
set_option maxHeartbeats 4000000 in
set_option maxRecDepth 100000 in
theorem tX11_lasts_43 {ad : Nat → Nat} {X : sg_X} {N : Nat} {r : Int32 × sg_M} (C : sg_C Yr ad X cX11_lasts RX11 3 7) (E : sg_eI Yr ad X cX11_lasts .int r)  : ∀ (a0_ : Nat) (x1_ : Int32) (x2_ : Int32) (M : sg_M), gX11_lasts_43 N a0_ x1_ x2_ M = some r → sg_K Yr a0_ 11 → sg_T Yr ad X 3 43 [(0, .ref (ad a0_)), (1, .int x1_), (2, .int x2_)] [] M := by
  intro a0_ x1_ x2_ M h hq0
  unfold gX11_lasts_43 at h
  refine i_aload_n C dX11_lasts_43 0 rfl ?_
  refine s_vcV C [] vmX11_takesOut lkX11_366 rfl rfl (by decide) hq0 (by decide) rfl rfl (Nat.le_of_ble_eq_true rfl) dX11_lasts_44 (ctX11_takesOut C.inj hq0) h (fun M1 h => ?_)
  refine i_iload_n C dX11_lasts_47 2 rfl ?_
  refine s_if_eq C 55 (by decide) dX11_lasts_48 h (fun _ h => ?_) (fun _ h => ?_)
  · refine i_iload_n C dX11_lasts_55 1 rfl ?_
    exact s_iret C E dX11_lasts_56 h
  · refine s_iconst C (-1 : Int32) dX11_lasts_51 (by decide) ?_
    refine s_goto C 56 (by decide) dX11_lasts_52 ?_
    exact s_iret C E dX11_lasts_56 h
def bX11_lasts_21 (N : Nat)  (k21 : (Nat × Int32 × Int32) → sg_M → Option (Int32 × sg_M)) (s : Nat × Int32 × Int32) (M : sg_M) : Option (Int32 × sg_M) :=
  if s.2.2 = 0 then (
  gX11_lasts_43 N s.1 s.2.1 s.2.2 M) else (
  sg_b (fX11_ages N s.1 M) (fun (x3 : Int32) (M2 : sg_M) =>
  if x3 = 0 then (
  gX11_lasts_43 N s.1 s.2.1 s.2.2 M2) else (
  sg_m (s.2.1 + (1 : Int32)) (fun x4 : Int32 =>
  sg_b (fX11_doesHold N s.1 M2) (fun (x6 : Int32) (M5 : sg_M) =>
  sg_m x6 (fun x7 : Int32 =>
  k21 (s.1, x4, x7) M5))))))
def gX11_lasts_21 (N : Nat)  : (Nat × Int32 × Int32) → sg_M → Option (Int32 × sg_M) := sg_lp (bX11_lasts_21 N ) N
set_option maxHeartbeats 4000000 in
set_option maxRecDepth 100000 in
theorem tX11_lasts_21 {ad : Nat → Nat} {X : sg_X} {N : Nat} {r : Int32 × sg_M} (C : sg_C Yr ad X cX11_lasts RX11 3 7) (E : sg_eI Yr ad X cX11_lasts .int r)  : ∀ (s : Nat × Int32 × Int32) (M : sg_M), gX11_lasts_21 N s M = some r → sg_K Yr s.1 11 → sg_T Yr ad X 3 21 [(0, .ref (ad (s.1))), (1, .int (s.2.1)), (2, .int (s.2.2))] [] M := by
  have key : ∀ n : Nat, ∀ (s : Nat × Int32 × Int32) (M : sg_M), sg_lp (bX11_lasts_21 N) n s M = some r → sg_K Yr s.1 11 → sg_T Yr ad X 3 21 [(0, .ref (ad (s.1))), (1, .int (s.2.1)), (2, .int (s.2.2))] [] M := by
    intro n
    induction n with
    | zero => intro s M h; cases h
    | succ n ih =>
      intro s M h hq0
      have h : bX11_lasts_21 N (sg_lp (bX11_lasts_21 N) n) s M = some r := h
      generalize sg_lp (bX11_lasts_21 N) n = k21 at h ih
      have hk21 := ih
      unfold bX11_lasts_21 at h
      refine i_iload_n C dX11_lasts_21 2 rfl ?_
      refine s_if_eq C 43 (by decide) dX11_lasts_22 h (fun _ h => ?_) (fun _ h => ?_)
      · exact sg_T.to (tX11_lasts_43 C E _ _ _ _ h hq0) [0, 1, 2] rfl
      · refine i_aload_n C dX11_lasts_25 0 rfl ?_
        refine s_vcI C [] vmX11_ages lkX11_363 rfl rfl (by decide) hq0 (by decide) rfl rfl (Nat.le_of_ble_eq_true rfl) dX11_lasts_26 (ctX11_ages C.inj hq0) h (fun x3 M2 h => ?_)
        refine s_if_eq C 43 (by decide) dX11_lasts_29 h (fun _ h => ?_) (fun _ h => ?_)
        · exact sg_T.to (tX11_lasts_43 C E _ _ _ _ h hq0) [0, 1, 2] rfl
        · refine z_iinc (n := 1) (c9 := (1 : Int32)) (by decide) h (fun x4 hx h => ?_)
          refine i_iinc (lv9 := [(1, _), (0, _), (2, _)]) C dX11_lasts_32 1 rfl hx (by decide) rfl ?_
          refine i_aload_n C dX11_lasts_35 1 rfl ?_
          refine s_vcI C [] vmX11_doesHold lkX11_334 rfl rfl (by decide) hq0 (by decide) rfl rfl (Nat.le_of_ble_eq_true rfl) dX11_lasts_36 (ctX11_doesHold C.inj hq0) h (fun x6 M5 h => ?_)
          refine z_gi h (fun x7 h => ?_)
          refine i_istore_n (lv9 := [(2, _), (1, _), (0, _)]) C 2 dX11_lasts_39 rfl (by decide) rfl ?_
          refine s_goto C 21 (by decide) dX11_lasts_40 ?_
          exact sg_T.to (hk21 _ _ h hq0) [2, 1, 0] rfl
  exact key N
def fX11_lasts (N : Nat) (a0_ : Nat) (M : sg_M) : Option (Int32 × sg_M) :=
  sg_b (fX11_isGrid N a0_ M) (fun (x9 : Int32) (M8 : sg_M) =>
  if x9 = 0 then (
  some ((-2 : Int32), M8)) else (
  sg_bv (fX11_puts N a0_ M8) (fun M10 : sg_M =>
  sg_m (0 : Int32) (fun x11 : Int32 =>
  sg_b (fX11_doesHold N a0_ M10) (fun (x13 : Int32) (M12 : sg_M) =>
  sg_m x13 (fun x14 : Int32 =>
  gX11_lasts_21 N (a0_, x11, x14) M12))))))
set_option maxHeartbeats 4000000 in
set_option maxRecDepth 100000 in
theorem tX11_lasts {ad : Nat → Nat} {X : sg_X} {N : Nat} {r : Int32 × sg_M} (C : sg_C Yr ad X cX11_lasts RX11 3 7) (E : sg_eI Yr ad X cX11_lasts .int r) : ∀ (a0_ : Nat) (M : sg_M), sg_K Yr a0_ 11 → fX11_lasts N a0_ M = some r → sg_T Yr ad X 3 0 [(0, .ref (ad a0_))] [] M := by
  intro a0_ M hq0 h
  unfold fX11_lasts at h
  refine i_aload_n C dX11_lasts_0 0 rfl ?_
  refine s_vcI C [] vmX11_isGrid lkX11_109 rfl rfl (by decide) hq0 (by decide) rfl rfl (Nat.le_of_ble_eq_true rfl) dX11_lasts_1 (ctX11_isGrid C.inj hq0) h (fun x9 M8 h => ?_)
  refine s_if_ne C 10 (by decide) dX11_lasts_4 h (fun _ h => ?_) (fun _ h => ?_)
  · refine s_bipush C (-2 : Int32) dX11_lasts_7 (by decide) ?_
    exact s_iret C E dX11_lasts_9 h
  · refine i_aload_n C dX11_lasts_10 0 rfl ?_
    refine s_vcV C [] vmX11_puts lkX11_360 rfl rfl (by decide) hq0 (by decide) rfl rfl (Nat.le_of_ble_eq_true rfl) dX11_lasts_11 (ctX11_puts C.inj hq0) h (fun M10 h => ?_)
    refine s_iconst C (0 : Int32) dX11_lasts_14 (by decide) ?_
    refine z_gi h (fun x11 h => ?_)
    refine i_istore_n (lv9 := [(1, _), (0, _)]) C 1 dX11_lasts_15 rfl (by decide) rfl ?_
    refine i_aload_n C dX11_lasts_16 1 rfl ?_
    refine s_vcI C [] vmX11_doesHold lkX11_334 rfl rfl (by decide) hq0 (by decide) rfl rfl (Nat.le_of_ble_eq_true rfl) dX11_lasts_17 (ctX11_doesHold C.inj hq0) h (fun x13 M12 h => ?_)
    refine z_gi h (fun x14 h => ?_)
    refine i_istore_n (lv9 := [(2, _), (1, _), (0, _)]) C 2 dX11_lasts_20 rfl (by decide) rfl ?_
    exact sg_T.to (tX11_lasts_21 C E _ _ h hq0) [2, 1, 0] rfl
theorem ctX11_lasts {ad : Nat → Nat} {V : sg_V} {N : Nat} (hi : sg_inj Yr ad) {a0_ : Nat} {M : sg_M} (hq0 : sg_K Yr a0_ 11) : ∀ res, fX11_lasts N a0_ M = some res → sg_cI Yr ad V yX11_lasts cX11_lasts 3 .int 7 [.ref (ad a0_)] M res := fun res h => sg_bodyI (by decide) hi (Nat.le_of_ble_eq_true rfl) (fun X hX C E => by subst hX; exact tX11_lasts C E _  _ hq0 h)
def gX11_worn_59 (N : Nat)  (a0_ : Nat) (x2_ : Int32) (y0_ : Int32) (M : sg_M) : Option (Int32 × sg_M) :=
  sg_m y0_ (fun x1 : Int32 =>
  sg_bv (fX11_takesOut N a0_ M) (fun M2 : sg_M =>
  if x1 = 0 then (
  some ((-1 : Int32), M2)) else (
  some (x2_, M2))))
set_option maxHeartbeats 4000000 in
set_option maxRecDepth 100000 in
theorem tX11_worn_59 {ad : Nat → Nat} {X : sg_X} {N : Nat} {r : Int32 × sg_M} (C : sg_C Yr ad X cX11_worn RX11 4 7) (E : sg_eI Yr ad X cX11_worn .int r)  : ∀ (a0_ : Nat) (x2_ : Int32) (y0_ : Int32) (M : sg_M), gX11_worn_59 N a0_ x2_ y0_ M = some r → sg_K Yr a0_ 11 → sg_T Yr ad X 4 59 [(0, .ref (ad a0_)), (2, .int x2_)] [.int y0_] M := by
  intro a0_ x2_ y0_ M h hq0
  unfold gX11_worn_59 at h
  refine z_gi h (fun x1 h => ?_)
  refine i_istore_n (lv9 := [(3, _), (0, _), (2, _)]) C 3 dX11_worn_59 rfl (by decide) rfl ?_
  refine i_aload_n C dX11_worn_60 1 rfl ?_
  refine s_vcV C [] vmX11_takesOut lkX11_366 rfl rfl (by decide) hq0 (by decide) rfl rfl (Nat.le_of_ble_eq_true rfl) dX11_worn_61 (ctX11_takesOut C.inj hq0) h (fun M2 h => ?_)
  refine i_iload_n C dX11_worn_64 0 rfl ?_
  refine s_if_eq C 72 (by decide) dX11_worn_65 h (fun _ h => ?_) (fun _ h => ?_)
  · refine s_iconst C (-1 : Int32) dX11_worn_72 (by decide) ?_
    exact s_iret C E dX11_worn_73 h
  · refine i_iload_n C dX11_worn_68 2 rfl ?_
    refine s_goto C 73 (by decide) dX11_worn_69 ?_
    exact s_iret C E dX11_worn_73 h
def gX11_worn_42 (N : Nat)  (a0_ : Nat) (x1_ : Int32) (x2_ : Int32) (M : sg_M) : Option (Int32 × sg_M) :=
  if sg_ib ((28 : Int32) + x1_) (Yr.2.2.1 (Yr.2.2.2 a0_ 1)) = true then
  if (M.1 (Yr.2.2.2 a0_ 1) (((28 : Int32) + x1_)).toNatClampNeg) = 0 then (
  gX11_worn_59 N a0_ x2_ (1 : Int32) M) else (
  gX11_worn_59 N a0_ x2_ (0 : Int32) M)
  else none
set_option maxHeartbeats 4000000 in
set_option maxRecDepth 100000 in
theorem tX11_worn_42 {ad : Nat → Nat} {X : sg_X} {N : Nat} {r : Int32 × sg_M} (C : sg_C Yr ad X cX11_worn RX11 4 7) (E : sg_eI Yr ad X cX11_worn .int r)  : ∀ (a0_ : Nat) (x1_ : Int32) (x2_ : Int32) (M : sg_M), gX11_worn_42 N a0_ x1_ x2_ M = some r → sg_K Yr a0_ 11 → sg_T Yr ad X 4 42 [(0, .ref (ad a0_)), (1, .int x1_), (2, .int x2_)] [] M := by
  intro a0_ x1_ x2_ M h hq0
  unfold gX11_worn_42 at h
  refine i_aload_n C dX11_worn_42 0 rfl ?_
  refine gf11_9 C hq0 dX11_worn_43 ?_
  refine s_bipush C (28 : Int32) dX11_worn_46 (by decide) ?_
  refine i_iload_n C dX11_worn_48 1 rfl ?_
  refine s_iadd C dX11_worn_49 ?_
  refine s_iald C (ky11_1 hq0) dX11_worn_50 h (fun h => ?_)
  refine s_if_ne C 58 (by decide) dX11_worn_51 h (fun _ h => ?_) (fun _ h => ?_)
  · refine s_iconst C (1 : Int32) dX11_worn_54 (by decide) ?_
    refine s_goto C 59 (by decide) dX11_worn_55 ?_
    exact sg_T.to (tX11_worn_59 C E _ _ _ _ h hq0) [0, 2] rfl
  · refine s_iconst C (0 : Int32) dX11_worn_58 (by decide) ?_
    exact sg_T.to (tX11_worn_59 C E _ _ _ _ h hq0) [0, 2] rfl
def bX11_worn_17 (N : Nat)  (k17 : (Nat × Int32 × Int32) → sg_M → Option (Int32 × sg_M)) (s : Nat × Int32 × Int32) (M : sg_M) : Option (Int32 × sg_M) :=
  if sg_ib ((28 : Int32) + s.2.1) (Yr.2.2.1 (Yr.2.2.2 s.1 1)) = true then
  if (M.1 (Yr.2.2.2 s.1 1) (((28 : Int32) + s.2.1)).toNatClampNeg) ≤ 0 then (
  gX11_worn_42 N s.1 s.2.1 s.2.2 M) else (
  sg_b (fX11_ages N s.1 M) (fun (x4 : Int32) (M3 : sg_M) =>
  if x4 = 0 then (
  gX11_worn_42 N s.1 s.2.1 s.2.2 M3) else (
  sg_m (s.2.2 + (1 : Int32)) (fun x5 : Int32 =>
  k17 (s.1, s.2.1, x5) M3))))
  else none
def gX11_worn_17 (N : Nat)  : (Nat × Int32 × Int32) → sg_M → Option (Int32 × sg_M) := sg_lp (bX11_worn_17 N ) N
set_option maxHeartbeats 4000000 in
set_option maxRecDepth 100000 in
theorem tX11_worn_17 {ad : Nat → Nat} {X : sg_X} {N : Nat} {r : Int32 × sg_M} (C : sg_C Yr ad X cX11_worn RX11 4 7) (E : sg_eI Yr ad X cX11_worn .int r)  : ∀ (s : Nat × Int32 × Int32) (M : sg_M), gX11_worn_17 N s M = some r → sg_K Yr s.1 11 → sg_T Yr ad X 4 17 [(0, .ref (ad (s.1))), (1, .int (s.2.1)), (2, .int (s.2.2))] [] M := by
  have key : ∀ n : Nat, ∀ (s : Nat × Int32 × Int32) (M : sg_M), sg_lp (bX11_worn_17 N) n s M = some r → sg_K Yr s.1 11 → sg_T Yr ad X 4 17 [(0, .ref (ad (s.1))), (1, .int (s.2.1)), (2, .int (s.2.2))] [] M := by
    intro n
    induction n with
    | zero => intro s M h; cases h
    | succ n ih =>
      intro s M h hq0
      have h : bX11_worn_17 N (sg_lp (bX11_worn_17 N) n) s M = some r := h
      generalize sg_lp (bX11_worn_17 N) n = k17 at h ih
      have hk17 := ih
      unfold bX11_worn_17 at h
      refine i_aload_n C dX11_worn_17 0 rfl ?_
      refine gf11_9 C hq0 dX11_worn_18 ?_
      refine s_bipush C (28 : Int32) dX11_worn_21 (by decide) ?_
      refine i_iload_n C dX11_worn_23 1 rfl ?_
      refine s_iadd C dX11_worn_24 ?_
      refine s_iald C (ky11_1 hq0) dX11_worn_25 h (fun h => ?_)
      refine s_if_le C 42 (by decide) dX11_worn_26 h (fun _ h => ?_) (fun _ h => ?_)
      · exact sg_T.to (tX11_worn_42 C E _ _ _ _ h hq0) [0, 1, 2] rfl
      · refine i_aload_n C dX11_worn_29 0 rfl ?_
        refine s_vcI C [] vmX11_ages lkX11_363 rfl rfl (by decide) hq0 (by decide) rfl rfl (Nat.le_of_ble_eq_true rfl) dX11_worn_30 (ctX11_ages C.inj hq0) h (fun x4 M3 h => ?_)
        refine s_if_eq C 42 (by decide) dX11_worn_33 h (fun _ h => ?_) (fun _ h => ?_)
        · exact sg_T.to (tX11_worn_42 C E _ _ _ _ h hq0) [0, 1, 2] rfl
        · refine z_iinc (n := 1) (c9 := (1 : Int32)) (by decide) h (fun x5 hx h => ?_)
          refine i_iinc (lv9 := [(2, _), (0, _), (1, _)]) C dX11_worn_36 2 rfl hx (by decide) rfl ?_
          refine s_goto C 17 (by decide) dX11_worn_39 ?_
          exact sg_T.to (hk17 _ _ h hq0) [1, 2, 0] rfl
  exact key N
def fX11_worn (N : Nat) (a0_ : Nat) (x1_ : Int32) (M : sg_M) : Option (Int32 × sg_M) :=
  sg_b (fX11_isStrap N a0_ x1_ M) (fun (x7 : Int32) (M6 : sg_M) =>
  if x7 = 0 then (
  some ((-2 : Int32), M6)) else (
  sg_bv (fX11_puts N a0_ M6) (fun M8 : sg_M =>
  sg_m (0 : Int32) (fun x9 : Int32 =>
  gX11_worn_17 N (a0_, x1_, x9) M8))))
set_option maxHeartbeats 4000000 in
set_option maxRecDepth 100000 in
theorem tX11_worn {ad : Nat → Nat} {X : sg_X} {N : Nat} {r : Int32 × sg_M} (C : sg_C Yr ad X cX11_worn RX11 4 7) (E : sg_eI Yr ad X cX11_worn .int r) : ∀ (a0_ : Nat) (x1_ : Int32) (M : sg_M), sg_K Yr a0_ 11 → fX11_worn N a0_ x1_ M = some r → sg_T Yr ad X 4 0 [(0, .ref (ad a0_)), (1, .int x1_)] [] M := by
  intro a0_ x1_ M hq0 h
  unfold fX11_worn at h
  refine i_aload_n C dX11_worn_0 0 rfl ?_
  refine i_iload_n C dX11_worn_1 1 rfl ?_
  refine s_vcI C [_] vmX11_isStrap lkX11_305 rfl rfl (by decide) hq0 (by decide) rfl rfl (Nat.le_of_ble_eq_true rfl) dX11_worn_2 (ctX11_isStrap C.inj hq0) h (fun x7 M6 h => ?_)
  refine s_if_ne C 11 (by decide) dX11_worn_5 h (fun _ h => ?_) (fun _ h => ?_)
  · refine s_bipush C (-2 : Int32) dX11_worn_8 (by decide) ?_
    exact s_iret C E dX11_worn_10 h
  · refine i_aload_n C dX11_worn_11 0 rfl ?_
    refine s_vcV C [] vmX11_puts lkX11_360 rfl rfl (by decide) hq0 (by decide) rfl rfl (Nat.le_of_ble_eq_true rfl) dX11_worn_12 (ctX11_puts C.inj hq0) h (fun M8 h => ?_)
    refine s_iconst C (0 : Int32) dX11_worn_15 (by decide) ?_
    refine z_gi h (fun x9 h => ?_)
    refine i_istore_n (lv9 := [(2, _), (0, _), (1, _)]) C 2 dX11_worn_16 rfl (by decide) rfl ?_
    exact sg_T.to (tX11_worn_17 C E _ _ h hq0) [1, 2, 0] rfl
theorem ctX11_worn {ad : Nat → Nat} {V : sg_V} {N : Nat} (hi : sg_inj Yr ad) {a0_ : Nat} {x1_ : Int32} {M : sg_M} (hq0 : sg_K Yr a0_ 11) : ∀ res, fX11_worn N a0_ x1_ M = some res → sg_cI Yr ad V yX11_worn cX11_worn 4 .int 7 [.ref (ad a0_), .int x1_] M res := fun res h => sg_bodyI (by decide) hi (Nat.le_of_ble_eq_true rfl) (fun X hX C E => by subst hX; exact tX11_worn C E _ _  _ hq0 h)
def bX11_calms_16 (N : Nat)  (k16 : (Nat × Int32) → sg_M → Option (Int32 × sg_M)) (s : Nat × Int32) (M : sg_M) : Option (Int32 × sg_M) :=
  sg_b (fX11_ages N s.1 M) (fun (x2 : Int32) (M1 : sg_M) =>
  if x2 = 0 then (
  sg_bv (fX11_takesOut N s.1 M1) (fun M3 : sg_M =>
  some (s.2, M3))) else (
  sg_m (s.2 + (1 : Int32)) (fun x4 : Int32 =>
  k16 (s.1, x4) M1)))
def gX11_calms_16 (N : Nat)  : (Nat × Int32) → sg_M → Option (Int32 × sg_M) := sg_lp (bX11_calms_16 N ) N
set_option maxHeartbeats 4000000 in
set_option maxRecDepth 100000 in
theorem tX11_calms_16 {ad : Nat → Nat} {X : sg_X} {N : Nat} {r : Int32 × sg_M} (C : sg_C Yr ad X cX11_calms RX11 2 7) (E : sg_eI Yr ad X cX11_calms .int r)  : ∀ (s : Nat × Int32) (M : sg_M), gX11_calms_16 N s M = some r → sg_K Yr s.1 11 → sg_T Yr ad X 2 16 [(0, .ref (ad (s.1))), (1, .int (s.2))] [] M := by
  have key : ∀ n : Nat, ∀ (s : Nat × Int32) (M : sg_M), sg_lp (bX11_calms_16 N) n s M = some r → sg_K Yr s.1 11 → sg_T Yr ad X 2 16 [(0, .ref (ad (s.1))), (1, .int (s.2))] [] M := by
    intro n
    induction n with
    | zero => intro s M h; cases h
    | succ n ih =>
      intro s M h hq0
      have h : bX11_calms_16 N (sg_lp (bX11_calms_16 N) n) s M = some r := h
      generalize sg_lp (bX11_calms_16 N) n = k16 at h ih
      have hk16 := ih
      unfold bX11_calms_16 at h
      refine i_aload_n C dX11_calms_16 0 rfl ?_
      refine s_vcI C [] vmX11_ages lkX11_363 rfl rfl (by decide) hq0 (by decide) rfl rfl (Nat.le_of_ble_eq_true rfl) dX11_calms_17 (ctX11_ages C.inj hq0) h (fun x2 M1 h => ?_)
      refine s_if_eq C 29 (by decide) dX11_calms_20 h (fun _ h => ?_) (fun _ h => ?_)
      · refine i_aload_n C dX11_calms_29 0 rfl ?_
        refine s_vcV C [] vmX11_takesOut lkX11_366 rfl rfl (by decide) hq0 (by decide) rfl rfl (Nat.le_of_ble_eq_true rfl) dX11_calms_30 (ctX11_takesOut C.inj hq0) h (fun M3 h => ?_)
        refine i_iload_n C dX11_calms_33 1 rfl ?_
        exact s_iret C E dX11_calms_34 h
      · refine z_iinc (n := 1) (c9 := (1 : Int32)) (by decide) h (fun x4 hx h => ?_)
        refine i_iinc (lv9 := [(1, _), (0, _)]) C dX11_calms_23 1 rfl hx (by decide) rfl ?_
        refine s_goto C 16 (by decide) dX11_calms_26 ?_
        exact sg_T.to (hk16 _ _ h hq0) [1, 0] rfl
  exact key N
def fX11_calms (N : Nat) (a0_ : Nat) (M : sg_M) : Option (Int32 × sg_M) :=
  sg_b (fX11_isGrid N a0_ M) (fun (x6 : Int32) (M5 : sg_M) =>
  if x6 = 0 then (
  some ((-2 : Int32), M5)) else (
  sg_bv (fX11_puts N a0_ M5) (fun M7 : sg_M =>
  sg_m (0 : Int32) (fun x8 : Int32 =>
  gX11_calms_16 N (a0_, x8) M7))))
set_option maxHeartbeats 4000000 in
set_option maxRecDepth 100000 in
theorem tX11_calms {ad : Nat → Nat} {X : sg_X} {N : Nat} {r : Int32 × sg_M} (C : sg_C Yr ad X cX11_calms RX11 2 7) (E : sg_eI Yr ad X cX11_calms .int r) : ∀ (a0_ : Nat) (M : sg_M), sg_K Yr a0_ 11 → fX11_calms N a0_ M = some r → sg_T Yr ad X 2 0 [(0, .ref (ad a0_))] [] M := by
  intro a0_ M hq0 h
  unfold fX11_calms at h
  refine i_aload_n C dX11_calms_0 0 rfl ?_
  refine s_vcI C [] vmX11_isGrid lkX11_109 rfl rfl (by decide) hq0 (by decide) rfl rfl (Nat.le_of_ble_eq_true rfl) dX11_calms_1 (ctX11_isGrid C.inj hq0) h (fun x6 M5 h => ?_)
  refine s_if_ne C 10 (by decide) dX11_calms_4 h (fun _ h => ?_) (fun _ h => ?_)
  · refine s_bipush C (-2 : Int32) dX11_calms_7 (by decide) ?_
    exact s_iret C E dX11_calms_9 h
  · refine i_aload_n C dX11_calms_10 0 rfl ?_
    refine s_vcV C [] vmX11_puts lkX11_360 rfl rfl (by decide) hq0 (by decide) rfl rfl (Nat.le_of_ble_eq_true rfl) dX11_calms_11 (ctX11_puts C.inj hq0) h (fun M7 h => ?_)
    refine s_iconst C (0 : Int32) dX11_calms_14 (by decide) ?_
    refine z_gi h (fun x8 h => ?_)
    refine i_istore_n (lv9 := [(1, _), (0, _)]) C 1 dX11_calms_15 rfl (by decide) rfl ?_
    exact sg_T.to (tX11_calms_16 C E _ _ h hq0) [1, 0] rfl
theorem ctX11_calms {ad : Nat → Nat} {V : sg_V} {N : Nat} (hi : sg_inj Yr ad) {a0_ : Nat} {M : sg_M} (hq0 : sg_K Yr a0_ 11) : ∀ res, fX11_calms N a0_ M = some res → sg_cI Yr ad V yX11_calms cX11_calms 2 .int 7 [.ref (ad a0_)] M res := fun res h => sg_bodyI (by decide) hi (Nat.le_of_ble_eq_true rfl) (fun X hX C E => by subst hX; exact tX11_calms C E _  _ hq0 h)
def fX11_scores (N : Nat) (a0_ : Nat) (M : sg_M) : Option (Int32 × sg_M) :=
  sg_bv (fX11_lays N a0_ M) (fun M1 : sg_M =>
  sg_b (fX11_deadLoads N a0_ M1) (fun (x3 : Int32) (M2 : sg_M) =>
  if x3 = (M2.1 a0_ 31) then (
  sg_b (fX11_mostDrop N a0_ M2) (fun (x5 : Int64) (M4 : sg_M) =>
  sg_b (fX11_compares N x5 (M4.2 a0_ 26) (M4.2 a0_ 32) (M4.2 a0_ 33) M4) (fun (x7 : Int32) (M6 : sg_M) =>
  some (x7, M6)))) else (
  sg_b (fX11_deadLoads N a0_ M2) (fun (x9 : Int32) (M8 : sg_M) =>
  if (M8.1 a0_ 31) ≤ x9 then (
  some ((1 : Int32), M8)) else (
  some ((-1 : Int32), M8))))))
set_option maxHeartbeats 4000000 in
set_option maxRecDepth 100000 in
theorem tX11_scores {ad : Nat → Nat} {X : sg_X} {N : Nat} {r : Int32 × sg_M} (C : sg_C Yr ad X cX11_scores RX11 1 5) (E : sg_eI Yr ad X cX11_scores .int r) : ∀ (a0_ : Nat) (M : sg_M), sg_K Yr a0_ 11 → fX11_scores N a0_ M = some r → sg_T Yr ad X 1 0 [(0, .ref (ad a0_))] [] M := by
  intro a0_ M hq0 h
  unfold fX11_scores at h
  refine i_aload_n C dX11_scores_0 0 rfl ?_
  refine s_vcV C [] vmX11_lays lkX11_292 rfl rfl (by decide) hq0 (by decide) rfl rfl (Nat.le_of_ble_eq_true rfl) dX11_scores_1 (ctX11_lays C.inj hq0) h (fun M1 h => ?_)
  refine i_aload_n C dX11_scores_4 0 rfl ?_
  refine s_vcI C [] vmX11_deadLoads lkX11_295 rfl rfl (by decide) hq0 (by decide) rfl rfl (Nat.le_of_ble_eq_true rfl) dX11_scores_5 (ctX11_deadLoads C.inj hq0) h (fun x3 M2 h => ?_)
  refine i_aload_n C dX11_scores_8 0 rfl ?_
  refine gf11_369 C hq0 dX11_scores_9 ?_
  refine s_icmp_eq C 32 (by decide) dX11_scores_12 h (fun _ h => ?_) (fun _ h => ?_)
  · refine i_aload_n C dX11_scores_32 0 rfl ?_
    refine s_vcL C [] vmX11_mostDrop lkX11_298 rfl rfl (by decide) hq0 (by decide) rfl rfl (Nat.le_of_ble_eq_true rfl) dX11_scores_33 (ctX11_mostDrop C.inj hq0) h (fun x5 M4 h => ?_)
    refine i_aload_n C dX11_scores_36 0 rfl ?_
    refine gf11_50 C hq0 dX11_scores_37 ?_
    refine i_aload_n C dX11_scores_40 0 rfl ?_
    refine gf11_372 C hq0 dX11_scores_41 ?_
    refine i_aload_n C dX11_scores_44 0 rfl ?_
    refine gf11_375 C hq0 dX11_scores_45 ?_
    refine s_scI C [_, _, _, _] smX11_compares lkX11_378 (by decide) rfl rfl (Nat.le_of_ble_eq_true rfl) dX11_scores_48 (ctX11_compares C.inj ) h (fun x7 M6 h => ?_)
    exact s_iret C E dX11_scores_51 h
  · refine i_aload_n C dX11_scores_15 0 rfl ?_
    refine s_vcI C [] vmX11_deadLoads lkX11_295 rfl rfl (by decide) hq0 (by decide) rfl rfl (Nat.le_of_ble_eq_true rfl) dX11_scores_16 (ctX11_deadLoads C.inj hq0) h (fun x9 M8 h => ?_)
    refine i_aload_n C dX11_scores_19 0 rfl ?_
    refine gf11_369 C hq0 dX11_scores_20 ?_
    refine s_icmp_ge C 30 (by decide) dX11_scores_23 h (fun _ h => ?_) (fun _ h => ?_)
    · refine s_iconst C (1 : Int32) dX11_scores_30 (by decide) ?_
      exact s_iret C E dX11_scores_31 h
    · refine s_iconst C (-1 : Int32) dX11_scores_26 (by decide) ?_
      refine s_goto C 31 (by decide) dX11_scores_27 ?_
      exact s_iret C E dX11_scores_31 h
theorem ctX11_scores {ad : Nat → Nat} {V : sg_V} {N : Nat} (hi : sg_inj Yr ad) {a0_ : Nat} {M : sg_M} (hq0 : sg_K Yr a0_ 11) : ∀ res, fX11_scores N a0_ M = some res → sg_cI Yr ad V yX11_scores cX11_scores 1 .int 5 [.ref (ad a0_)] M res := fun res h => sg_bodyI (by decide) hi (Nat.le_of_ble_eq_true rfl) (fun X hX C E => by subst hX; exact tX11_scores C E _  _ hq0 h)
def fX11_keeps (N : Nat) (a0_ : Nat) (M : sg_M) : Option (sg_M) :=
  sg_b (fX11_deadLoads N a0_ M) (fun (x2 : Int32) (M1 : sg_M) =>
  sg_m (sg_uI M1 a0_ 31 x2) (fun M3 : sg_M =>
  sg_b (fX11_mostDrop N a0_ M3) (fun (x5 : Int64) (M4 : sg_M) =>
  sg_m (sg_uJ M4 a0_ 32 x5) (fun M6 : sg_M =>
  sg_m (sg_uJ M6 a0_ 33 (M6.2 a0_ 26)) (fun M7 : sg_M =>
  some M7)))))
set_option maxHeartbeats 4000000 in
set_option maxRecDepth 100000 in
theorem tX11_keeps {ad : Nat → Nat} {X : sg_X} {N : Nat} {r : sg_M} (C : sg_C Yr ad X cX11_keeps RX11 1 3) (E : sg_eV Yr ad X cX11_keeps r) : ∀ (a0_ : Nat) (M : sg_M), sg_K Yr a0_ 11 → fX11_keeps N a0_ M = some r → sg_T Yr ad X 1 0 [(0, .ref (ad a0_))] [] M := by
  intro a0_ M hq0 h
  unfold fX11_keeps at h
  refine i_aload_n C dX11_keeps_0 0 rfl ?_
  refine i_aload_n C dX11_keeps_1 0 rfl ?_
  refine s_vcI C [] vmX11_deadLoads lkX11_295 rfl rfl (by decide) hq0 (by decide) rfl rfl (Nat.le_of_ble_eq_true rfl) dX11_keeps_2 (ctX11_deadLoads C.inj hq0) h (fun x2 M1 h => ?_)
  refine pf11_369 C hq0 dX11_keeps_5 ?_
  refine z_gM h (fun M3 h => ?_)
  refine i_aload_n C dX11_keeps_8 0 rfl ?_
  refine i_aload_n C dX11_keeps_9 0 rfl ?_
  refine s_vcL C [] vmX11_mostDrop lkX11_298 rfl rfl (by decide) hq0 (by decide) rfl rfl (Nat.le_of_ble_eq_true rfl) dX11_keeps_10 (ctX11_mostDrop C.inj hq0) h (fun x5 M4 h => ?_)
  refine pf11_372 C hq0 dX11_keeps_13 ?_
  refine z_gM h (fun M6 h => ?_)
  refine i_aload_n C dX11_keeps_16 0 rfl ?_
  refine i_aload_n C dX11_keeps_17 0 rfl ?_
  refine gf11_50 C hq0 dX11_keeps_18 ?_
  refine pf11_375 C hq0 dX11_keeps_21 ?_
  refine z_gM h (fun M7 h => ?_)
  exact s_vret C E dX11_keeps_24 h
theorem ctX11_keeps {ad : Nat → Nat} {V : sg_V} {N : Nat} (hi : sg_inj Yr ad) {a0_ : Nat} {M : sg_M} (hq0 : sg_K Yr a0_ 11) : ∀ res, fX11_keeps N a0_ M = some res → sg_cV Yr ad V yX11_keeps cX11_keeps 1 3 [.ref (ad a0_)] M res := fun res h => sg_bodyV (by decide) hi (Nat.le_of_ble_eq_true rfl) (fun X hX C E => by subst hX; exact tX11_keeps C E _  _ hq0 h)
def fX11_beginsWith (N : Nat) (a0_ : Nat) (M : sg_M) : Option (sg_M) :=
  sg_bv (fX11_lays N a0_ M) (fun M1 : sg_M =>
  sg_bv (fX11_keeps N a0_ M1) (fun M2 : sg_M =>
  some M2))
set_option maxHeartbeats 4000000 in
set_option maxRecDepth 100000 in
theorem tX11_beginsWith {ad : Nat → Nat} {X : sg_X} {N : Nat} {r : sg_M} (C : sg_C Yr ad X cX11_beginsWith RX11 1 5) (E : sg_eV Yr ad X cX11_beginsWith r) : ∀ (a0_ : Nat) (M : sg_M), sg_K Yr a0_ 11 → fX11_beginsWith N a0_ M = some r → sg_T Yr ad X 1 0 [(0, .ref (ad a0_))] [] M := by
  intro a0_ M hq0 h
  unfold fX11_beginsWith at h
  refine i_aload_n C dX11_beginsWith_0 0 rfl ?_
  refine s_vcV C [] vmX11_lays lkX11_292 rfl rfl (by decide) hq0 (by decide) rfl rfl (Nat.le_of_ble_eq_true rfl) dX11_beginsWith_1 (ctX11_lays C.inj hq0) h (fun M1 h => ?_)
  refine i_aload_n C dX11_beginsWith_4 0 rfl ?_
  refine s_vcV C [] vmX11_keeps lkX11_382 rfl rfl (by decide) hq0 (by decide) rfl rfl (Nat.le_of_ble_eq_true rfl) dX11_beginsWith_5 (ctX11_keeps C.inj hq0) h (fun M2 h => ?_)
  exact s_vret C E dX11_beginsWith_8 h
theorem ctX11_beginsWith {ad : Nat → Nat} {V : sg_V} {N : Nat} (hi : sg_inj Yr ad) {a0_ : Nat} {M : sg_M} (hq0 : sg_K Yr a0_ 11) : ∀ res, fX11_beginsWith N a0_ M = some res → sg_cV Yr ad V yX11_beginsWith cX11_beginsWith 1 5 [.ref (ad a0_)] M res := fun res h => sg_bodyV (by decide) hi (Nat.le_of_ble_eq_true rfl) (fun X hX C E => by subst hX; exact tX11_beginsWith C E _  _ hq0 h)
def fX11_beginsWithout (N : Nat) (a0_ : Nat) (M : sg_M) : Option (sg_M) :=
  sg_m (sg_uI M a0_ 31 (10 : Int32)) (fun M1 : sg_M =>
  sg_m (sg_uJ M1 a0_ 32 (0 : Int64)) (fun M2 : sg_M =>
  sg_m (sg_uJ M2 a0_ 33 (1 : Int64)) (fun M3 : sg_M =>
  some M3)))
set_option maxHeartbeats 4000000 in
set_option maxRecDepth 100000 in
theorem tX11_beginsWithout {ad : Nat → Nat} {X : sg_X} {N : Nat} {r : sg_M} (C : sg_C Yr ad X cX11_beginsWithout RX11 1 0) (E : sg_eV Yr ad X cX11_beginsWithout r) : ∀ (a0_ : Nat) (M : sg_M), sg_K Yr a0_ 11 → fX11_beginsWithout N a0_ M = some r → sg_T Yr ad X 1 0 [(0, .ref (ad a0_))] [] M := by
  intro a0_ M hq0 h
  unfold fX11_beginsWithout at h
  refine i_aload_n C dX11_beginsWithout_0 0 rfl ?_
  refine s_bipush C (10 : Int32) dX11_beginsWithout_1 (by decide) ?_
  refine pf11_369 C hq0 dX11_beginsWithout_3 ?_
  refine z_gM h (fun M1 h => ?_)
  refine i_aload_n C dX11_beginsWithout_6 0 rfl ?_
  refine s_lconst C (0 : Int64) dX11_beginsWithout_7 (by decide) ?_
  refine pf11_372 C hq0 dX11_beginsWithout_8 ?_
  refine z_gM h (fun M2 h => ?_)
  refine i_aload_n C dX11_beginsWithout_11 0 rfl ?_
  refine s_lconst C (1 : Int64) dX11_beginsWithout_12 (by decide) ?_
  refine pf11_375 C hq0 dX11_beginsWithout_13 ?_
  refine z_gM h (fun M3 h => ?_)
  exact s_vret C E dX11_beginsWithout_16 h
theorem ctX11_beginsWithout {ad : Nat → Nat} {V : sg_V} {N : Nat} (hi : sg_inj Yr ad) {a0_ : Nat} {M : sg_M} (hq0 : sg_K Yr a0_ 11) : ∀ res, fX11_beginsWithout N a0_ M = some res → sg_cV Yr ad V yX11_beginsWithout cX11_beginsWithout 1 0 [.ref (ad a0_)] M res := fun res h => sg_bodyV (by decide) hi (Nat.le_of_ble_eq_true rfl) (fun X hX C E => by subst hX; exact tX11_beginsWithout C E _  _ hq0 h)
def gX11_nextPad_57 (N : Nat) (k8 : (Nat × Int32 × Int32) → sg_M → Option (Int32 × sg_M)) (a0_ : Nat) (x1_ : Int32) (x2_ : Int32) (M : sg_M) : Option (Int32 × sg_M) :=
  if sg_ib (5 : Int32) (Yr.2.2.1 (Yr.2.2.2 a0_ 1)) = true then
  if sg_ib (5 : Int32) (Yr.2.2.1 (Yr.2.2.2 a0_ 1)) = true then
  sg_m (sg_uI M (Yr.2.2.2 a0_ 1) ((5 : Int32)).toNatClampNeg ((M.1 (Yr.2.2.2 a0_ 1) ((5 : Int32)).toNatClampNeg) &&& (((1 : Int32) <<< (x2_ &&& 31)) ^^^ (-1 : Int32)))) (fun M1 : sg_M =>
  sg_m (x2_ + (1 : Int32)) (fun x2 : Int32 =>
  k8 (a0_, x1_, x2) M1))
  else none
  else none
set_option maxHeartbeats 4000000 in
set_option maxRecDepth 100000 in
theorem tX11_nextPad_57 {ad : Nat → Nat} {X : sg_X} {N : Nat} {r : Int32 × sg_M} (C : sg_C Yr ad X cX11_nextPad RX11 3 6) (E : sg_eI Yr ad X cX11_nextPad .int r) {k8 : (Nat × Int32 × Int32) → sg_M → Option (Int32 × sg_M)} (hk8 : ∀ (s : Nat × Int32 × Int32) (M : sg_M), k8 s M = some r → sg_K Yr s.1 11 → sg_T Yr ad X 3 8 [(0, .ref (ad (s.1))), (1, .int (s.2.1)), (2, .int (s.2.2))] [] M) : ∀ (a0_ : Nat) (x1_ : Int32) (x2_ : Int32) (M : sg_M), gX11_nextPad_57 N k8 a0_ x1_ x2_ M = some r → sg_K Yr a0_ 11 → sg_T Yr ad X 3 57 [(0, .ref (ad a0_)), (1, .int x1_), (2, .int x2_)] [] M := by
  intro a0_ x1_ x2_ M h hq0
  unfold gX11_nextPad_57 at h
  refine i_aload_n C dX11_nextPad_57 0 rfl ?_
  refine gf11_9 C hq0 dX11_nextPad_58 ?_
  refine s_iconst C (5 : Int32) dX11_nextPad_61 (by decide) ?_
  refine s_dup2 C dX11_nextPad_62 rfl rfl ?_
  refine s_iald C (ky11_1 hq0) dX11_nextPad_63 h (fun h => ?_)
  refine s_iconst C (1 : Int32) dX11_nextPad_64 (by decide) ?_
  refine i_iload_n C dX11_nextPad_65 2 rfl ?_
  refine s_ishl C dX11_nextPad_66 ?_
  refine s_iconst C (-1 : Int32) dX11_nextPad_67 (by decide) ?_
  refine s_ixor C dX11_nextPad_68 ?_
  refine s_iand C dX11_nextPad_69 ?_
  refine s_iast C (ky11_1 hq0) dX11_nextPad_70 h (fun h => ?_)
  refine z_gM h (fun M1 h => ?_)
  refine z_iinc (n := 1) (c9 := (1 : Int32)) (by decide) h (fun x2 hx h => ?_)
  refine i_iinc (lv9 := [(2, _), (0, _), (1, _)]) C dX11_nextPad_71 2 rfl hx (by decide) rfl ?_
  refine s_goto C 8 (by decide) dX11_nextPad_74 ?_
  exact sg_T.to (hk8 _ _ h hq0) [1, 2, 0] rfl
def bX11_nextPad_8 (N : Nat)  (k8 : (Nat × Int32 × Int32) → sg_M → Option (Int32 × sg_M)) (s : Nat × Int32 × Int32) (M : sg_M) : Option (Int32 × sg_M) :=
  sg_b (fX11_nodes N s.1 M) (fun (x4 : Int32) (M3 : sg_M) =>
  if x4 ≤ s.2.2 then (
  some (s.2.1, M3)) else (
  if sg_ib (5 : Int32) (Yr.2.2.1 (Yr.2.2.2 s.1 1)) = true then
  sg_b (fX11_isOf N (M3.1 (Yr.2.2.2 s.1 1) ((5 : Int32)).toNatClampNeg) s.2.2 M3) (fun (x6 : Int32) (M5 : sg_M) =>
  if x6 = 0 then (
  if sg_ib (5 : Int32) (Yr.2.2.1 (Yr.2.2.2 s.1 1)) = true then
  if sg_ib (5 : Int32) (Yr.2.2.1 (Yr.2.2.2 s.1 1)) = true then
  sg_m (sg_uI M5 (Yr.2.2.2 s.1 1) ((5 : Int32)).toNatClampNeg ((M5.1 (Yr.2.2.2 s.1 1) ((5 : Int32)).toNatClampNeg) ||| ((1 : Int32) <<< (s.2.2 &&& 31)))) (fun M7 : sg_M =>
  sg_b (fX11_scores N s.1 M7) (fun (x9 : Int32) (M8 : sg_M) =>
  if 0 ≤ x9 then (
  gX11_nextPad_57 N k8 s.1 s.2.1 s.2.2 M8) else (
  sg_m s.2.2 (fun x10 : Int32 =>
  sg_bv (fX11_keeps N s.1 M8) (fun M11 : sg_M =>
  gX11_nextPad_57 N k8 s.1 x10 s.2.2 M11)))))
  else none
  else none) else (
  sg_m (s.2.2 + (1 : Int32)) (fun x12 : Int32 =>
  k8 (s.1, s.2.1, x12) M5)))
  else none))
def gX11_nextPad_8 (N : Nat)  : (Nat × Int32 × Int32) → sg_M → Option (Int32 × sg_M) := sg_lp (bX11_nextPad_8 N ) N
set_option maxHeartbeats 4000000 in
set_option maxRecDepth 100000 in
theorem tX11_nextPad_8 {ad : Nat → Nat} {X : sg_X} {N : Nat} {r : Int32 × sg_M} (C : sg_C Yr ad X cX11_nextPad RX11 3 6) (E : sg_eI Yr ad X cX11_nextPad .int r)  : ∀ (s : Nat × Int32 × Int32) (M : sg_M), gX11_nextPad_8 N s M = some r → sg_K Yr s.1 11 → sg_T Yr ad X 3 8 [(0, .ref (ad (s.1))), (1, .int (s.2.1)), (2, .int (s.2.2))] [] M := by
  have key : ∀ n : Nat, ∀ (s : Nat × Int32 × Int32) (M : sg_M), sg_lp (bX11_nextPad_8 N) n s M = some r → sg_K Yr s.1 11 → sg_T Yr ad X 3 8 [(0, .ref (ad (s.1))), (1, .int (s.2.1)), (2, .int (s.2.2))] [] M := by
    intro n
    induction n with
    | zero => intro s M h; cases h
    | succ n ih =>
      intro s M h hq0
      have h : bX11_nextPad_8 N (sg_lp (bX11_nextPad_8 N) n) s M = some r := h
      generalize sg_lp (bX11_nextPad_8 N) n = k8 at h ih
      have hk8 := ih
      unfold bX11_nextPad_8 at h
      refine i_iload_n C dX11_nextPad_8 2 rfl ?_
      refine i_aload_n C dX11_nextPad_9 0 rfl ?_
      refine s_vcI C [] vmX11_nodes lkX11_98 rfl rfl (by decide) hq0 (by decide) rfl rfl (Nat.le_of_ble_eq_true rfl) dX11_nextPad_10 (ctX11_nodes C.inj hq0) h (fun x4 M3 h => ?_)
      refine s_icmp_ge C 77 (by decide) dX11_nextPad_13 h (fun _ h => ?_) (fun _ h => ?_)
      · refine i_iload_n C dX11_nextPad_77 1 rfl ?_
        exact s_iret C E dX11_nextPad_78 h
      · refine i_aload_n C dX11_nextPad_16 0 rfl ?_
        refine gf11_9 C hq0 dX11_nextPad_17 ?_
        refine s_iconst C (5 : Int32) dX11_nextPad_20 (by decide) ?_
        refine s_iald C (ky11_1 hq0) dX11_nextPad_21 h (fun h => ?_)
        refine i_iload_n C dX11_nextPad_22 2 rfl ?_
        refine s_scI C [_, _] smX11_isOf lkX11_209 (by decide) rfl rfl (Nat.le_of_ble_eq_true rfl) dX11_nextPad_23 (ctX11_isOf C.inj ) h (fun x6 M5 h => ?_)
        refine s_if_eq C 32 (by decide) dX11_nextPad_26 h (fun _ h => ?_) (fun _ h => ?_)
        · refine i_aload_n C dX11_nextPad_32 0 rfl ?_
          refine gf11_9 C hq0 dX11_nextPad_33 ?_
          refine s_iconst C (5 : Int32) dX11_nextPad_36 (by decide) ?_
          refine s_dup2 C dX11_nextPad_37 rfl rfl ?_
          refine s_iald C (ky11_1 hq0) dX11_nextPad_38 h (fun h => ?_)
          refine s_iconst C (1 : Int32) dX11_nextPad_39 (by decide) ?_
          refine i_iload_n C dX11_nextPad_40 2 rfl ?_
          refine s_ishl C dX11_nextPad_41 ?_
          refine s_ior C dX11_nextPad_42 ?_
          refine s_iast C (ky11_1 hq0) dX11_nextPad_43 h (fun h => ?_)
          refine z_gM h (fun M7 h => ?_)
          refine i_aload_n C dX11_nextPad_44 0 rfl ?_
          refine s_vcI C [] vmX11_scores lkX11_388 rfl rfl (by decide) hq0 (by decide) rfl rfl (Nat.le_of_ble_eq_true rfl) dX11_nextPad_45 (ctX11_scores C.inj hq0) h (fun x9 M8 h => ?_)
          refine s_if_ge C 57 (by decide) dX11_nextPad_48 h (fun _ h => ?_) (fun _ h => ?_)
          · exact sg_T.to (tX11_nextPad_57 C E hk8 _ _ _ _ h hq0) [0, 1, 2] rfl
          · refine i_iload_n C dX11_nextPad_51 2 rfl ?_
            refine z_gi h (fun x10 h => ?_)
            refine i_istore_n (lv9 := [(1, _), (0, _), (2, _)]) C 1 dX11_nextPad_52 rfl (by decide) rfl ?_
            refine i_aload_n C dX11_nextPad_53 1 rfl ?_
            refine s_vcV C [] vmX11_keeps lkX11_382 rfl rfl (by decide) hq0 (by decide) rfl rfl (Nat.le_of_ble_eq_true rfl) dX11_nextPad_54 (ctX11_keeps C.inj hq0) h (fun M11 h => ?_)
            exact sg_T.to (tX11_nextPad_57 C E hk8 _ _ _ _ h hq0) [1, 0, 2] rfl
        · refine s_goto C 71 (by decide) dX11_nextPad_29 ?_
          refine z_iinc (n := 1) (c9 := (1 : Int32)) (by decide) h (fun x12 hx h => ?_)
          refine i_iinc (lv9 := [(2, _), (0, _), (1, _)]) C dX11_nextPad_71 2 rfl hx (by decide) rfl ?_
          refine s_goto C 8 (by decide) dX11_nextPad_74 ?_
          exact sg_T.to (hk8 _ _ h hq0) [1, 2, 0] rfl
  exact key N
def fX11_nextPad (N : Nat) (a0_ : Nat) (M : sg_M) : Option (Int32 × sg_M) :=
  sg_bv (fX11_beginsWithout N a0_ M) (fun M13 : sg_M =>
  sg_m (-1 : Int32) (fun x14 : Int32 =>
  sg_m (0 : Int32) (fun x15 : Int32 =>
  gX11_nextPad_8 N (a0_, x14, x15) M13)))
set_option maxHeartbeats 4000000 in
set_option maxRecDepth 100000 in
theorem tX11_nextPad {ad : Nat → Nat} {X : sg_X} {N : Nat} {r : Int32 × sg_M} (C : sg_C Yr ad X cX11_nextPad RX11 3 6) (E : sg_eI Yr ad X cX11_nextPad .int r) : ∀ (a0_ : Nat) (M : sg_M), sg_K Yr a0_ 11 → fX11_nextPad N a0_ M = some r → sg_T Yr ad X 3 0 [(0, .ref (ad a0_))] [] M := by
  intro a0_ M hq0 h
  unfold fX11_nextPad at h
  refine i_aload_n C dX11_nextPad_0 0 rfl ?_
  refine s_vcV C [] vmX11_beginsWithout lkX11_385 rfl rfl (by decide) hq0 (by decide) rfl rfl (Nat.le_of_ble_eq_true rfl) dX11_nextPad_1 (ctX11_beginsWithout C.inj hq0) h (fun M13 h => ?_)
  refine s_iconst C (-1 : Int32) dX11_nextPad_4 (by decide) ?_
  refine z_gi h (fun x14 h => ?_)
  refine i_istore_n (lv9 := [(1, _), (0, _)]) C 1 dX11_nextPad_5 rfl (by decide) rfl ?_
  refine s_iconst C (0 : Int32) dX11_nextPad_6 (by decide) ?_
  refine z_gi h (fun x15 h => ?_)
  refine i_istore_n (lv9 := [(2, _), (1, _), (0, _)]) C 2 dX11_nextPad_7 rfl (by decide) rfl ?_
  exact sg_T.to (tX11_nextPad_8 C E _ _ h hq0) [2, 1, 0] rfl
theorem ctX11_nextPad {ad : Nat → Nat} {V : sg_V} {N : Nat} (hi : sg_inj Yr ad) {a0_ : Nat} {M : sg_M} (hq0 : sg_K Yr a0_ 11) : ∀ res, fX11_nextPad N a0_ M = some res → sg_cI Yr ad V yX11_nextPad cX11_nextPad 3 .int 6 [.ref (ad a0_)] M res := fun res h => sg_bodyI (by decide) hi (Nat.le_of_ble_eq_true rfl) (fun X hX C E => by subst hX; exact tX11_nextPad C E _  _ hq0 h)
def gX11_pad_58 (N : Nat)  (a0_ : Nat) (x2_ : Int32) (M : sg_M) : Option (Int32 × sg_M) :=
  sg_bv (fX11_takesOut N a0_ M) (fun M1 : sg_M =>
  some (x2_, M1))
set_option maxHeartbeats 4000000 in
set_option maxRecDepth 100000 in
theorem tX11_pad_58 {ad : Nat → Nat} {X : sg_X} {N : Nat} {r : Int32 × sg_M} (C : sg_C Yr ad X cX11_pad RX11 4 7) (E : sg_eI Yr ad X cX11_pad .int r)  : ∀ (a0_ : Nat) (x2_ : Int32) (M : sg_M), gX11_pad_58 N a0_ x2_ M = some r → sg_K Yr a0_ 11 → sg_T Yr ad X 4 58 [(0, .ref (ad a0_)), (2, .int x2_)] [] M := by
  intro a0_ x2_ M h hq0
  unfold gX11_pad_58 at h
  refine i_aload_n C dX11_pad_58 0 rfl ?_
  refine s_vcV C [] vmX11_takesOut lkX11_366 rfl rfl (by decide) hq0 (by decide) rfl rfl (Nat.le_of_ble_eq_true rfl) dX11_pad_59 (ctX11_takesOut C.inj hq0) h (fun M1 h => ?_)
  refine i_iload_n C dX11_pad_62 1 rfl ?_
  exact s_iret C E dX11_pad_63 h
def bX11_pad_25 (N : Nat)  (k25 : (Nat × Int32 × Int32 × Int32) → sg_M → Option (Int32 × sg_M)) (s : Nat × Int32 × Int32 × Int32) (M : sg_M) : Option (Int32 × sg_M) :=
  if s.2.1 ≤ s.2.2.2 then (
  gX11_pad_58 N s.1 s.2.2.1 M) else (
  if s.2.2.1 = (-1 : Int32) then (
  gX11_pad_58 N s.1 s.2.2.1 M) else (
  if sg_ib (5 : Int32) (Yr.2.2.1 (Yr.2.2.2 s.1 1)) = true then
  if sg_ib (5 : Int32) (Yr.2.2.1 (Yr.2.2.2 s.1 1)) = true then
  sg_m (sg_uI M (Yr.2.2.2 s.1 1) ((5 : Int32)).toNatClampNeg ((M.1 (Yr.2.2.2 s.1 1) ((5 : Int32)).toNatClampNeg) ||| ((1 : Int32) <<< (s.2.2.1 &&& 31)))) (fun M2 : sg_M =>
  sg_b (fX11_nextPad N s.1 M2) (fun (x4 : Int32) (M3 : sg_M) =>
  sg_m x4 (fun x5 : Int32 =>
  sg_m (s.2.2.2 + (1 : Int32)) (fun x6 : Int32 =>
  k25 (s.1, s.2.1, x5, x6) M3))))
  else none
  else none))
def gX11_pad_25 (N : Nat)  : (Nat × Int32 × Int32 × Int32) → sg_M → Option (Int32 × sg_M) := sg_lp (bX11_pad_25 N ) N
set_option maxHeartbeats 4000000 in
set_option maxRecDepth 100000 in
theorem tX11_pad_25 {ad : Nat → Nat} {X : sg_X} {N : Nat} {r : Int32 × sg_M} (C : sg_C Yr ad X cX11_pad RX11 4 7) (E : sg_eI Yr ad X cX11_pad .int r)  : ∀ (s : Nat × Int32 × Int32 × Int32) (M : sg_M), gX11_pad_25 N s M = some r → sg_K Yr s.1 11 → sg_T Yr ad X 4 25 [(0, .ref (ad (s.1))), (1, .int (s.2.1)), (2, .int (s.2.2.1)), (3, .int (s.2.2.2))] [] M := by
  have key : ∀ n : Nat, ∀ (s : Nat × Int32 × Int32 × Int32) (M : sg_M), sg_lp (bX11_pad_25 N) n s M = some r → sg_K Yr s.1 11 → sg_T Yr ad X 4 25 [(0, .ref (ad (s.1))), (1, .int (s.2.1)), (2, .int (s.2.2.1)), (3, .int (s.2.2.2))] [] M := by
    intro n
    induction n with
    | zero => intro s M h; cases h
    | succ n ih =>
      intro s M h hq0
      have h : bX11_pad_25 N (sg_lp (bX11_pad_25 N) n) s M = some r := h
      generalize sg_lp (bX11_pad_25 N) n = k25 at h ih
      have hk25 := ih
      unfold bX11_pad_25 at h
      refine i_iload_n C dX11_pad_25 3 rfl ?_
      refine i_iload_n C dX11_pad_26 1 rfl ?_
      refine s_icmp_ge C 58 (by decide) dX11_pad_27 h (fun _ h => ?_) (fun _ h => ?_)
      · exact sg_T.to (tX11_pad_58 C E _ _ _ h hq0) [0, 2] rfl
      · refine i_iload_n C dX11_pad_30 2 rfl ?_
        refine s_iconst C (-1 : Int32) dX11_pad_31 (by decide) ?_
        refine s_icmp_eq C 58 (by decide) dX11_pad_32 h (fun _ h => ?_) (fun _ h => ?_)
        · exact sg_T.to (tX11_pad_58 C E _ _ _ h hq0) [0, 2] rfl
        · refine i_aload_n C dX11_pad_35 0 rfl ?_
          refine gf11_9 C hq0 dX11_pad_36 ?_
          refine s_iconst C (5 : Int32) dX11_pad_39 (by decide) ?_
          refine s_dup2 C dX11_pad_40 rfl rfl ?_
          refine s_iald C (ky11_1 hq0) dX11_pad_41 h (fun h => ?_)
          refine s_iconst C (1 : Int32) dX11_pad_42 (by decide) ?_
          refine i_iload_n C dX11_pad_43 2 rfl ?_
          refine s_ishl C dX11_pad_44 ?_
          refine s_ior C dX11_pad_45 ?_
          refine s_iast C (ky11_1 hq0) dX11_pad_46 h (fun h => ?_)
          refine z_gM h (fun M2 h => ?_)
          refine i_aload_n C dX11_pad_47 0 rfl ?_
          refine s_vcI C [] vmX11_nextPad lkX11_391 rfl rfl (by decide) hq0 (by decide) rfl rfl (Nat.le_of_ble_eq_true rfl) dX11_pad_48 (ctX11_nextPad C.inj hq0) h (fun x4 M3 h => ?_)
          refine z_gi h (fun x5 h => ?_)
          refine i_istore_n (lv9 := [(2, _), (0, _), (1, _), (3, _)]) C 2 dX11_pad_51 rfl (by decide) rfl ?_
          refine z_iinc (n := 1) (c9 := (1 : Int32)) (by decide) h (fun x6 hx h => ?_)
          refine i_iinc (lv9 := [(3, _), (2, _), (0, _), (1, _)]) C dX11_pad_52 3 rfl hx (by decide) rfl ?_
          refine s_goto C 25 (by decide) dX11_pad_55 ?_
          exact sg_T.to (hk25 _ _ h hq0) [2, 3, 1, 0] rfl
  exact key N
def fX11_pad (N : Nat) (a0_ : Nat) (x1_ : Int32) (M : sg_M) : Option (Int32 × sg_M) :=
  sg_b (fX11_isGrid N a0_ M) (fun (x8 : Int32) (M7 : sg_M) =>
  if x8 = 0 then (
  some ((-2 : Int32), M7)) else (
  if 0 ≤ x1_ then (
  sg_bv (fX11_puts N a0_ M7) (fun M9 : sg_M =>
  sg_b (fX11_nextPad N a0_ M9) (fun (x11 : Int32) (M10 : sg_M) =>
  sg_m x11 (fun x12 : Int32 =>
  sg_m (0 : Int32) (fun x13 : Int32 =>
  gX11_pad_25 N (a0_, x1_, x12, x13) M10))))) else (
  some ((-2 : Int32), M7))))
set_option maxHeartbeats 4000000 in
set_option maxRecDepth 100000 in
theorem tX11_pad {ad : Nat → Nat} {X : sg_X} {N : Nat} {r : Int32 × sg_M} (C : sg_C Yr ad X cX11_pad RX11 4 7) (E : sg_eI Yr ad X cX11_pad .int r) : ∀ (a0_ : Nat) (x1_ : Int32) (M : sg_M), sg_K Yr a0_ 11 → fX11_pad N a0_ x1_ M = some r → sg_T Yr ad X 4 0 [(0, .ref (ad a0_)), (1, .int x1_)] [] M := by
  intro a0_ x1_ M hq0 h
  unfold fX11_pad at h
  refine i_aload_n C dX11_pad_0 0 rfl ?_
  refine s_vcI C [] vmX11_isGrid lkX11_109 rfl rfl (by decide) hq0 (by decide) rfl rfl (Nat.le_of_ble_eq_true rfl) dX11_pad_1 (ctX11_isGrid C.inj hq0) h (fun x8 M7 h => ?_)
  refine s_if_eq C 11 (by decide) dX11_pad_4 h (fun _ h => ?_) (fun _ h => ?_)
  · refine s_bipush C (-2 : Int32) dX11_pad_11 (by decide) ?_
    exact s_iret C E dX11_pad_13 h
  · refine i_iload_n C dX11_pad_7 1 rfl ?_
    refine s_if_ge C 14 (by decide) dX11_pad_8 h (fun _ h => ?_) (fun _ h => ?_)
    · refine i_aload_n C dX11_pad_14 0 rfl ?_
      refine s_vcV C [] vmX11_puts lkX11_360 rfl rfl (by decide) hq0 (by decide) rfl rfl (Nat.le_of_ble_eq_true rfl) dX11_pad_15 (ctX11_puts C.inj hq0) h (fun M9 h => ?_)
      refine i_aload_n C dX11_pad_18 0 rfl ?_
      refine s_vcI C [] vmX11_nextPad lkX11_391 rfl rfl (by decide) hq0 (by decide) rfl rfl (Nat.le_of_ble_eq_true rfl) dX11_pad_19 (ctX11_nextPad C.inj hq0) h (fun x11 M10 h => ?_)
      refine z_gi h (fun x12 h => ?_)
      refine i_istore_n (lv9 := [(2, _), (0, _), (1, _)]) C 2 dX11_pad_22 rfl (by decide) rfl ?_
      refine s_iconst C (0 : Int32) dX11_pad_23 (by decide) ?_
      refine z_gi h (fun x13 h => ?_)
      refine i_istore_n (lv9 := [(3, _), (2, _), (0, _), (1, _)]) C 3 dX11_pad_24 rfl (by decide) rfl ?_
      exact sg_T.to (tX11_pad_25 C E _ _ h hq0) [2, 3, 1, 0] rfl
    · refine s_bipush C (-2 : Int32) dX11_pad_11 (by decide) ?_
      exact s_iret C E dX11_pad_13 h
theorem ctX11_pad {ad : Nat → Nat} {V : sg_V} {N : Nat} (hi : sg_inj Yr ad) {a0_ : Nat} {x1_ : Int32} {M : sg_M} (hq0 : sg_K Yr a0_ 11) : ∀ res, fX11_pad N a0_ x1_ M = some res → sg_cI Yr ad V yX11_pad cX11_pad 4 .int 7 [.ref (ad a0_), .int x1_] M res := fun res h => sg_bodyI (by decide) hi (Nat.le_of_ble_eq_true rfl) (fun X hX C E => by subst hX; exact tX11_pad C E _ _  _ hq0 h)
def bX11_bestPads_16 (N : Nat)  (k16 : (Nat × Int32 × Int32 × Int32 × Int32) → sg_M → Option (Int32 × sg_M)) (s : Nat × Int32 × Int32 × Int32 × Int32) (M : sg_M) : Option (Int32 × sg_M) :=
  if (512 : Int32) ≤ s.2.2.2.2 then (
  if sg_ib (5 : Int32) (Yr.2.2.1 (Yr.2.2.2 s.1 1)) = true then
  sg_m (sg_uI M (Yr.2.2.2 s.1 1) ((5 : Int32)).toNatClampNeg s.2.2.2.1) (fun M1 : sg_M =>
  some (s.2.2.1, M1))
  else none) else (
  sg_b (fX11_nodes N s.1 M) (fun (x3 : Int32) (M2 : sg_M) =>
  if ((1 : Int32) <<< (x3 &&& 31)) ≤ s.2.2.2.2 then (
  sg_m (s.2.2.2.2 + (1 : Int32)) (fun x4 : Int32 =>
  k16 (s.1, s.2.1, s.2.2.1, s.2.2.2.1, x4) M2)) else (
  sg_b (fX11_bits N s.2.2.2.2 M2) (fun (x6 : Int32) (M5 : sg_M) =>
  if x6 = s.2.1 then (
  if (s.2.2.2.2 &&& s.2.2.2.1) = 0 then (
  if sg_ib (5 : Int32) (Yr.2.2.1 (Yr.2.2.2 s.1 1)) = true then
  sg_m (sg_uI M5 (Yr.2.2.2 s.1 1) ((5 : Int32)).toNatClampNeg (s.2.2.2.1 ||| s.2.2.2.2)) (fun M7 : sg_M =>
  sg_b (fX11_scores N s.1 M7) (fun (x9 : Int32) (M8 : sg_M) =>
  if 0 ≤ x9 then (
  sg_m (s.2.2.2.2 + (1 : Int32)) (fun x10 : Int32 =>
  k16 (s.1, s.2.1, s.2.2.1, s.2.2.2.1, x10) M8)) else (
  sg_m s.2.2.2.2 (fun x11 : Int32 =>
  sg_bv (fX11_keeps N s.1 M8) (fun M12 : sg_M =>
  sg_m (s.2.2.2.2 + (1 : Int32)) (fun x13 : Int32 =>
  k16 (s.1, s.2.1, x11, s.2.2.2.1, x13) M12))))))
  else none) else (
  sg_m (s.2.2.2.2 + (1 : Int32)) (fun x14 : Int32 =>
  k16 (s.1, s.2.1, s.2.2.1, s.2.2.2.1, x14) M5))) else (
  sg_m (s.2.2.2.2 + (1 : Int32)) (fun x15 : Int32 =>
  k16 (s.1, s.2.1, s.2.2.1, s.2.2.2.1, x15) M5))))))
def gX11_bestPads_16 (N : Nat)  : (Nat × Int32 × Int32 × Int32 × Int32) → sg_M → Option (Int32 × sg_M) := sg_lp (bX11_bestPads_16 N ) N
set_option maxHeartbeats 4000000 in
set_option maxRecDepth 100000 in
theorem tX11_bestPads_16 {ad : Nat → Nat} {X : sg_X} {N : Nat} {r : Int32 × sg_M} (C : sg_C Yr ad X cX11_bestPads RX11 5 6) (E : sg_eI Yr ad X cX11_bestPads .int r)  : ∀ (s : Nat × Int32 × Int32 × Int32 × Int32) (M : sg_M), gX11_bestPads_16 N s M = some r → sg_K Yr s.1 11 → sg_T Yr ad X 5 16 [(0, .ref (ad (s.1))), (1, .int (s.2.1)), (2, .int (s.2.2.1)), (3, .int (s.2.2.2.1)), (4, .int (s.2.2.2.2))] [] M := by
  have key : ∀ n : Nat, ∀ (s : Nat × Int32 × Int32 × Int32 × Int32) (M : sg_M), sg_lp (bX11_bestPads_16 N) n s M = some r → sg_K Yr s.1 11 → sg_T Yr ad X 5 16 [(0, .ref (ad (s.1))), (1, .int (s.2.1)), (2, .int (s.2.2.1)), (3, .int (s.2.2.2.1)), (4, .int (s.2.2.2.2))] [] M := by
    intro n
    induction n with
    | zero => intro s M h; cases h
    | succ n ih =>
      intro s M h hq0
      have h : bX11_bestPads_16 N (sg_lp (bX11_bestPads_16 N) n) s M = some r := h
      generalize sg_lp (bX11_bestPads_16 N) n = k16 at h ih
      have hk16 := ih
      unfold bX11_bestPads_16 at h
      refine i_iload C dX11_bestPads_16 4 rfl ?_
      refine s_sipush C (512 : Int32) dX11_bestPads_18 (by decide) ?_
      refine s_icmp_ge C 84 (by decide) dX11_bestPads_21 h (fun _ h => ?_) (fun _ h => ?_)
      · refine i_aload_n C dX11_bestPads_84 0 rfl ?_
        refine gf11_9 C hq0 dX11_bestPads_85 ?_
        refine s_iconst C (5 : Int32) dX11_bestPads_88 (by decide) ?_
        refine i_iload_n C dX11_bestPads_89 3 rfl ?_
        refine s_iast C (ky11_1 hq0) dX11_bestPads_90 h (fun h => ?_)
        refine z_gM h (fun M1 h => ?_)
        refine i_iload_n C dX11_bestPads_91 2 rfl ?_
        exact s_iret C E dX11_bestPads_92 h
      · refine i_iload C dX11_bestPads_24 4 rfl ?_
        refine s_iconst C (1 : Int32) dX11_bestPads_26 (by decide) ?_
        refine i_aload_n C dX11_bestPads_27 0 rfl ?_
        refine s_vcI C [] vmX11_nodes lkX11_98 rfl rfl (by decide) hq0 (by decide) rfl rfl (Nat.le_of_ble_eq_true rfl) dX11_bestPads_28 (ctX11_nodes C.inj hq0) h (fun x3 M2 h => ?_)
        refine s_ishl C dX11_bestPads_31 ?_
        refine s_icmp_ge C 78 (by decide) dX11_bestPads_32 h (fun _ h => ?_) (fun _ h => ?_)
        · refine z_iinc (n := 1) (c9 := (1 : Int32)) (by decide) h (fun x4 hx h => ?_)
          refine i_iinc (lv9 := [(4, _), (0, _), (1, _), (2, _), (3, _)]) C dX11_bestPads_78 4 rfl hx (by decide) rfl ?_
          refine s_goto C 16 (by decide) dX11_bestPads_81 ?_
          exact sg_T.to (hk16 _ _ h hq0) [1, 2, 3, 4, 0] rfl
        · refine i_iload C dX11_bestPads_35 4 rfl ?_
          refine s_scI C [_] smX11_bits lkX11_394 (by decide) rfl rfl (Nat.le_of_ble_eq_true rfl) dX11_bestPads_37 (ctX11_bits C.inj ) h (fun x6 M5 h => ?_)
          refine i_iload_n C dX11_bestPads_40 1 rfl ?_
          refine s_icmp_ne C 78 (by decide) dX11_bestPads_41 h (fun _ h => ?_) (fun _ h => ?_)
          · refine i_iload C dX11_bestPads_44 4 rfl ?_
            refine i_iload_n C dX11_bestPads_46 3 rfl ?_
            refine s_iand C dX11_bestPads_47 ?_
            refine s_if_eq C 54 (by decide) dX11_bestPads_48 h (fun _ h => ?_) (fun _ h => ?_)
            · refine i_aload_n C dX11_bestPads_54 0 rfl ?_
              refine gf11_9 C hq0 dX11_bestPads_55 ?_
              refine s_iconst C (5 : Int32) dX11_bestPads_58 (by decide) ?_
              refine i_iload_n C dX11_bestPads_59 3 rfl ?_
              refine i_iload C dX11_bestPads_60 4 rfl ?_
              refine s_ior C dX11_bestPads_62 ?_
              refine s_iast C (ky11_1 hq0) dX11_bestPads_63 h (fun h => ?_)
              refine z_gM h (fun M7 h => ?_)
              refine i_aload_n C dX11_bestPads_64 0 rfl ?_
              refine s_vcI C [] vmX11_scores lkX11_388 rfl rfl (by decide) hq0 (by decide) rfl rfl (Nat.le_of_ble_eq_true rfl) dX11_bestPads_65 (ctX11_scores C.inj hq0) h (fun x9 M8 h => ?_)
              refine s_if_ge C 78 (by decide) dX11_bestPads_68 h (fun _ h => ?_) (fun _ h => ?_)
              · refine z_iinc (n := 1) (c9 := (1 : Int32)) (by decide) h (fun x10 hx h => ?_)
                refine i_iinc (lv9 := [(4, _), (0, _), (1, _), (2, _), (3, _)]) C dX11_bestPads_78 4 rfl hx (by decide) rfl ?_
                refine s_goto C 16 (by decide) dX11_bestPads_81 ?_
                exact sg_T.to (hk16 _ _ h hq0) [1, 2, 3, 4, 0] rfl
              · refine i_iload C dX11_bestPads_71 4 rfl ?_
                refine z_gi h (fun x11 h => ?_)
                refine i_istore_n (lv9 := [(2, _), (0, _), (1, _), (3, _), (4, _)]) C 2 dX11_bestPads_73 rfl (by decide) rfl ?_
                refine i_aload_n C dX11_bestPads_74 1 rfl ?_
                refine s_vcV C [] vmX11_keeps lkX11_382 rfl rfl (by decide) hq0 (by decide) rfl rfl (Nat.le_of_ble_eq_true rfl) dX11_bestPads_75 (ctX11_keeps C.inj hq0) h (fun M12 h => ?_)
                refine z_iinc (n := 1) (c9 := (1 : Int32)) (by decide) h (fun x13 hx h => ?_)
                refine i_iinc (lv9 := [(4, _), (2, _), (0, _), (1, _), (3, _)]) C dX11_bestPads_78 4 rfl hx (by decide) rfl ?_
                refine s_goto C 16 (by decide) dX11_bestPads_81 ?_
                exact sg_T.to (hk16 _ _ h hq0) [2, 3, 1, 4, 0] rfl
            · refine s_goto C 78 (by decide) dX11_bestPads_51 ?_
              refine z_iinc (n := 1) (c9 := (1 : Int32)) (by decide) h (fun x14 hx h => ?_)
              refine i_iinc (lv9 := [(4, _), (0, _), (1, _), (2, _), (3, _)]) C dX11_bestPads_78 4 rfl hx (by decide) rfl ?_
              refine s_goto C 16 (by decide) dX11_bestPads_81 ?_
              exact sg_T.to (hk16 _ _ h hq0) [1, 2, 3, 4, 0] rfl
          · refine z_iinc (n := 1) (c9 := (1 : Int32)) (by decide) h (fun x15 hx h => ?_)
            refine i_iinc (lv9 := [(4, _), (0, _), (1, _), (2, _), (3, _)]) C dX11_bestPads_78 4 rfl hx (by decide) rfl ?_
            refine s_goto C 16 (by decide) dX11_bestPads_81 ?_
            exact sg_T.to (hk16 _ _ h hq0) [1, 2, 3, 4, 0] rfl
  exact key N
def fX11_bestPads (N : Nat) (a0_ : Nat) (x1_ : Int32) (M : sg_M) : Option (Int32 × sg_M) :=
  sg_bv (fX11_beginsWithout N a0_ M) (fun M16 : sg_M =>
  sg_m (-1 : Int32) (fun x17 : Int32 =>
  if sg_ib (5 : Int32) (Yr.2.2.1 (Yr.2.2.2 a0_ 1)) = true then
  sg_m (M16.1 (Yr.2.2.2 a0_ 1) ((5 : Int32)).toNatClampNeg) (fun x18 : Int32 =>
  sg_m (0 : Int32) (fun x19 : Int32 =>
  gX11_bestPads_16 N (a0_, x1_, x17, x18, x19) M16))
  else none))
set_option maxHeartbeats 4000000 in
set_option maxRecDepth 100000 in
theorem tX11_bestPads {ad : Nat → Nat} {X : sg_X} {N : Nat} {r : Int32 × sg_M} (C : sg_C Yr ad X cX11_bestPads RX11 5 6) (E : sg_eI Yr ad X cX11_bestPads .int r) : ∀ (a0_ : Nat) (x1_ : Int32) (M : sg_M), sg_K Yr a0_ 11 → fX11_bestPads N a0_ x1_ M = some r → sg_T Yr ad X 5 0 [(0, .ref (ad a0_)), (1, .int x1_)] [] M := by
  intro a0_ x1_ M hq0 h
  unfold fX11_bestPads at h
  refine i_aload_n C dX11_bestPads_0 0 rfl ?_
  refine s_vcV C [] vmX11_beginsWithout lkX11_385 rfl rfl (by decide) hq0 (by decide) rfl rfl (Nat.le_of_ble_eq_true rfl) dX11_bestPads_1 (ctX11_beginsWithout C.inj hq0) h (fun M16 h => ?_)
  refine s_iconst C (-1 : Int32) dX11_bestPads_4 (by decide) ?_
  refine z_gi h (fun x17 h => ?_)
  refine i_istore_n (lv9 := [(2, _), (0, _), (1, _)]) C 2 dX11_bestPads_5 rfl (by decide) rfl ?_
  refine i_aload_n C dX11_bestPads_6 1 rfl ?_
  refine gf11_9 C hq0 dX11_bestPads_7 ?_
  refine s_iconst C (5 : Int32) dX11_bestPads_10 (by decide) ?_
  refine s_iald C (ky11_1 hq0) dX11_bestPads_11 h (fun h => ?_)
  refine z_gi h (fun x18 h => ?_)
  refine i_istore_n (lv9 := [(3, _), (2, _), (0, _), (1, _)]) C 3 dX11_bestPads_12 rfl (by decide) rfl ?_
  refine s_iconst C (0 : Int32) dX11_bestPads_13 (by decide) ?_
  refine z_gi h (fun x19 h => ?_)
  refine i_istore (lv9 := [(4, _), (3, _), (2, _), (0, _), (1, _)]) C dX11_bestPads_14 (by decide) rfl ?_
  exact sg_T.to (tX11_bestPads_16 C E _ _ h hq0) [3, 4, 2, 1, 0] rfl
theorem ctX11_bestPads {ad : Nat → Nat} {V : sg_V} {N : Nat} (hi : sg_inj Yr ad) {a0_ : Nat} {x1_ : Int32} {M : sg_M} (hq0 : sg_K Yr a0_ 11) : ∀ res, fX11_bestPads N a0_ x1_ M = some res → sg_cI Yr ad V yX11_bestPads cX11_bestPads 5 .int 6 [.ref (ad a0_), .int x1_] M res := fun res h => sg_bodyI (by decide) hi (Nat.le_of_ble_eq_true rfl) (fun X hX C E => by subst hX; exact tX11_bestPads C E _ _  _ hq0 h)
