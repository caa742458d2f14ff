def fX11_pads (N : Nat) (a0_ : Nat) (x1_ : Int32) (M : sg_M) : Option (Int32 × sg_M) :=
  sg_b (fX11_isGrid N a0_ M) (fun (x2 : Int32) (M1 : sg_M) =>
  if x2 = 0 then (
  some ((-2 : Int32), M1)) else (
  sg_b (fX11_in N (x1_).toInt64 (0 : Int64) (9 : Int64) M1) (fun (x4 : Int32) (M3 : sg_M) =>
  if x4 = 0 then (
  some ((-2 : Int32), M3)) else (
  sg_b (fX11_bestPads N a0_ x1_ M3) (fun (x6 : Int32) (M5 : sg_M) =>
  some (x6, M5))))))
set_option maxHeartbeats 4000000 in
set_option maxRecDepth 100000 in
theorem tX11_pads {ad : Nat → Nat} {X : sg_X} {N : Nat} {r : Int32 × sg_M} (C : sg_C Yr ad X cX11_pads RX11 2 7) (E : sg_eI Yr ad X cX11_pads .int r) : ∀ (a0_ : Nat) (x1_ : Int32) (M : sg_M), sg_K Yr a0_ 11 → fX11_pads N a0_ x1_ M = some r → sg_T Yr ad X 2 0 [(0, .ref (ad a0_)), (1, .int x1_)] [] M := by
  intro a0_ x1_ M hq0 h
  unfold fX11_pads at h
  refine i_aload_n C dX11_pads_0 0 rfl ?_
  refine s_vcI C [] vmX11_isGrid lkX11_109 rfl rfl (by decide) hq0 (by decide) rfl rfl (Nat.le_of_ble_eq_true rfl) dX11_pads_1 (ctX11_isGrid C.inj hq0) h (fun x2 M1 h => ?_)
  refine s_if_eq C 27 (by decide) dX11_pads_4 h (fun _ h => ?_) (fun _ h => ?_)
  · refine s_bipush C (-2 : Int32) dX11_pads_27 (by decide) ?_
    exact s_iret C E dX11_pads_29 h
  · refine i_iload_n C dX11_pads_7 1 rfl ?_
    refine s_i2l C dX11_pads_8 ?_
    refine s_lconst C (0 : Int64) dX11_pads_9 (by decide) ?_
    refine s_ldc2 C (9 : Int64) kl_X11_200 dX11_pads_10 ?_
    refine s_scI C [_, _, _] smX11_in lkX11_87 (by decide) rfl rfl (Nat.le_of_ble_eq_true rfl) dX11_pads_13 (ctX11_in C.inj ) h (fun x4 M3 h => ?_)
    refine s_if_eq C 27 (by decide) dX11_pads_16 h (fun _ h => ?_) (fun _ h => ?_)
    · refine s_bipush C (-2 : Int32) dX11_pads_27 (by decide) ?_
      exact s_iret C E dX11_pads_29 h
    · refine i_aload_n C dX11_pads_19 0 rfl ?_
      refine i_iload_n C dX11_pads_20 1 rfl ?_
      refine s_vcI C [_] vmX11_bestPads lkX11_397 rfl rfl (by decide) hq0 (by decide) rfl rfl (Nat.le_of_ble_eq_true rfl) dX11_pads_21 (ctX11_bestPads C.inj hq0) h (fun x6 M5 h => ?_)
      refine s_goto C 29 (by decide) dX11_pads_24 ?_
      exact s_iret C E dX11_pads_29 h
theorem ctX11_pads {ad : Nat → Nat} {V : sg_V} {N : Nat} (hi : sg_inj Yr ad) {a0_ : Nat} {x1_ : Int32} {M : sg_M} (hq0 : sg_K Yr a0_ 11) : ∀ res, fX11_pads N a0_ x1_ M = some res → sg_cI Yr ad V yX11_pads cX11_pads 2 .int 7 [.ref (ad a0_), .int x1_] M res := fun res h => sg_bodyI (by decide) hi (Nat.le_of_ble_eq_true rfl) (fun X hX C E => by subst hX; exact tX11_pads C E _ _  _ hq0 h)
def fX11_padded (N : Nat) (a0_ : Nat) (x1_ : Int32) (x2_ : Int32) (M : sg_M) : Option (Int64 × sg_M) :=
  sg_b (fX11_isGrid N a0_ M) (fun (x2 : Int32) (M1 : sg_M) =>
  if x2 = 0 then (
  some ((-2 : Int64), M1)) else (
  sg_b (fX11_in N (x1_).toInt64 (0 : Int64) (9 : Int64) M1) (fun (x4 : Int32) (M3 : sg_M) =>
  if x4 = 0 then (
  some ((-2 : Int64), M3)) else (
  sg_b (fX11_isPart N x2_ M3) (fun (x6 : Int32) (M5 : sg_M) =>
  if x6 = 0 then (
  some ((-2 : Int64), M5)) else (
  sg_b (fX11_bestPads N a0_ x1_ M5) (fun (x8 : Int32) (M7 : sg_M) =>
  if x8 = (-1 : Int32) then (
  some ((-1 : Int64), M7)) else (
  sg_b (fX11_part N (M7.2 a0_ 32) (M7.2 a0_ 33) x2_ M7) (fun (x10 : Int64) (M9 : sg_M) =>
  some (x10, M9))))))))))
set_option maxHeartbeats 4000000 in
set_option maxRecDepth 100000 in
theorem tX11_padded {ad : Nat → Nat} {X : sg_X} {N : Nat} {r : Int64 × sg_M} (C : sg_C Yr ad X cX11_padded RX11 3 7) (E : sg_eL Yr ad X cX11_padded r) : ∀ (a0_ : Nat) (x1_ : Int32) (x2_ : Int32) (M : sg_M), sg_K Yr a0_ 11 → fX11_padded N a0_ x1_ x2_ M = some r → sg_T Yr ad X 3 0 [(0, .ref (ad a0_)), (1, .int x1_), (2, .int x2_)] [] M := by
  intro a0_ x1_ x2_ M hq0 h
  unfold fX11_padded at h
  refine i_aload_n C dX11_padded_0 0 rfl ?_
  refine s_vcI C [] vmX11_isGrid lkX11_109 rfl rfl (by decide) hq0 (by decide) rfl rfl (Nat.le_of_ble_eq_true rfl) dX11_padded_1 (ctX11_isGrid C.inj hq0) h (fun x2 M1 h => ?_)
  refine s_if_eq C 26 (by decide) dX11_padded_4 h (fun _ h => ?_) (fun _ h => ?_)
  · refine s_ldc2 C (-2 : Int64) kl_X11_316 dX11_padded_26 ?_
    exact s_lret C E dX11_padded_29 h
  · refine i_iload_n C dX11_padded_7 1 rfl ?_
    refine s_i2l C dX11_padded_8 ?_
    refine s_lconst C (0 : Int64) dX11_padded_9 (by decide) ?_
    refine s_ldc2 C (9 : Int64) kl_X11_200 dX11_padded_10 ?_
    refine s_scI C [_, _, _] smX11_in lkX11_87 (by decide) rfl rfl (Nat.le_of_ble_eq_true rfl) dX11_padded_13 (ctX11_in C.inj ) h (fun x4 M3 h => ?_)
    refine s_if_eq C 26 (by decide) dX11_padded_16 h (fun _ h => ?_) (fun _ h => ?_)
    · refine s_ldc2 C (-2 : Int64) kl_X11_316 dX11_padded_26 ?_
      exact s_lret C E dX11_padded_29 h
    · refine i_iload_n C dX11_padded_19 2 rfl ?_
      refine s_scI C [_] smX11_isPart lkX11_313 (by decide) rfl rfl (Nat.le_of_ble_eq_true rfl) dX11_padded_20 (ctX11_isPart C.inj ) h (fun x6 M5 h => ?_)
      refine s_if_ne C 30 (by decide) dX11_padded_23 h (fun _ h => ?_) (fun _ h => ?_)
      · refine s_ldc2 C (-2 : Int64) kl_X11_316 dX11_padded_26 ?_
        exact s_lret C E dX11_padded_29 h
      · refine i_aload_n C dX11_padded_30 0 rfl ?_
        refine i_iload_n C dX11_padded_31 1 rfl ?_
        refine s_vcI C [_] vmX11_bestPads lkX11_397 rfl rfl (by decide) hq0 (by decide) rfl rfl (Nat.le_of_ble_eq_true rfl) dX11_padded_32 (ctX11_bestPads C.inj hq0) h (fun x8 M7 h => ?_)
        refine s_iconst C (-1 : Int32) dX11_padded_35 (by decide) ?_
        refine s_icmp_ne C 45 (by decide) dX11_padded_36 h (fun _ h => ?_) (fun _ h => ?_)
        · refine s_ldc2 C (-1 : Int64) kl_X11_318 dX11_padded_39 ?_
          refine s_goto C 57 (by decide) dX11_padded_42 ?_
          exact s_lret C E dX11_padded_57 h
        · refine i_aload_n C dX11_padded_45 0 rfl ?_
          refine gf11_372 C hq0 dX11_padded_46 ?_
          refine i_aload_n C dX11_padded_49 0 rfl ?_
          refine gf11_375 C hq0 dX11_padded_50 ?_
          refine i_iload_n C dX11_padded_53 2 rfl ?_
          refine s_scL C [_, _, _] smX11_part lkX11_320 (by decide) rfl rfl (Nat.le_of_ble_eq_true rfl) dX11_padded_54 (ctX11_part C.inj ) h (fun x10 M9 h => ?_)
          exact s_lret C E dX11_padded_57 h
theorem ctX11_padded {ad : Nat → Nat} {V : sg_V} {N : Nat} (hi : sg_inj Yr ad) {a0_ : Nat} {x1_ : Int32} {x2_ : Int32} {M : sg_M} (hq0 : sg_K Yr a0_ 11) : ∀ res, fX11_padded N a0_ x1_ x2_ M = some res → sg_cL Yr ad V yX11_padded cX11_padded 3 7 [.ref (ad a0_), .int x1_, .int x2_] M res := fun res h => sg_bodyL (by decide) hi (Nat.le_of_ble_eq_true rfl) (fun X hX C E => by subst hX; exact tX11_padded C E _ _ _  _ hq0 h)
def bX11_enough_12 (N : Nat)  (k12 : (Nat × Int32) → sg_M → Option (Int32 × sg_M)) (s : Nat × Int32) (M : sg_M) : Option (Int32 × sg_M) :=
  sg_b (fX11_nodes N s.1 M) (fun (x2 : Int32) (M1 : sg_M) =>
  if sg_ib (5 : Int32) (Yr.2.2.1 (Yr.2.2.2 s.1 1)) = true then
  sg_b (fX11_bits N (M1.1 (Yr.2.2.2 s.1 1) ((5 : Int32)).toNatClampNeg) M1) (fun (x4 : Int32) (M3 : sg_M) =>
  if (x2 - x4) < s.2 then (
  some ((-1 : Int32), M3)) else (
  if sg_ib (5 : Int32) (Yr.2.2.1 (Yr.2.2.2 s.1 1)) = true then
  sg_m (M3.1 (Yr.2.2.2 s.1 1) ((5 : Int32)).toNatClampNeg) (fun x5 : Int32 =>
  sg_b (fX11_bestPads N s.1 s.2 M3) (fun (x7 : Int32) (M6 : sg_M) =>
  if sg_ib (5 : Int32) (Yr.2.2.1 (Yr.2.2.2 s.1 1)) = true then
  sg_m (sg_uI M6 (Yr.2.2.2 s.1 1) ((5 : Int32)).toNatClampNeg (x5 ||| x7)) (fun M8 : sg_M =>
  sg_b (fX11_doesHold N s.1 M8) (fun (x10 : Int32) (M9 : sg_M) =>
  sg_m x10 (fun x11 : Int32 =>
  if sg_ib (5 : Int32) (Yr.2.2.1 (Yr.2.2.2 s.1 1)) = true then
  sg_m (sg_uI M9 (Yr.2.2.2 s.1 1) ((5 : Int32)).toNatClampNeg x5) (fun M12 : sg_M =>
  if x11 = 0 then (
  sg_m (s.2 + (1 : Int32)) (fun x13 : Int32 =>
  k12 (s.1, x13) M12)) else (
  some (s.2, M12)))
  else none)))
  else none))
  else none))
  else none)
def gX11_enough_12 (N : Nat)  : (Nat × Int32) → sg_M → Option (Int32 × sg_M) := sg_lp (bX11_enough_12 N ) N
set_option maxHeartbeats 4000000 in
set_option maxRecDepth 100000 in
theorem tX11_enough_12 {ad : Nat → Nat} {X : sg_X} {N : Nat} {r : Int32 × sg_M} (C : sg_C Yr ad X cX11_enough RX11 4 7) (E : sg_eI Yr ad X cX11_enough .int r)  : ∀ (s : Nat × Int32) (M : sg_M), gX11_enough_12 N s M = some r → sg_K Yr s.1 11 → sg_T Yr ad X 4 12 [(0, .ref (ad (s.1))), (1, .int (s.2))] [] M := by
  have key : ∀ n : Nat, ∀ (s : Nat × Int32) (M : sg_M), sg_lp (bX11_enough_12 N) n s M = some r → sg_K Yr s.1 11 → sg_T Yr ad X 4 12 [(0, .ref (ad (s.1))), (1, .int (s.2))] [] M := by
    intro n
    induction n with
    | zero => intro s M h; cases h
    | succ n ih =>
      intro s M h hq0
      have h : bX11_enough_12 N (sg_lp (bX11_enough_12 N) n) s M = some r := h
      generalize sg_lp (bX11_enough_12 N) n = k12 at h ih
      have hk12 := ih
      unfold bX11_enough_12 at h
      refine i_iload_n C dX11_enough_12 1 rfl ?_
      refine i_aload_n C dX11_enough_13 0 rfl ?_
      refine s_vcI C [] vmX11_nodes lkX11_98 rfl rfl (by decide) hq0 (by decide) rfl rfl (Nat.le_of_ble_eq_true rfl) dX11_enough_14 (ctX11_nodes C.inj hq0) h (fun x2 M1 h => ?_)
      refine i_aload_n C dX11_enough_17 0 rfl ?_
      refine gf11_9 C hq0 dX11_enough_18 ?_
      refine s_iconst C (5 : Int32) dX11_enough_21 (by decide) ?_
      refine s_iald C (ky11_1 hq0) dX11_enough_22 h (fun h => ?_)
      refine s_scI C [_] smX11_bits lkX11_394 (by decide) rfl rfl (Nat.le_of_ble_eq_true rfl) dX11_enough_23 (ctX11_bits C.inj ) h (fun x4 M3 h => ?_)
      refine s_isub C dX11_enough_26 ?_
      refine s_icmp_gt C 74 (by decide) dX11_enough_27 h (fun _ h => ?_) (fun _ h => ?_)
      · refine s_iconst C (-1 : Int32) dX11_enough_74 (by decide) ?_
        exact s_iret C E dX11_enough_75 h
      · refine i_aload_n C dX11_enough_30 0 rfl ?_
        refine gf11_9 C hq0 dX11_enough_31 ?_
        refine s_iconst C (5 : Int32) dX11_enough_34 (by decide) ?_
        refine s_iald C (ky11_1 hq0) dX11_enough_35 h (fun h => ?_)
        refine z_gi h (fun x5 h => ?_)
        refine i_istore_n (lv9 := [(2, _), (0, _), (1, _)]) C 2 dX11_enough_36 rfl (by decide) rfl ?_
        refine i_aload_n C dX11_enough_37 1 rfl ?_
        refine gf11_9 C hq0 dX11_enough_38 ?_
        refine s_iconst C (5 : Int32) dX11_enough_41 (by decide) ?_
        refine i_iload_n C dX11_enough_42 0 rfl ?_
        refine i_aload_n C dX11_enough_43 1 rfl ?_
        refine i_iload_n C dX11_enough_44 2 rfl ?_
        refine s_vcI C [_] vmX11_bestPads lkX11_397 rfl rfl (by decide) hq0 (by decide) rfl rfl (Nat.le_of_ble_eq_true rfl) dX11_enough_45 (ctX11_bestPads C.inj hq0) h (fun x7 M6 h => ?_)
        refine s_ior C dX11_enough_48 ?_
        refine s_iast C (ky11_1 hq0) dX11_enough_49 h (fun h => ?_)
        refine z_gM h (fun M8 h => ?_)
        refine i_aload_n C dX11_enough_50 1 rfl ?_
        refine s_vcI C [] vmX11_doesHold lkX11_334 rfl rfl (by decide) hq0 (by decide) rfl rfl (Nat.le_of_ble_eq_true rfl) dX11_enough_51 (ctX11_doesHold C.inj hq0) h (fun x10 M9 h => ?_)
        refine z_gi h (fun x11 h => ?_)
        refine i_istore_n (lv9 := [(3, _), (2, _), (0, _), (1, _)]) C 3 dX11_enough_54 rfl (by decide) rfl ?_
        refine i_aload_n C dX11_enough_55 2 rfl ?_
        refine gf11_9 C hq0 dX11_enough_56 ?_
        refine s_iconst C (5 : Int32) dX11_enough_59 (by decide) ?_
        refine i_iload_n C dX11_enough_60 1 rfl ?_
        refine s_iast C (ky11_1 hq0) dX11_enough_61 h (fun h => ?_)
        refine z_gM h (fun M12 h => ?_)
        refine i_iload_n C dX11_enough_62 0 rfl ?_
        refine s_if_eq C 68 (by decide) dX11_enough_63 h (fun _ h => ?_) (fun _ h => ?_)
        · refine z_iinc (n := 1) (c9 := (1 : Int32)) (by decide) h (fun x13 hx h => ?_)
          refine i_iinc (lv9 := [(1, _), (3, _), (2, _), (0, _)]) C dX11_enough_68 3 rfl hx (by decide) rfl ?_
          refine s_goto C 12 (by decide) dX11_enough_71 ?_
          exact sg_T.to (hk12 _ _ h hq0) [3, 0] rfl
        · refine i_iload_n C dX11_enough_66 3 rfl ?_
          exact s_iret C E dX11_enough_67 h
  exact key N
def fX11_enough (N : Nat) (a0_ : Nat) (M : sg_M) : Option (Int32 × sg_M) :=
  sg_b (fX11_isGrid N a0_ M) (fun (x15 : Int32) (M14 : sg_M) =>
  if x15 = 0 then (
  some ((-2 : Int32), M14)) else (
  sg_m (0 : Int32) (fun x16 : Int32 =>
  gX11_enough_12 N (a0_, x16) M14)))
set_option maxHeartbeats 4000000 in
set_option maxRecDepth 100000 in
theorem tX11_enough {ad : Nat → Nat} {X : sg_X} {N : Nat} {r : Int32 × sg_M} (C : sg_C Yr ad X cX11_enough RX11 4 7) (E : sg_eI Yr ad X cX11_enough .int r) : ∀ (a0_ : Nat) (M : sg_M), sg_K Yr a0_ 11 → fX11_enough N a0_ M = some r → sg_T Yr ad X 4 0 [(0, .ref (ad a0_))] [] M := by
  intro a0_ M hq0 h
  unfold fX11_enough at h
  refine i_aload_n C dX11_enough_0 0 rfl ?_
  refine s_vcI C [] vmX11_isGrid lkX11_109 rfl rfl (by decide) hq0 (by decide) rfl rfl (Nat.le_of_ble_eq_true rfl) dX11_enough_1 (ctX11_isGrid C.inj hq0) h (fun x15 M14 h => ?_)
  refine s_if_ne C 10 (by decide) dX11_enough_4 h (fun _ h => ?_) (fun _ h => ?_)
  · refine s_bipush C (-2 : Int32) dX11_enough_7 (by decide) ?_
    exact s_iret C E dX11_enough_9 h
  · refine s_iconst C (0 : Int32) dX11_enough_10 (by decide) ?_
    refine z_gi h (fun x16 h => ?_)
    refine i_istore_n (lv9 := [(1, _), (0, _)]) C 1 dX11_enough_11 rfl (by decide) rfl ?_
    exact sg_T.to (tX11_enough_12 C E _ _ h hq0) [1, 0] rfl
theorem ctX11_enough {ad : Nat → Nat} {V : sg_V} {N : Nat} (hi : sg_inj Yr ad) {a0_ : Nat} {M : sg_M} (hq0 : sg_K Yr a0_ 11) : ∀ res, fX11_enough N a0_ M = some res → sg_cI Yr ad V yX11_enough cX11_enough 4 .int 7 [.ref (ad a0_)] M res := fun res h => sg_bodyI (by decide) hi (Nat.le_of_ble_eq_true rfl) (fun X hX C E => by subst hX; exact tX11_enough C E _  _ hq0 h)
def gX11_nextWider_58 (N : Nat) (k8 : (Nat × Int32 × Int32) → sg_M → Option (Int32 × sg_M)) (a0_ : Nat) (x1_ : Int32) (x2_ : Int32) (M : sg_M) : Option (Int32 × sg_M) :=
  if sg_ib ((28 : Int32) + x2_) (Yr.2.2.1 (Yr.2.2.2 a0_ 1)) = true then
  if sg_ib ((28 : Int32) + x2_) (Yr.2.2.1 (Yr.2.2.2 a0_ 1)) = true then
  sg_m (sg_uI M (Yr.2.2.2 a0_ 1) (((28 : Int32) + x2_)).toNatClampNeg ((M.1 (Yr.2.2.2 a0_ 1) (((28 : Int32) + x2_)).toNatClampNeg) - (1 : Int32))) (fun M1 : sg_M =>
  sg_m (x2_ + (1 : Int32)) (fun x2 : Int32 =>
  k8 (a0_, x1_, x2) M1))
  else none
  else none
set_option maxHeartbeats 4000000 in
set_option maxRecDepth 100000 in
theorem tX11_nextWider_58 {ad : Nat → Nat} {X : sg_X} {N : Nat} {r : Int32 × sg_M} (C : sg_C Yr ad X cX11_nextWider RX11 3 6) (E : sg_eI Yr ad X cX11_nextWider .int r) {k8 : (Nat × Int32 × Int32) → sg_M → Option (Int32 × sg_M)} (hk8 : ∀ (s : Nat × Int32 × Int32) (M : sg_M), k8 s M = some r → sg_K Yr s.1 11 → sg_T Yr ad X 3 8 [(0, .ref (ad (s.1))), (1, .int (s.2.1)), (2, .int (s.2.2))] [] M) : ∀ (a0_ : Nat) (x1_ : Int32) (x2_ : Int32) (M : sg_M), gX11_nextWider_58 N k8 a0_ x1_ x2_ M = some r → sg_K Yr a0_ 11 → sg_T Yr ad X 3 58 [(0, .ref (ad a0_)), (1, .int x1_), (2, .int x2_)] [] M := by
  intro a0_ x1_ x2_ M h hq0
  unfold gX11_nextWider_58 at h
  refine i_aload_n C dX11_nextWider_58 0 rfl ?_
  refine gf11_9 C hq0 dX11_nextWider_59 ?_
  refine s_bipush C (28 : Int32) dX11_nextWider_62 (by decide) ?_
  refine i_iload_n C dX11_nextWider_64 2 rfl ?_
  refine s_iadd C dX11_nextWider_65 ?_
  refine s_dup2 C dX11_nextWider_66 rfl rfl ?_
  refine s_iald C (ky11_1 hq0) dX11_nextWider_67 h (fun h => ?_)
  refine s_iconst C (1 : Int32) dX11_nextWider_68 (by decide) ?_
  refine s_isub C dX11_nextWider_69 ?_
  refine s_iast C (ky11_1 hq0) dX11_nextWider_70 h (fun h => ?_)
  refine z_gM h (fun M1 h => ?_)
  refine z_iinc (n := 1) (c9 := (1 : Int32)) (by decide) h (fun x2 hx h => ?_)
  refine i_iinc (lv9 := [(2, _), (0, _), (1, _)]) C dX11_nextWider_71 2 rfl hx (by decide) rfl ?_
  refine s_goto C 8 (by decide) dX11_nextWider_74 ?_
  exact sg_T.to (hk8 _ _ h hq0) [1, 2, 0] rfl
def bX11_nextWider_8 (N : Nat)  (k8 : (Nat × Int32 × Int32) → sg_M → Option (Int32 × sg_M)) (s : Nat × Int32 × Int32) (M : sg_M) : Option (Int32 × sg_M) :=
  if (M.1 s.1 8) ≤ s.2.2 then (
  some (s.2.1, M)) else (
  if sg_ib ((28 : Int32) + s.2.2) (Yr.2.2.1 (Yr.2.2.2 s.1 1)) = true then
  if (M.1 (Yr.2.2.2 s.1 1) (((28 : Int32) + s.2.2)).toNatClampNeg) = (4 : Int32) then (
  sg_m (s.2.2 + (1 : Int32)) (fun x3 : Int32 =>
  k8 (s.1, s.2.1, x3) M)) else (
  if sg_ib ((28 : Int32) + s.2.2) (Yr.2.2.1 (Yr.2.2.2 s.1 1)) = true then
  if sg_ib ((28 : Int32) + s.2.2) (Yr.2.2.1 (Yr.2.2.2 s.1 1)) = true then
  sg_m (sg_uI M (Yr.2.2.2 s.1 1) (((28 : Int32) + s.2.2)).toNatClampNeg ((M.1 (Yr.2.2.2 s.1 1) (((28 : Int32) + s.2.2)).toNatClampNeg) + (1 : Int32))) (fun M4 : sg_M =>
  sg_b (fX11_scores N s.1 M4) (fun (x6 : Int32) (M5 : sg_M) =>
  if 0 ≤ x6 then (
  gX11_nextWider_58 N k8 s.1 s.2.1 s.2.2 M5) else (
  sg_m s.2.2 (fun x7 : Int32 =>
  sg_bv (fX11_keeps N s.1 M5) (fun M8 : sg_M =>
  gX11_nextWider_58 N k8 s.1 x7 s.2.2 M8)))))
  else none
  else none)
  else none)
def gX11_nextWider_8 (N : Nat)  : (Nat × Int32 × Int32) → sg_M → Option (Int32 × sg_M) := sg_lp (bX11_nextWider_8 N ) N
set_option maxHeartbeats 4000000 in
set_option maxRecDepth 100000 in
theorem tX11_nextWider_8 {ad : Nat → Nat} {X : sg_X} {N : Nat} {r : Int32 × sg_M} (C : sg_C Yr ad X cX11_nextWider RX11 3 6) (E : sg_eI Yr ad X cX11_nextWider .int r)  : ∀ (s : Nat × Int32 × Int32) (M : sg_M), gX11_nextWider_8 N s M = some r → sg_K Yr s.1 11 → sg_T Yr ad X 3 8 [(0, .ref (ad (s.1))), (1, .int (s.2.1)), (2, .int (s.2.2))] [] M := by
  have key : ∀ n : Nat, ∀ (s : Nat × Int32 × Int32) (M : sg_M), sg_lp (bX11_nextWider_8 N) n s M = some r → sg_K Yr s.1 11 → sg_T Yr ad X 3 8 [(0, .ref (ad (s.1))), (1, .int (s.2.1)), (2, .int (s.2.2))] [] M := by
    intro n
    induction n with
    | zero => intro s M h; cases h
    | succ n ih =>
      intro s M h hq0
      have h : bX11_nextWider_8 N (sg_lp (bX11_nextWider_8 N) n) s M = some r := h
      generalize sg_lp (bX11_nextWider_8 N) n = k8 at h ih
      have hk8 := ih
      unfold bX11_nextWider_8 at h
      refine i_iload_n C dX11_nextWider_8 2 rfl ?_
      refine i_aload_n C dX11_nextWider_9 0 rfl ?_
      refine gf11_102 C hq0 dX11_nextWider_10 ?_
      refine s_icmp_ge C 77 (by decide) dX11_nextWider_13 h (fun _ h => ?_) (fun _ h => ?_)
      · refine i_iload_n C dX11_nextWider_77 1 rfl ?_
        exact s_iret C E dX11_nextWider_78 h
      · refine i_aload_n C dX11_nextWider_16 0 rfl ?_
        refine gf11_9 C hq0 dX11_nextWider_17 ?_
        refine s_bipush C (28 : Int32) dX11_nextWider_20 (by decide) ?_
        refine i_iload_n C dX11_nextWider_22 2 rfl ?_
        refine s_iadd C dX11_nextWider_23 ?_
        refine s_iald C (ky11_1 hq0) dX11_nextWider_24 h (fun h => ?_)
        refine s_iconst C (4 : Int32) dX11_nextWider_25 (by decide) ?_
        refine s_icmp_ne C 32 (by decide) dX11_nextWider_26 h (fun _ h => ?_) (fun _ h => ?_)
        · refine s_goto C 71 (by decide) dX11_nextWider_29 ?_
          refine z_iinc (n := 1) (c9 := (1 : Int32)) (by decide) h (fun x3 hx h => ?_)
          refine i_iinc (lv9 := [(2, _), (0, _), (1, _)]) C dX11_nextWider_71 2 rfl hx (by decide) rfl ?_
          refine s_goto C 8 (by decide) dX11_nextWider_74 ?_
          exact sg_T.to (hk8 _ _ h hq0) [1, 2, 0] rfl
        · refine i_aload_n C dX11_nextWider_32 0 rfl ?_
          refine gf11_9 C hq0 dX11_nextWider_33 ?_
          refine s_bipush C (28 : Int32) dX11_nextWider_36 (by decide) ?_
          refine i_iload_n C dX11_nextWider_38 2 rfl ?_
          refine s_iadd C dX11_nextWider_39 ?_
          refine s_dup2 C dX11_nextWider_40 rfl rfl ?_
          refine s_iald C (ky11_1 hq0) dX11_nextWider_41 h (fun h => ?_)
          refine s_iconst C (1 : Int32) dX11_nextWider_42 (by decide) ?_
          refine s_iadd C dX11_nextWider_43 ?_
          refine s_iast C (ky11_1 hq0) dX11_nextWider_44 h (fun h => ?_)
          refine z_gM h (fun M4 h => ?_)
          refine i_aload_n C dX11_nextWider_45 0 rfl ?_
          refine s_vcI C [] vmX11_scores lkX11_388 rfl rfl (by decide) hq0 (by decide) rfl rfl (Nat.le_of_ble_eq_true rfl) dX11_nextWider_46 (ctX11_scores C.inj hq0) h (fun x6 M5 h => ?_)
          refine s_if_ge C 58 (by decide) dX11_nextWider_49 h (fun _ h => ?_) (fun _ h => ?_)
          · exact sg_T.to (tX11_nextWider_58 C E hk8 _ _ _ _ h hq0) [0, 1, 2] rfl
          · refine i_iload_n C dX11_nextWider_52 2 rfl ?_
            refine z_gi h (fun x7 h => ?_)
            refine i_istore_n (lv9 := [(1, _), (0, _), (2, _)]) C 1 dX11_nextWider_53 rfl (by decide) rfl ?_
            refine i_aload_n C dX11_nextWider_54 1 rfl ?_
            refine s_vcV C [] vmX11_keeps lkX11_382 rfl rfl (by decide) hq0 (by decide) rfl rfl (Nat.le_of_ble_eq_true rfl) dX11_nextWider_55 (ctX11_keeps C.inj hq0) h (fun M8 h => ?_)
            exact sg_T.to (tX11_nextWider_58 C E hk8 _ _ _ _ h hq0) [1, 0, 2] rfl
  exact key N
def fX11_nextWider (N : Nat) (a0_ : Nat) (M : sg_M) : Option (Int32 × sg_M) :=
  sg_bv (fX11_beginsWith N a0_ M) (fun M9 : sg_M =>
  sg_m (-1 : Int32) (fun x10 : Int32 =>
  sg_m (0 : Int32) (fun x11 : Int32 =>
  gX11_nextWider_8 N (a0_, x10, x11) M9)))
set_option maxHeartbeats 4000000 in
set_option maxRecDepth 100000 in
theorem tX11_nextWider {ad : Nat → Nat} {X : sg_X} {N : Nat} {r : Int32 × sg_M} (C : sg_C Yr ad X cX11_nextWider RX11 3 6) (E : sg_eI Yr ad X cX11_nextWider .int r) : ∀ (a0_ : Nat) (M : sg_M), sg_K Yr a0_ 11 → fX11_nextWider N a0_ M = some r → sg_T Yr ad X 3 0 [(0, .ref (ad a0_))] [] M := by
  intro a0_ M hq0 h
  unfold fX11_nextWider at h
  refine i_aload_n C dX11_nextWider_0 0 rfl ?_
  refine s_vcV C [] vmX11_beginsWith lkX11_400 rfl rfl (by decide) hq0 (by decide) rfl rfl (Nat.le_of_ble_eq_true rfl) dX11_nextWider_1 (ctX11_beginsWith C.inj hq0) h (fun M9 h => ?_)
  refine s_iconst C (-1 : Int32) dX11_nextWider_4 (by decide) ?_
  refine z_gi h (fun x10 h => ?_)
  refine i_istore_n (lv9 := [(1, _), (0, _)]) C 1 dX11_nextWider_5 rfl (by decide) rfl ?_
  refine s_iconst C (0 : Int32) dX11_nextWider_6 (by decide) ?_
  refine z_gi h (fun x11 h => ?_)
  refine i_istore_n (lv9 := [(2, _), (1, _), (0, _)]) C 2 dX11_nextWider_7 rfl (by decide) rfl ?_
  exact sg_T.to (tX11_nextWider_8 C E _ _ h hq0) [2, 1, 0] rfl
theorem ctX11_nextWider {ad : Nat → Nat} {V : sg_V} {N : Nat} (hi : sg_inj Yr ad) {a0_ : Nat} {M : sg_M} (hq0 : sg_K Yr a0_ 11) : ∀ res, fX11_nextWider N a0_ M = some res → sg_cI Yr ad V yX11_nextWider cX11_nextWider 3 .int 6 [.ref (ad a0_)] M res := fun res h => sg_bodyI (by decide) hi (Nat.le_of_ble_eq_true rfl) (fun X hX C E => by subst hX; exact tX11_nextWider C E _  _ hq0 h)
def bX11_widensAll_5 (N : Nat)  (k5 : Nat → sg_M → Option (sg_M)) (s : Nat) (M : sg_M) : Option (sg_M) :=
  if (20 : Int32) ≤ (M.1 s 35) then (
  some M) else (
  sg_b (fX11_doesHold N s M) (fun (x2 : Int32) (M1 : sg_M) =>
  if x2 = 0 then (
  sg_b (fX11_nextWider N s M1) (fun (x4 : Int32) (M3 : sg_M) =>
  sg_m x4 (fun x5 : Int32 =>
  if x5 = (-1 : Int32) then (
  some M3) else (
  if sg_ib ((28 : Int32) + x5) (Yr.2.2.1 (Yr.2.2.2 s 1)) = true then
  if sg_ib ((28 : Int32) + x5) (Yr.2.2.1 (Yr.2.2.2 s 1)) = true then
  sg_m (sg_uI M3 (Yr.2.2.2 s 1) (((28 : Int32) + x5)).toNatClampNeg ((M3.1 (Yr.2.2.2 s 1) (((28 : Int32) + x5)).toNatClampNeg) + (1 : Int32))) (fun M6 : sg_M =>
  if sg_ib (M6.1 s 35) (Yr.2.2.1 (Yr.2.2.2 s 34)) = true then
  sg_m (sg_uI M6 (Yr.2.2.2 s 34) ((M6.1 s 35)).toNatClampNeg x5) (fun M7 : sg_M =>
  sg_m (sg_uI M7 s 35 ((M7.1 s 35) + (1 : Int32))) (fun M8 : sg_M =>
  k5 (s) M8))
  else none)
  else none
  else none)))) else (
  some M1)))
def gX11_widensAll_5 (N : Nat)  : Nat → sg_M → Option (sg_M) := sg_lp (bX11_widensAll_5 N ) N
set_option maxHeartbeats 4000000 in
set_option maxRecDepth 100000 in
theorem tX11_widensAll_5 {ad : Nat → Nat} {X : sg_X} {N : Nat} {r : sg_M} (C : sg_C Yr ad X cX11_widensAll RX11 2 7) (E : sg_eV Yr ad X cX11_widensAll r)  : ∀ (s : Nat) (M : sg_M), gX11_widensAll_5 N s M = some r → sg_K Yr s 11 → sg_T Yr ad X 2 5 [(0, .ref (ad s))] [] M := by
  have key : ∀ n : Nat, ∀ (s : Nat) (M : sg_M), sg_lp (bX11_widensAll_5 N) n s M = some r → sg_K Yr s 11 → sg_T Yr ad X 2 5 [(0, .ref (ad s))] [] M := by
    intro n
    induction n with
    | zero => intro s M h; cases h
    | succ n ih =>
      intro s M h hq0
      have h : bX11_widensAll_5 N (sg_lp (bX11_widensAll_5 N) n) s M = some r := h
      generalize sg_lp (bX11_widensAll_5 N) n = k5 at h ih
      have hk5 := ih
      unfold bX11_widensAll_5 at h
      refine i_aload_n C dX11_widensAll_5 0 rfl ?_
      refine gf11_403 C hq0 dX11_widensAll_6 ?_
      refine s_bipush C (20 : Int32) dX11_widensAll_9 (by decide) ?_
      refine s_icmp_ge C 68 (by decide) dX11_widensAll_11 h (fun _ h => ?_) (fun _ h => ?_)
      · exact s_vret C E dX11_widensAll_68 h
      · refine i_aload_n C dX11_widensAll_14 0 rfl ?_
        refine s_vcI C [] vmX11_doesHold lkX11_334 rfl rfl (by decide) hq0 (by decide) rfl rfl (Nat.le_of_ble_eq_true rfl) dX11_widensAll_15 (ctX11_doesHold C.inj hq0) h (fun x2 M1 h => ?_)
        refine s_if_ne C 68 (by decide) dX11_widensAll_18 h (fun _ h => ?_) (fun _ h => ?_)
        · refine i_aload_n C dX11_widensAll_21 0 rfl ?_
          refine s_vcI C [] vmX11_nextWider lkX11_406 rfl rfl (by decide) hq0 (by decide) rfl rfl (Nat.le_of_ble_eq_true rfl) dX11_widensAll_22 (ctX11_nextWider C.inj hq0) h (fun x4 M3 h => ?_)
          refine z_gi h (fun x5 h => ?_)
          refine i_istore_n (lv9 := [(1, _), (0, _)]) C 1 dX11_widensAll_25 rfl (by decide) rfl ?_
          refine i_iload_n C dX11_widensAll_26 0 rfl ?_
          refine s_iconst C (-1 : Int32) dX11_widensAll_27 (by decide) ?_
          refine s_icmp_ne C 32 (by decide) dX11_widensAll_28 h (fun _ h => ?_) (fun _ h => ?_)
          · exact s_vret C E dX11_widensAll_31 h
          · refine i_aload_n C dX11_widensAll_32 1 rfl ?_
            refine gf11_9 C hq0 dX11_widensAll_33 ?_
            refine s_bipush C (28 : Int32) dX11_widensAll_36 (by decide) ?_
            refine i_iload_n C dX11_widensAll_38 0 rfl ?_
            refine s_iadd C dX11_widensAll_39 ?_
            refine s_dup2 C dX11_widensAll_40 rfl rfl ?_
            refine s_iald C (ky11_1 hq0) dX11_widensAll_41 h (fun h => ?_)
            refine s_iconst C (1 : Int32) dX11_widensAll_42 (by decide) ?_
            refine s_iadd C dX11_widensAll_43 ?_
            refine s_iast C (ky11_1 hq0) dX11_widensAll_44 h (fun h => ?_)
            refine z_gM h (fun M6 h => ?_)
            refine i_aload_n C dX11_widensAll_45 1 rfl ?_
            refine gf11_66 C hq0 dX11_widensAll_46 ?_
            refine i_aload_n C dX11_widensAll_49 1 rfl ?_
            refine gf11_403 C hq0 dX11_widensAll_50 ?_
            refine i_iload_n C dX11_widensAll_53 0 rfl ?_
            refine s_iast C (ky11_34 hq0) dX11_widensAll_54 h (fun h => ?_)
            refine z_gM h (fun M7 h => ?_)
            refine i_aload_n C dX11_widensAll_55 1 rfl ?_
            refine s_dup C dX11_widensAll_56 rfl ?_
            refine gf11_403 C hq0 dX11_widensAll_57 ?_
            refine s_iconst C (1 : Int32) dX11_widensAll_60 (by decide) ?_
            refine s_iadd C dX11_widensAll_61 ?_
            refine pf11_403 C hq0 dX11_widensAll_62 ?_
            refine z_gM h (fun M8 h => ?_)
            refine s_goto C 5 (by decide) dX11_widensAll_65 ?_
            exact sg_T.to (hk5 _ _ h hq0) [1] rfl
        · exact s_vret C E dX11_widensAll_68 h
  exact key N
def fX11_widensAll (N : Nat) (a0_ : Nat) (M : sg_M) : Option (sg_M) :=
  sg_m (sg_uI M a0_ 35 (0 : Int32)) (fun M9 : sg_M =>
  gX11_widensAll_5 N (a0_) M9)
set_option maxHeartbeats 4000000 in
set_option maxRecDepth 100000 in
theorem tX11_widensAll {ad : Nat → Nat} {X : sg_X} {N : Nat} {r : sg_M} (C : sg_C Yr ad X cX11_widensAll RX11 2 7) (E : sg_eV Yr ad X cX11_widensAll r) : ∀ (a0_ : Nat) (M : sg_M), sg_K Yr a0_ 11 → fX11_widensAll N a0_ M = some r → sg_T Yr ad X 2 0 [(0, .ref (ad a0_))] [] M := by
  intro a0_ M hq0 h
  unfold fX11_widensAll at h
  refine i_aload_n C dX11_widensAll_0 0 rfl ?_
  refine s_iconst C (0 : Int32) dX11_widensAll_1 (by decide) ?_
  refine pf11_403 C hq0 dX11_widensAll_2 ?_
  refine z_gM h (fun M9 h => ?_)
  exact sg_T.to (tX11_widensAll_5 C E _ _ h hq0) [0] rfl
theorem ctX11_widensAll {ad : Nat → Nat} {V : sg_V} {N : Nat} (hi : sg_inj Yr ad) {a0_ : Nat} {M : sg_M} (hq0 : sg_K Yr a0_ 11) : ∀ res, fX11_widensAll N a0_ M = some res → sg_cV Yr ad V yX11_widensAll cX11_widensAll 2 7 [.ref (ad a0_)] M res := fun res h => sg_bodyV (by decide) hi (Nat.le_of_ble_eq_true rfl) (fun X hX C E => by subst hX; exact tX11_widensAll C E _  _ hq0 h)
def fX11_laysWidened (N : Nat) (a0_ : Nat) (M : sg_M) : Option (Int32 × sg_M) :=
  sg_b (fX11_isGrid N a0_ M) (fun (x2 : Int32) (M1 : sg_M) =>
  if x2 = 0 then (
  some ((0 : Int32), M1)) else (
  sg_bv (fX11_puts N a0_ M1) (fun M3 : sg_M =>
  sg_bv (fX11_widensAll N a0_ M3) (fun M4 : sg_M =>
  sg_bv (fX11_takesOut N a0_ M4) (fun M5 : sg_M =>
  some ((1 : Int32), M5))))))
set_option maxHeartbeats 4000000 in
set_option maxRecDepth 100000 in
theorem tX11_laysWidened {ad : Nat → Nat} {X : sg_X} {N : Nat} {r : Int32 × sg_M} (C : sg_C Yr ad X cX11_laysWidened RX11 1 8) (E : sg_eI Yr ad X cX11_laysWidened .boolean r) : ∀ (a0_ : Nat) (M : sg_M), sg_K Yr a0_ 11 → fX11_laysWidened N a0_ M = some r → sg_T Yr ad X 1 0 [(0, .ref (ad a0_))] [] M := by
  intro a0_ M hq0 h
  unfold fX11_laysWidened at h
  refine i_aload_n C dX11_laysWidened_0 0 rfl ?_
  refine s_vcI C [] vmX11_isGrid lkX11_109 rfl rfl (by decide) hq0 (by decide) rfl rfl (Nat.le_of_ble_eq_true rfl) dX11_laysWidened_1 (ctX11_isGrid C.inj hq0) h (fun x2 M1 h => ?_)
  refine s_if_ne C 9 (by decide) dX11_laysWidened_4 h (fun _ h => ?_) (fun _ h => ?_)
  · refine s_iconst C (0 : Int32) dX11_laysWidened_7 (by decide) ?_
    exact s_zret1 C E (by decide) dX11_laysWidened_8 h
  · refine i_aload_n C dX11_laysWidened_9 0 rfl ?_
    refine s_vcV C [] vmX11_puts lkX11_360 rfl rfl (by decide) hq0 (by decide) rfl rfl (Nat.le_of_ble_eq_true rfl) dX11_laysWidened_10 (ctX11_puts C.inj hq0) h (fun M3 h => ?_)
    refine i_aload_n C dX11_laysWidened_13 0 rfl ?_
    refine s_vcV C [] vmX11_widensAll lkX11_409 rfl rfl (by decide) hq0 (by decide) rfl rfl (Nat.le_of_ble_eq_true rfl) dX11_laysWidened_14 (ctX11_widensAll C.inj hq0) h (fun M4 h => ?_)
    refine i_aload_n C dX11_laysWidened_17 0 rfl ?_
    refine s_vcV C [] vmX11_takesOut lkX11_366 rfl rfl (by decide) hq0 (by decide) rfl rfl (Nat.le_of_ble_eq_true rfl) dX11_laysWidened_18 (ctX11_takesOut C.inj hq0) h (fun M5 h => ?_)
    refine s_iconst C (1 : Int32) dX11_laysWidened_21 (by decide) ?_
    exact s_zret1 C E (by decide) dX11_laysWidened_22 h
theorem ctX11_laysWidened {ad : Nat → Nat} {V : sg_V} {N : Nat} (hi : sg_inj Yr ad) {a0_ : Nat} {M : sg_M} (hq0 : sg_K Yr a0_ 11) : ∀ res, fX11_laysWidened N a0_ M = some res → sg_cI Yr ad V yX11_laysWidened cX11_laysWidened 1 .boolean 8 [.ref (ad a0_)] M res := fun res h => sg_bodyI (by decide) hi (Nat.le_of_ble_eq_true rfl) (fun X hX C E => by subst hX; exact tX11_laysWidened C E _  _ hq0 h)
def fX11_widens (N : Nat) (a0_ : Nat) (M : sg_M) : Option (Int32 × sg_M) :=
  sg_b (fX11_laysWidened N a0_ M) (fun (x2 : Int32) (M1 : sg_M) =>
  if x2 = 0 then (
  some ((-2 : Int32), M1)) else (
  some ((M1.1 a0_ 35), M1)))
set_option maxHeartbeats 4000000 in
set_option maxRecDepth 100000 in
theorem tX11_widens {ad : Nat → Nat} {X : sg_X} {N : Nat} {r : Int32 × sg_M} (C : sg_C Yr ad X cX11_widens RX11 1 9) (E : sg_eI Yr ad X cX11_widens .int r) : ∀ (a0_ : Nat) (M : sg_M), sg_K Yr a0_ 11 → fX11_widens N a0_ M = some r → sg_T Yr ad X 1 0 [(0, .ref (ad a0_))] [] M := by
  intro a0_ M hq0 h
  unfold fX11_widens at h
  refine i_aload_n C dX11_widens_0 0 rfl ?_
  refine s_vcI C [] vmX11_laysWidened lkX11_412 rfl rfl (by decide) hq0 (by decide) rfl rfl (Nat.le_of_ble_eq_true rfl) dX11_widens_1 (ctX11_laysWidened C.inj hq0) h (fun x2 M1 h => ?_)
  refine s_if_eq C 14 (by decide) dX11_widens_4 h (fun _ h => ?_) (fun _ h => ?_)
  · refine s_bipush C (-2 : Int32) dX11_widens_14 (by decide) ?_
    exact s_iret C E dX11_widens_16 h
  · refine i_aload_n C dX11_widens_7 0 rfl ?_
    refine gf11_403 C hq0 dX11_widens_8 ?_
    refine s_goto C 16 (by decide) dX11_widens_11 ?_
    exact s_iret C E dX11_widens_16 h
theorem ctX11_widens {ad : Nat → Nat} {V : sg_V} {N : Nat} (hi : sg_inj Yr ad) {a0_ : Nat} {M : sg_M} (hq0 : sg_K Yr a0_ 11) : ∀ res, fX11_widens N a0_ M = some res → sg_cI Yr ad V yX11_widens cX11_widens 1 .int 9 [.ref (ad a0_)] M res := fun res h => sg_bodyI (by decide) hi (Nat.le_of_ble_eq_true rfl) (fun X hX C E => by subst hX; exact tX11_widens C E _  _ hq0 h)
def fX11_widen (N : Nat) (a0_ : Nat) (x1_ : Int32) (M : sg_M) : Option (Int32 × sg_M) :=
  if x1_ < 0 then (
  some ((-2 : Int32), M)) else (
  sg_b (fX11_laysWidened N a0_ M) (fun (x2 : Int32) (M1 : sg_M) =>
  if x2 = 0 then (
  some ((-2 : Int32), M1)) else (
  if (M1.1 a0_ 35) ≤ x1_ then (
  some ((-1 : Int32), M1)) else (
  if sg_ib x1_ (Yr.2.2.1 (Yr.2.2.2 a0_ 34)) = true then
  some ((M1.1 (Yr.2.2.2 a0_ 34) (x1_).toNatClampNeg), M1)
  else none))))
set_option maxHeartbeats 4000000 in
set_option maxRecDepth 100000 in
theorem tX11_widen {ad : Nat → Nat} {X : sg_X} {N : Nat} {r : Int32 × sg_M} (C : sg_C Yr ad X cX11_widen RX11 2 9) (E : sg_eI Yr ad X cX11_widen .int r) : ∀ (a0_ : Nat) (x1_ : Int32) (M : sg_M), sg_K Yr a0_ 11 → fX11_widen N a0_ x1_ M = some r → sg_T Yr ad X 2 0 [(0, .ref (ad a0_)), (1, .int x1_)] [] M := by
  intro a0_ x1_ M hq0 h
  unfold fX11_widen at h
  refine i_iload_n C dX11_widen_0 1 rfl ?_
  refine s_if_lt C 11 (by decide) dX11_widen_1 h (fun _ h => ?_) (fun _ h => ?_)
  · refine s_bipush C (-2 : Int32) dX11_widen_11 (by decide) ?_
    exact s_iret C E dX11_widen_13 h
  · refine i_aload_n C dX11_widen_4 0 rfl ?_
    refine s_vcI C [] vmX11_laysWidened lkX11_412 rfl rfl (by decide) hq0 (by decide) rfl rfl (Nat.le_of_ble_eq_true rfl) dX11_widen_5 (ctX11_laysWidened C.inj hq0) h (fun x2 M1 h => ?_)
    refine s_if_ne C 14 (by decide) dX11_widen_8 h (fun _ h => ?_) (fun _ h => ?_)
    · refine s_bipush C (-2 : Int32) dX11_widen_11 (by decide) ?_
      exact s_iret C E dX11_widen_13 h
    · refine i_iload_n C dX11_widen_14 1 rfl ?_
      refine i_aload_n C dX11_widen_15 0 rfl ?_
      refine gf11_403 C hq0 dX11_widen_16 ?_
      refine s_icmp_ge C 31 (by decide) dX11_widen_19 h (fun _ h => ?_) (fun _ h => ?_)
      · refine s_iconst C (-1 : Int32) dX11_widen_31 (by decide) ?_
        exact s_iret C E dX11_widen_32 h
      · refine i_aload_n C dX11_widen_22 0 rfl ?_
        refine gf11_66 C hq0 dX11_widen_23 ?_
        refine i_iload_n C dX11_widen_26 1 rfl ?_
        refine s_iald C (ky11_34 hq0) dX11_widen_27 h (fun h => ?_)
        refine s_goto C 32 (by decide) dX11_widen_28 ?_
        exact s_iret C E dX11_widen_32 h
theorem ctX11_widen {ad : Nat → Nat} {V : sg_V} {N : Nat} (hi : sg_inj Yr ad) {a0_ : Nat} {x1_ : Int32} {M : sg_M} (hq0 : sg_K Yr a0_ 11) : ∀ res, fX11_widen N a0_ x1_ M = some res → sg_cI Yr ad V yX11_widen cX11_widen 2 .int 9 [.ref (ad a0_), .int x1_] M res := fun res h => sg_bodyI (by decide) hi (Nat.le_of_ble_eq_true rfl) (fun X hX C E => by subst hX; exact tX11_widen C E _ _  _ hq0 h)
def gX11_wide_30 (N : Nat)  (a0_ : Nat) (y0_ : Int32) (M : sg_M) : Option (Int32 × sg_M) :=
  sg_m y0_ (fun x1 : Int32 =>
  sg_bv (fX11_takesOut N a0_ M) (fun M2 : sg_M =>
  some (x1, M2)))
set_option maxHeartbeats 4000000 in
set_option maxRecDepth 100000 in
theorem tX11_wide_30 {ad : Nat → Nat} {X : sg_X} {N : Nat} {r : Int32 × sg_M} (C : sg_C Yr ad X cX11_wide RX11 2 8) (E : sg_eI Yr ad X cX11_wide .int r)  : ∀ (a0_ : Nat) (y0_ : Int32) (M : sg_M), gX11_wide_30 N a0_ y0_ M = some r → sg_K Yr a0_ 11 → sg_T Yr ad X 2 30 [(0, .ref (ad a0_))] [.int y0_] M := by
  intro a0_ y0_ M h hq0
  unfold gX11_wide_30 at h
  refine z_gi h (fun x1 h => ?_)
  refine i_istore_n (lv9 := [(1, _), (0, _)]) C 1 dX11_wide_30 rfl (by decide) rfl ?_
  refine i_aload_n C dX11_wide_31 1 rfl ?_
  refine s_vcV C [] vmX11_takesOut lkX11_366 rfl rfl (by decide) hq0 (by decide) rfl rfl (Nat.le_of_ble_eq_true rfl) dX11_wide_32 (ctX11_takesOut C.inj hq0) h (fun M2 h => ?_)
  refine i_iload_n C dX11_wide_35 0 rfl ?_
  exact s_iret C E dX11_wide_36 h
def fX11_wide (N : Nat) (a0_ : Nat) (M : sg_M) : Option (Int32 × sg_M) :=
  sg_b (fX11_isGrid N a0_ M) (fun (x4 : Int32) (M3 : sg_M) =>
  if x4 = 0 then (
  some ((-2 : Int32), M3)) else (
  sg_bv (fX11_puts N a0_ M3) (fun M5 : sg_M =>
  sg_bv (fX11_widensAll N a0_ M5) (fun M6 : sg_M =>
  sg_b (fX11_doesHold N a0_ M6) (fun (x8 : Int32) (M7 : sg_M) =>
  if x8 = 0 then (
  gX11_wide_30 N a0_ (0 : Int32) M7) else (
  gX11_wide_30 N a0_ (1 : Int32) M7))))))
set_option maxHeartbeats 4000000 in
set_option maxRecDepth 100000 in
theorem tX11_wide {ad : Nat → Nat} {X : sg_X} {N : Nat} {r : Int32 × sg_M} (C : sg_C Yr ad X cX11_wide RX11 2 8) (E : sg_eI Yr ad X cX11_wide .int r) : ∀ (a0_ : Nat) (M : sg_M), sg_K Yr a0_ 11 → fX11_wide N a0_ M = some r → sg_T Yr ad X 2 0 [(0, .ref (ad a0_))] [] M := by
  intro a0_ M hq0 h
  unfold fX11_wide at h
  refine i_aload_n C dX11_wide_0 0 rfl ?_
  refine s_vcI C [] vmX11_isGrid lkX11_109 rfl rfl (by decide) hq0 (by decide) rfl rfl (Nat.le_of_ble_eq_true rfl) dX11_wide_1 (ctX11_isGrid C.inj hq0) h (fun x4 M3 h => ?_)
  refine s_if_ne C 10 (by decide) dX11_wide_4 h (fun _ h => ?_) (fun _ h => ?_)
  · refine s_bipush C (-2 : Int32) dX11_wide_7 (by decide) ?_
    exact s_iret C E dX11_wide_9 h
  · refine i_aload_n C dX11_wide_10 0 rfl ?_
    refine s_vcV C [] vmX11_puts lkX11_360 rfl rfl (by decide) hq0 (by decide) rfl rfl (Nat.le_of_ble_eq_true rfl) dX11_wide_11 (ctX11_puts C.inj hq0) h (fun M5 h => ?_)
    refine i_aload_n C dX11_wide_14 0 rfl ?_
    refine s_vcV C [] vmX11_widensAll lkX11_409 rfl rfl (by decide) hq0 (by decide) rfl rfl (Nat.le_of_ble_eq_true rfl) dX11_wide_15 (ctX11_widensAll C.inj hq0) h (fun M6 h => ?_)
    refine i_aload_n C dX11_wide_18 0 rfl ?_
    refine s_vcI C [] vmX11_doesHold lkX11_334 rfl rfl (by decide) hq0 (by decide) rfl rfl (Nat.le_of_ble_eq_true rfl) dX11_wide_19 (ctX11_doesHold C.inj hq0) h (fun x8 M7 h => ?_)
    refine s_if_eq C 29 (by decide) dX11_wide_22 h (fun _ h => ?_) (fun _ h => ?_)
    · refine s_iconst C (0 : Int32) dX11_wide_29 (by decide) ?_
      exact sg_T.to (tX11_wide_30 C E _ _ _ h hq0) [0] rfl
    · refine s_iconst C (1 : Int32) dX11_wide_25 (by decide) ?_
      refine s_goto C 30 (by decide) dX11_wide_26 ?_
      exact sg_T.to (tX11_wide_30 C E _ _ _ h hq0) [0] rfl
theorem ctX11_wide {ad : Nat → Nat} {V : sg_V} {N : Nat} (hi : sg_inj Yr ad) {a0_ : Nat} {M : sg_M} (hq0 : sg_K Yr a0_ 11) : ∀ res, fX11_wide N a0_ M = some res → sg_cI Yr ad V yX11_wide cX11_wide 2 .int 8 [.ref (ad a0_)] M res := fun res h => sg_bodyI (by decide) hi (Nat.le_of_ble_eq_true rfl) (fun X hX C E => by subst hX; exact tX11_wide C E _  _ hq0 h)
def fX11_does0 (N : Nat) (a0_ : Nat) (x1_ : Int32) (x2_ : Int32) (x3_ : Int32) (M : sg_M) : Option (Int32 × sg_M) := none
theorem ctX11_does0 {ad : Nat → Nat} {V : sg_V} {N : Nat} (hi : sg_inj Yr ad) {a0_ : Nat} {x1_ : Int32} {x2_ : Int32} {x3_ : Int32} {M : sg_M} (hq0 : sg_K Yr a0_ 11) : ∀ res, fX11_does0 N a0_ x1_ x2_ x3_ M = some res → sg_cI Yr ad V yX11_does cX11_does 6 .boolean 5 [.ref (ad a0_), .int x1_, .int x2_, .int x3_] M res := fun res h => by cases h
def bX11_does1_13 (N : Nat)  (k13 : (Nat × Int32 × Int32 × Int32) → sg_M → Option (Int32 × sg_M)) (s : Nat × Int32 × Int32 × Int32) (M : sg_M) : Option (Int32 × sg_M) :=
  sg_b (fX11_straps N s.1 M) (fun (x2 : Int32) (M1 : sg_M) =>
  if x2 ≤ s.2.2.2 then (
  some ((0 : Int32), M1)) else (
  if sg_ib ((28 : Int32) + s.2.2.2) (Yr.2.2.1 (Yr.2.2.2 s.1 1)) = true then
  if (M1.1 (Yr.2.2.2 s.1 1) (((28 : Int32) + s.2.2.2)).toNatClampNeg) = (4 : Int32) then (
  sg_m (s.2.2.2 + (1 : Int32)) (fun x3 : Int32 =>
  k13 (s.1, s.2.1, s.2.2.1, x3) M1)) else (
  if sg_ib ((28 : Int32) + s.2.2.2) (Yr.2.2.1 (Yr.2.2.2 s.1 1)) = true then
  if sg_ib ((28 : Int32) + s.2.2.2) (Yr.2.2.1 (Yr.2.2.2 s.1 1)) = true then
  sg_m (sg_uI M1 (Yr.2.2.2 s.1 1) (((28 : Int32) + s.2.2.2)).toNatClampNeg ((M1.1 (Yr.2.2.2 s.1 1) (((28 : Int32) + s.2.2.2)).toNatClampNeg) + (1 : Int32))) (fun M4 : sg_M =>
  if sg_ib s.2.1 (Yr.2.2.1 (Yr.2.2.2 s.1 36)) = true then
  sg_m (sg_uI M4 (Yr.2.2.2 s.1 36) (s.2.1).toNatClampNeg s.2.2.2) (fun M5 : sg_M =>
  sg_b (fX11_does0 N s.1 (s.2.1 + (1 : Int32)) s.2.2.1 s.2.2.2 M5) (fun (x7 : Int32) (M6 : sg_M) =>
  sg_m x7 (fun x8 : Int32 =>
  if sg_ib ((28 : Int32) + s.2.2.2) (Yr.2.2.1 (Yr.2.2.2 s.1 1)) = true then
  if sg_ib ((28 : Int32) + s.2.2.2) (Yr.2.2.1 (Yr.2.2.2 s.1 1)) = true then
  sg_m (sg_uI M6 (Yr.2.2.2 s.1 1) (((28 : Int32) + s.2.2.2)).toNatClampNeg ((M6.1 (Yr.2.2.2 s.1 1) (((28 : Int32) + s.2.2.2)).toNatClampNeg) - (1 : Int32))) (fun M9 : sg_M =>
  if x8 = 0 then (
  sg_m (s.2.2.2 + (1 : Int32)) (fun x10 : Int32 =>
  k13 (s.1, s.2.1, s.2.2.1, x10) M9)) else (
  some ((1 : Int32), M9)))
  else none
  else none)))
  else none)
  else none
  else none)
  else none))
def gX11_does1_13 (N : Nat)  : (Nat × Int32 × Int32 × Int32) → sg_M → Option (Int32 × sg_M) := sg_lp (bX11_does1_13 N ) N
set_option maxHeartbeats 4000000 in
set_option maxRecDepth 100000 in
theorem tX11_does1_13 {ad : Nat → Nat} {X : sg_X} {N : Nat} {r : Int32 × sg_M} (C : sg_C Yr ad X cX11_does RX11 6 6) (E : sg_eI Yr ad X cX11_does .boolean r)  : ∀ (s : Nat × Int32 × Int32 × Int32) (M : sg_M), gX11_does1_13 N s M = some r → sg_K Yr s.1 11 → sg_T Yr ad X 6 13 [(0, .ref (ad (s.1))), (1, .int (s.2.1)), (2, .int (s.2.2.1)), (4, .int (s.2.2.2))] [] M := by
  have key : ∀ n : Nat, ∀ (s : Nat × Int32 × Int32 × Int32) (M : sg_M), sg_lp (bX11_does1_13 N) n s M = some r → sg_K Yr s.1 11 → sg_T Yr ad X 6 13 [(0, .ref (ad (s.1))), (1, .int (s.2.1)), (2, .int (s.2.2.1)), (4, .int (s.2.2.2))] [] M := by
    intro n
    induction n with
    | zero => intro s M h; cases h
    | succ n ih =>
      intro s M h hq0
      have h : bX11_does1_13 N (sg_lp (bX11_does1_13 N) n) s M = some r := h
      generalize sg_lp (bX11_does1_13 N) n = k13 at h ih
      have hk13 := ih
      unfold bX11_does1_13 at h
      refine i_iload C dX11_does_13 3 rfl ?_
      refine i_aload_n C dX11_does_15 0 rfl ?_
      refine s_vcI C [] vmX11_straps lkX11_116 rfl rfl (by decide) hq0 (by decide) rfl rfl (Nat.le_of_ble_eq_true rfl) dX11_does_16 (ctX11_straps C.inj hq0) h (fun x2 M1 h => ?_)
      refine s_icmp_ge C 100 (by decide) dX11_does_19 h (fun _ h => ?_) (fun _ h => ?_)
      · refine s_iconst C (0 : Int32) dX11_does_100 (by decide) ?_
        exact s_zret1 C E (by decide) dX11_does_101 h
      · refine i_aload_n C dX11_does_22 0 rfl ?_
        refine gf11_9 C hq0 dX11_does_23 ?_
        refine s_bipush C (28 : Int32) dX11_does_26 (by decide) ?_
        refine i_iload C dX11_does_28 3 rfl ?_
        refine s_iadd C dX11_does_30 ?_
        refine s_iald C (ky11_1 hq0) dX11_does_31 h (fun h => ?_)
        refine s_iconst C (4 : Int32) dX11_does_32 (by decide) ?_
        refine s_icmp_ne C 39 (by decide) dX11_does_33 h (fun _ h => ?_) (fun _ h => ?_)
        · refine s_goto C 94 (by decide) dX11_does_36 ?_
          refine z_iinc (n := 1) (c9 := (1 : Int32)) (by decide) h (fun x3 hx h => ?_)
          refine i_iinc (lv9 := [(4, _), (0, _), (1, _), (2, _)]) C dX11_does_94 3 rfl hx (by decide) rfl ?_
          refine s_goto C 13 (by decide) dX11_does_97 ?_
          exact sg_T.to (hk13 _ _ h hq0) [1, 2, 3, 0] rfl
        · refine i_aload_n C dX11_does_39 0 rfl ?_
          refine gf11_9 C hq0 dX11_does_40 ?_
          refine s_bipush C (28 : Int32) dX11_does_43 (by decide) ?_
          refine i_iload C dX11_does_45 3 rfl ?_
          refine s_iadd C dX11_does_47 ?_
          refine s_dup2 C dX11_does_48 rfl rfl ?_
          refine s_iald C (ky11_1 hq0) dX11_does_49 h (fun h => ?_)
          refine s_iconst C (1 : Int32) dX11_does_50 (by decide) ?_
          refine s_iadd C dX11_does_51 ?_
          refine s_iast C (ky11_1 hq0) dX11_does_52 h (fun h => ?_)
          refine z_gM h (fun M4 h => ?_)
          refine i_aload_n C dX11_does_53 0 rfl ?_
          refine gf11_69 C hq0 dX11_does_54 ?_
          refine i_iload_n C dX11_does_57 1 rfl ?_
          refine i_iload C dX11_does_58 3 rfl ?_
          refine s_iast C (ky11_36 hq0) dX11_does_60 h (fun h => ?_)
          refine z_gM h (fun M5 h => ?_)
          refine i_aload_n C dX11_does_61 0 rfl ?_
          refine i_iload_n C dX11_does_62 1 rfl ?_
          refine s_iconst C (1 : Int32) dX11_does_63 (by decide) ?_
          refine s_iadd C dX11_does_64 ?_
          refine i_iload_n C dX11_does_65 2 rfl ?_
          refine i_iload C dX11_does_66 3 rfl ?_
          refine s_vcI C [_, _, _] vmX11_does lkX11_415 rfl rfl (by decide) hq0 (by decide) rfl rfl (Nat.le_of_ble_eq_true rfl) dX11_does_68 (ctX11_does0 C.inj hq0) h (fun x7 M6 h => ?_)
          refine z_gi h (fun x8 h => ?_)
          refine i_istore (lv9 := [(5, _), (0, _), (1, _), (2, _), (4, _)]) C dX11_does_71 (by decide) rfl ?_
          refine i_aload_n C dX11_does_73 1 rfl ?_
          refine gf11_9 C hq0 dX11_does_74 ?_
          refine s_bipush C (28 : Int32) dX11_does_77 (by decide) ?_
          refine i_iload C dX11_does_79 4 rfl ?_
          refine s_iadd C dX11_does_81 ?_
          refine s_dup2 C dX11_does_82 rfl rfl ?_
          refine s_iald C (ky11_1 hq0) dX11_does_83 h (fun h => ?_)
          refine s_iconst C (1 : Int32) dX11_does_84 (by decide) ?_
          refine s_isub C dX11_does_85 ?_
          refine s_iast C (ky11_1 hq0) dX11_does_86 h (fun h => ?_)
          refine z_gM h (fun M9 h => ?_)
          refine i_iload C dX11_does_87 0 rfl ?_
          refine s_if_eq C 94 (by decide) dX11_does_89 h (fun _ h => ?_) (fun _ h => ?_)
          · refine z_iinc (n := 1) (c9 := (1 : Int32)) (by decide) h (fun x10 hx h => ?_)
            refine i_iinc (lv9 := [(4, _), (5, _), (0, _), (1, _), (2, _)]) C dX11_does_94 4 rfl hx (by decide) rfl ?_
            refine s_goto C 13 (by decide) dX11_does_97 ?_
            exact sg_T.to (hk13 _ _ h hq0) [2, 3, 4, 0] rfl
          · refine s_iconst C (1 : Int32) dX11_does_92 (by decide) ?_
            exact s_zret1 C E (by decide) dX11_does_93 h
  exact key N
def fX11_does1 (N : Nat) (a0_ : Nat) (x1_ : Int32) (x2_ : Int32) (x3_ : Int32) (M : sg_M) : Option (Int32 × sg_M) :=
  if x1_ = x2_ then (
  sg_b (fX11_doesHold N a0_ M) (fun (x12 : Int32) (M11 : sg_M) =>
  if sg_bz x12 = true then some (x12, M11) else none)) else (
  sg_m x3_ (fun x13 : Int32 =>
  gX11_does1_13 N (a0_, x1_, x2_, x13) M))
set_option maxHeartbeats 4000000 in
set_option maxRecDepth 100000 in
theorem tX11_does1 {ad : Nat → Nat} {X : sg_X} {N : Nat} {r : Int32 × sg_M} (C : sg_C Yr ad X cX11_does RX11 6 6) (E : sg_eI Yr ad X cX11_does .boolean r) : ∀ (a0_ : Nat) (x1_ : Int32) (x2_ : Int32) (x3_ : Int32) (M : sg_M), sg_K Yr a0_ 11 → fX11_does1 N a0_ x1_ x2_ x3_ M = some r → sg_T Yr ad X 6 0 [(0, .ref (ad a0_)), (1, .int x1_), (2, .int x2_), (3, .int x3_)] [] M := by
  intro a0_ x1_ x2_ x3_ M hq0 h
  unfold fX11_does1 at h
  refine i_iload_n C dX11_does_0 1 rfl ?_
  refine i_iload_n C dX11_does_1 2 rfl ?_
  refine s_icmp_ne C 10 (by decide) dX11_does_2 h (fun _ h => ?_) (fun _ h => ?_)
  · refine i_aload_n C dX11_does_5 0 rfl ?_
    refine s_vcI C [] vmX11_doesHold lkX11_334 rfl rfl (by decide) hq0 (by decide) rfl rfl (Nat.le_of_ble_eq_true rfl) dX11_does_6 (ctX11_doesHold C.inj hq0) h (fun x12 M11 h => ?_)
    exact s_zret C E dX11_does_9 h
  · refine i_iload_n C dX11_does_10 3 rfl ?_
    refine z_gi h (fun x13 h => ?_)
    refine i_istore (lv9 := [(4, _), (0, _), (1, _), (2, _), (3, _)]) C dX11_does_11 (by decide) rfl ?_
    exact sg_T.to (tX11_does1_13 C E _ _ h hq0) [1, 2, 3, 0] rfl
theorem ctX11_does1 {ad : Nat → Nat} {V : sg_V} {N : Nat} (hi : sg_inj Yr ad) {a0_ : Nat} {x1_ : Int32} {x2_ : Int32} {x3_ : Int32} {M : sg_M} (hq0 : sg_K Yr a0_ 11) : ∀ res, fX11_does1 N a0_ x1_ x2_ x3_ M = some res → sg_cI Yr ad V yX11_does cX11_does 6 .boolean 6 [.ref (ad a0_), .int x1_, .int x2_, .int x3_] M res := fun res h => sg_bodyI (by decide) hi (Nat.le_of_ble_eq_true rfl) (fun X hX C E => by subst hX; exact tX11_does1 C E _ _ _ _  _ hq0 h)
def bX11_does2_13 (N : Nat)  (k13 : (Nat × Int32 × Int32 × Int32) → sg_M → Option (Int32 × sg_M)) (s : Nat × Int32 × Int32 × Int32) (M : sg_M) : Option (Int32 × sg_M) :=
  sg_b (fX11_straps N s.1 M) (fun (x2 : Int32) (M1 : sg_M) =>
  if x2 ≤ s.2.2.2 then (
  some ((0 : Int32), M1)) else (
  if sg_ib ((28 : Int32) + s.2.2.2) (Yr.2.2.1 (Yr.2.2.2 s.1 1)) = true then
  if (M1.1 (Yr.2.2.2 s.1 1) (((28 : Int32) + s.2.2.2)).toNatClampNeg) = (4 : Int32) then (
  sg_m (s.2.2.2 + (1 : Int32)) (fun x3 : Int32 =>
  k13 (s.1, s.2.1, s.2.2.1, x3) M1)) else (
  if sg_ib ((28 : Int32) + s.2.2.2) (Yr.2.2.1 (Yr.2.2.2 s.1 1)) = true then
  if sg_ib ((28 : Int32) + s.2.2.2) (Yr.2.2.1 (Yr.2.2.2 s.1 1)) = true then
  sg_m (sg_uI M1 (Yr.2.2.2 s.1 1) (((28 : Int32) + s.2.2.2)).toNatClampNeg ((M1.1 (Yr.2.2.2 s.1 1) (((28 : Int32) + s.2.2.2)).toNatClampNeg) + (1 : Int32))) (fun M4 : sg_M =>
  if sg_ib s.2.1 (Yr.2.2.1 (Yr.2.2.2 s.1 36)) = true then
  sg_m (sg_uI M4 (Yr.2.2.2 s.1 36) (s.2.1).toNatClampNeg s.2.2.2) (fun M5 : sg_M =>
  sg_b (fX11_does1 N s.1 (s.2.1 + (1 : Int32)) s.2.2.1 s.2.2.2 M5) (fun (x7 : Int32) (M6 : sg_M) =>
  sg_m x7 (fun x8 : Int32 =>
  if sg_ib ((28 : Int32) + s.2.2.2) (Yr.2.2.1 (Yr.2.2.2 s.1 1)) = true then
  if sg_ib ((28 : Int32) + s.2.2.2) (Yr.2.2.1 (Yr.2.2.2 s.1 1)) = true then
  sg_m (sg_uI M6 (Yr.2.2.2 s.1 1) (((28 : Int32) + s.2.2.2)).toNatClampNeg ((M6.1 (Yr.2.2.2 s.1 1) (((28 : Int32) + s.2.2.2)).toNatClampNeg) - (1 : Int32))) (fun M9 : sg_M =>
  if x8 = 0 then (
  sg_m (s.2.2.2 + (1 : Int32)) (fun x10 : Int32 =>
  k13 (s.1, s.2.1, s.2.2.1, x10) M9)) else (
  some ((1 : Int32), M9)))
  else none
  else none)))
  else none)
  else none
  else none)
  else none))
def gX11_does2_13 (N : Nat)  : (Nat × Int32 × Int32 × Int32) → sg_M → Option (Int32 × sg_M) := sg_lp (bX11_does2_13 N ) N
set_option maxHeartbeats 4000000 in
set_option maxRecDepth 100000 in
theorem tX11_does2_13 {ad : Nat → Nat} {X : sg_X} {N : Nat} {r : Int32 × sg_M} (C : sg_C Yr ad X cX11_does RX11 6 7) (E : sg_eI Yr ad X cX11_does .boolean r)  : ∀ (s : Nat × Int32 × Int32 × Int32) (M : sg_M), gX11_does2_13 N s M = some r → sg_K Yr s.1 11 → sg_T Yr ad X 6 13 [(0, .ref (ad (s.1))), (1, .int (s.2.1)), (2, .int (s.2.2.1)), (4, .int (s.2.2.2))] [] M := by
  have key : ∀ n : Nat, ∀ (s : Nat × Int32 × Int32 × Int32) (M : sg_M), sg_lp (bX11_does2_13 N) n s M = some r → sg_K Yr s.1 11 → sg_T Yr ad X 6 13 [(0, .ref (ad (s.1))), (1, .int (s.2.1)), (2, .int (s.2.2.1)), (4, .int (s.2.2.2))] [] M := by
    intro n
    induction n with
    | zero => intro s M h; cases h
    | succ n ih =>
      intro s M h hq0
      have h : bX11_does2_13 N (sg_lp (bX11_does2_13 N) n) s M = some r := h
      generalize sg_lp (bX11_does2_13 N) n = k13 at h ih
      have hk13 := ih
      unfold bX11_does2_13 at h
      refine i_iload C dX11_does_13 3 rfl ?_
      refine i_aload_n C dX11_does_15 0 rfl ?_
      refine s_vcI C [] vmX11_straps lkX11_116 rfl rfl (by decide) hq0 (by decide) rfl rfl (Nat.le_of_ble_eq_true rfl) dX11_does_16 (ctX11_straps C.inj hq0) h (fun x2 M1 h => ?_)
      refine s_icmp_ge C 100 (by decide) dX11_does_19 h (fun _ h => ?_) (fun _ h => ?_)
      · refine s_iconst C (0 : Int32) dX11_does_100 (by decide) ?_
        exact s_zret1 C E (by decide) dX11_does_101 h
      · refine i_aload_n C dX11_does_22 0 rfl ?_
        refine gf11_9 C hq0 dX11_does_23 ?_
        refine s_bipush C (28 : Int32) dX11_does_26 (by decide) ?_
        refine i_iload C dX11_does_28 3 rfl ?_
        refine s_iadd C dX11_does_30 ?_
        refine s_iald C (ky11_1 hq0) dX11_does_31 h (fun h => ?_)
        refine s_iconst C (4 : Int32) dX11_does_32 (by decide) ?_
        refine s_icmp_ne C 39 (by decide) dX11_does_33 h (fun _ h => ?_) (fun _ h => ?_)
        · refine s_goto C 94 (by decide) dX11_does_36 ?_
          refine z_iinc (n := 1) (c9 := (1 : Int32)) (by decide) h (fun x3 hx h => ?_)
          refine i_iinc (lv9 := [(4, _), (0, _), (1, _), (2, _)]) C dX11_does_94 3 rfl hx (by decide) rfl ?_
          refine s_goto C 13 (by decide) dX11_does_97 ?_
          exact sg_T.to (hk13 _ _ h hq0) [1, 2, 3, 0] rfl
        · refine i_aload_n C dX11_does_39 0 rfl ?_
          refine gf11_9 C hq0 dX11_does_40 ?_
          refine s_bipush C (28 : Int32) dX11_does_43 (by decide) ?_
          refine i_iload C dX11_does_45 3 rfl ?_
          refine s_iadd C dX11_does_47 ?_
          refine s_dup2 C dX11_does_48 rfl rfl ?_
          refine s_iald C (ky11_1 hq0) dX11_does_49 h (fun h => ?_)
          refine s_iconst C (1 : Int32) dX11_does_50 (by decide) ?_
          refine s_iadd C dX11_does_51 ?_
          refine s_iast C (ky11_1 hq0) dX11_does_52 h (fun h => ?_)
          refine z_gM h (fun M4 h => ?_)
          refine i_aload_n C dX11_does_53 0 rfl ?_
          refine gf11_69 C hq0 dX11_does_54 ?_
          refine i_iload_n C dX11_does_57 1 rfl ?_
          refine i_iload C dX11_does_58 3 rfl ?_
          refine s_iast C (ky11_36 hq0) dX11_does_60 h (fun h => ?_)
          refine z_gM h (fun M5 h => ?_)
          refine i_aload_n C dX11_does_61 0 rfl ?_
          refine i_iload_n C dX11_does_62 1 rfl ?_
          refine s_iconst C (1 : Int32) dX11_does_63 (by decide) ?_
          refine s_iadd C dX11_does_64 ?_
          refine i_iload_n C dX11_does_65 2 rfl ?_
          refine i_iload C dX11_does_66 3 rfl ?_
          refine s_vcI C [_, _, _] vmX11_does lkX11_415 rfl rfl (by decide) hq0 (by decide) rfl rfl (Nat.le_of_ble_eq_true rfl) dX11_does_68 (ctX11_does1 C.inj hq0) h (fun x7 M6 h => ?_)
          refine z_gi h (fun x8 h => ?_)
          refine i_istore (lv9 := [(5, _), (0, _), (1, _), (2, _), (4, _)]) C dX11_does_71 (by decide) rfl ?_
          refine i_aload_n C dX11_does_73 1 rfl ?_
          refine gf11_9 C hq0 dX11_does_74 ?_
          refine s_bipush C (28 : Int32) dX11_does_77 (by decide) ?_
          refine i_iload C dX11_does_79 4 rfl ?_
          refine s_iadd C dX11_does_81 ?_
          refine s_dup2 C dX11_does_82 rfl rfl ?_
          refine s_iald C (ky11_1 hq0) dX11_does_83 h (fun h => ?_)
          refine s_iconst C (1 : Int32) dX11_does_84 (by decide) ?_
          refine s_isub C dX11_does_85 ?_
          refine s_iast C (ky11_1 hq0) dX11_does_86 h (fun h => ?_)
          refine z_gM h (fun M9 h => ?_)
          refine i_iload C dX11_does_87 0 rfl ?_
          refine s_if_eq C 94 (by decide) dX11_does_89 h (fun _ h => ?_) (fun _ h => ?_)
          · refine z_iinc (n := 1) (c9 := (1 : Int32)) (by decide) h (fun x10 hx h => ?_)
            refine i_iinc (lv9 := [(4, _), (5, _), (0, _), (1, _), (2, _)]) C dX11_does_94 4 rfl hx (by decide) rfl ?_
            refine s_goto C 13 (by decide) dX11_does_97 ?_
            exact sg_T.to (hk13 _ _ h hq0) [2, 3, 4, 0] rfl
          · refine s_iconst C (1 : Int32) dX11_does_92 (by decide) ?_
            exact s_zret1 C E (by decide) dX11_does_93 h
  exact key N
def fX11_does2 (N : Nat) (a0_ : Nat) (x1_ : Int32) (x2_ : Int32) (x3_ : Int32) (M : sg_M) : Option (Int32 × sg_M) :=
  if x1_ = x2_ then (
  sg_b (fX11_doesHold N a0_ M) (fun (x12 : Int32) (M11 : sg_M) =>
  if sg_bz x12 = true then some (x12, M11) else none)) else (
  sg_m x3_ (fun x13 : Int32 =>
  gX11_does2_13 N (a0_, x1_, x2_, x13) M))
set_option maxHeartbeats 4000000 in
set_option maxRecDepth 100000 in
theorem tX11_does2 {ad : Nat → Nat} {X : sg_X} {N : Nat} {r : Int32 × sg_M} (C : sg_C Yr ad X cX11_does RX11 6 7) (E : sg_eI Yr ad X cX11_does .boolean r) : ∀ (a0_ : Nat) (x1_ : Int32) (x2_ : Int32) (x3_ : Int32) (M : sg_M), sg_K Yr a0_ 11 → fX11_does2 N a0_ x1_ x2_ x3_ M = some r → sg_T Yr ad X 6 0 [(0, .ref (ad a0_)), (1, .int x1_), (2, .int x2_), (3, .int x3_)] [] M := by
  intro a0_ x1_ x2_ x3_ M hq0 h
  unfold fX11_does2 at h
  refine i_iload_n C dX11_does_0 1 rfl ?_
  refine i_iload_n C dX11_does_1 2 rfl ?_
  refine s_icmp_ne C 10 (by decide) dX11_does_2 h (fun _ h => ?_) (fun _ h => ?_)
  · refine i_aload_n C dX11_does_5 0 rfl ?_
    refine s_vcI C [] vmX11_doesHold lkX11_334 rfl rfl (by decide) hq0 (by decide) rfl rfl (Nat.le_of_ble_eq_true rfl) dX11_does_6 (ctX11_doesHold C.inj hq0) h (fun x12 M11 h => ?_)
    exact s_zret C E dX11_does_9 h
  · refine i_iload_n C dX11_does_10 3 rfl ?_
    refine z_gi h (fun x13 h => ?_)
    refine i_istore (lv9 := [(4, _), (0, _), (1, _), (2, _), (3, _)]) C dX11_does_11 (by decide) rfl ?_
    exact sg_T.to (tX11_does2_13 C E _ _ h hq0) [1, 2, 3, 0] rfl
theorem ctX11_does2 {ad : Nat → Nat} {V : sg_V} {N : Nat} (hi : sg_inj Yr ad) {a0_ : Nat} {x1_ : Int32} {x2_ : Int32} {x3_ : Int32} {M : sg_M} (hq0 : sg_K Yr a0_ 11) : ∀ res, fX11_does2 N a0_ x1_ x2_ x3_ M = some res → sg_cI Yr ad V yX11_does cX11_does 6 .boolean 7 [.ref (ad a0_), .int x1_, .int x2_, .int x3_] M res := fun res h => sg_bodyI (by decide) hi (Nat.le_of_ble_eq_true rfl) (fun X hX C E => by subst hX; exact tX11_does2 C E _ _ _ _  _ hq0 h)
def bX11_does3_13 (N : Nat)  (k13 : (Nat × Int32 × Int32 × Int32) → sg_M → Option (Int32 × sg_M)) (s : Nat × Int32 × Int32 × Int32) (M : sg_M) : Option (Int32 × sg_M) :=
  sg_b (fX11_straps N s.1 M) (fun (x2 : Int32) (M1 : sg_M) =>
  if x2 ≤ s.2.2.2 then (
  some ((0 : Int32), M1)) else (
  if sg_ib ((28 : Int32) + s.2.2.2) (Yr.2.2.1 (Yr.2.2.2 s.1 1)) = true then
  if (M1.1 (Yr.2.2.2 s.1 1) (((28 : Int32) + s.2.2.2)).toNatClampNeg) = (4 : Int32) then (
  sg_m (s.2.2.2 + (1 : Int32)) (fun x3 : Int32 =>
  k13 (s.1, s.2.1, s.2.2.1, x3) M1)) else (
  if sg_ib ((28 : Int32) + s.2.2.2) (Yr.2.2.1 (Yr.2.2.2 s.1 1)) = true then
  if sg_ib ((28 : Int32) + s.2.2.2) (Yr.2.2.1 (Yr.2.2.2 s.1 1)) = true then
  sg_m (sg_uI M1 (Yr.2.2.2 s.1 1) (((28 : Int32) + s.2.2.2)).toNatClampNeg ((M1.1 (Yr.2.2.2 s.1 1) (((28 : Int32) + s.2.2.2)).toNatClampNeg) + (1 : Int32))) (fun M4 : sg_M =>
  if sg_ib s.2.1 (Yr.2.2.1 (Yr.2.2.2 s.1 36)) = true then
  sg_m (sg_uI M4 (Yr.2.2.2 s.1 36) (s.2.1).toNatClampNeg s.2.2.2) (fun M5 : sg_M =>
  sg_b (fX11_does2 N s.1 (s.2.1 + (1 : Int32)) s.2.2.1 s.2.2.2 M5) (fun (x7 : Int32) (M6 : sg_M) =>
  sg_m x7 (fun x8 : Int32 =>
  if sg_ib ((28 : Int32) + s.2.2.2) (Yr.2.2.1 (Yr.2.2.2 s.1 1)) = true then
  if sg_ib ((28 : Int32) + s.2.2.2) (Yr.2.2.1 (Yr.2.2.2 s.1 1)) = true then
  sg_m (sg_uI M6 (Yr.2.2.2 s.1 1) (((28 : Int32) + s.2.2.2)).toNatClampNeg ((M6.1 (Yr.2.2.2 s.1 1) (((28 : Int32) + s.2.2.2)).toNatClampNeg) - (1 : Int32))) (fun M9 : sg_M =>
  if x8 = 0 then (
  sg_m (s.2.2.2 + (1 : Int32)) (fun x10 : Int32 =>
  k13 (s.1, s.2.1, s.2.2.1, x10) M9)) else (
  some ((1 : Int32), M9)))
  else none
  else none)))
  else none)
  else none
  else none)
  else none))
def gX11_does3_13 (N : Nat)  : (Nat × Int32 × Int32 × Int32) → sg_M → Option (Int32 × sg_M) := sg_lp (bX11_does3_13 N ) N
set_option maxHeartbeats 4000000 in
set_option maxRecDepth 100000 in
theorem tX11_does3_13 {ad : Nat → Nat} {X : sg_X} {N : Nat} {r : Int32 × sg_M} (C : sg_C Yr ad X cX11_does RX11 6 8) (E : sg_eI Yr ad X cX11_does .boolean r)  : ∀ (s : Nat × Int32 × Int32 × Int32) (M : sg_M), gX11_does3_13 N s M = some r → sg_K Yr s.1 11 → sg_T Yr ad X 6 13 [(0, .ref (ad (s.1))), (1, .int (s.2.1)), (2, .int (s.2.2.1)), (4, .int (s.2.2.2))] [] M := by
  have key : ∀ n : Nat, ∀ (s : Nat × Int32 × Int32 × Int32) (M : sg_M), sg_lp (bX11_does3_13 N) n s M = some r → sg_K Yr s.1 11 → sg_T Yr ad X 6 13 [(0, .ref (ad (s.1))), (1, .int (s.2.1)), (2, .int (s.2.2.1)), (4, .int (s.2.2.2))] [] M := by
    intro n
    induction n with
    | zero => intro s M h; cases h
    | succ n ih =>
      intro s M h hq0
      have h : bX11_does3_13 N (sg_lp (bX11_does3_13 N) n) s M = some r := h
      generalize sg_lp (bX11_does3_13 N) n = k13 at h ih
      have hk13 := ih
      unfold bX11_does3_13 at h
      refine i_iload C dX11_does_13 3 rfl ?_
      refine i_aload_n C dX11_does_15 0 rfl ?_
      refine s_vcI C [] vmX11_straps lkX11_116 rfl rfl (by decide) hq0 (by decide) rfl rfl (Nat.le_of_ble_eq_true rfl) dX11_does_16 (ctX11_straps C.inj hq0) h (fun x2 M1 h => ?_)
      refine s_icmp_ge C 100 (by decide) dX11_does_19 h (fun _ h => ?_) (fun _ h => ?_)
      · refine s_iconst C (0 : Int32) dX11_does_100 (by decide) ?_
        exact s_zret1 C E (by decide) dX11_does_101 h
      · refine i_aload_n C dX11_does_22 0 rfl ?_
        refine gf11_9 C hq0 dX11_does_23 ?_
        refine s_bipush C (28 : Int32) dX11_does_26 (by decide) ?_
        refine i_iload C dX11_does_28 3 rfl ?_
        refine s_iadd C dX11_does_30 ?_
        refine s_iald C (ky11_1 hq0) dX11_does_31 h (fun h => ?_)
        refine s_iconst C (4 : Int32) dX11_does_32 (by decide) ?_
        refine s_icmp_ne C 39 (by decide) dX11_does_33 h (fun _ h => ?_) (fun _ h => ?_)
        · refine s_goto C 94 (by decide) dX11_does_36 ?_
          refine z_iinc (n := 1) (c9 := (1 : Int32)) (by decide) h (fun x3 hx h => ?_)
          refine i_iinc (lv9 := [(4, _), (0, _), (1, _), (2, _)]) C dX11_does_94 3 rfl hx (by decide) rfl ?_
          refine s_goto C 13 (by decide) dX11_does_97 ?_
          exact sg_T.to (hk13 _ _ h hq0) [1, 2, 3, 0] rfl
        · refine i_aload_n C dX11_does_39 0 rfl ?_
          refine gf11_9 C hq0 dX11_does_40 ?_
          refine s_bipush C (28 : Int32) dX11_does_43 (by decide) ?_
          refine i_iload C dX11_does_45 3 rfl ?_
          refine s_iadd C dX11_does_47 ?_
          refine s_dup2 C dX11_does_48 rfl rfl ?_
          refine s_iald C (ky11_1 hq0) dX11_does_49 h (fun h => ?_)
          refine s_iconst C (1 : Int32) dX11_does_50 (by decide) ?_
          refine s_iadd C dX11_does_51 ?_
          refine s_iast C (ky11_1 hq0) dX11_does_52 h (fun h => ?_)
          refine z_gM h (fun M4 h => ?_)
          refine i_aload_n C dX11_does_53 0 rfl ?_
          refine gf11_69 C hq0 dX11_does_54 ?_
          refine i_iload_n C dX11_does_57 1 rfl ?_
          refine i_iload C dX11_does_58 3 rfl ?_
          refine s_iast C (ky11_36 hq0) dX11_does_60 h (fun h => ?_)
          refine z_gM h (fun M5 h => ?_)
          refine i_aload_n C dX11_does_61 0 rfl ?_
          refine i_iload_n C dX11_does_62 1 rfl ?_
          refine s_iconst C (1 : Int32) dX11_does_63 (by decide) ?_
          refine s_iadd C dX11_does_64 ?_
          refine i_iload_n C dX11_does_65 2 rfl ?_
          refine i_iload C dX11_does_66 3 rfl ?_
          refine s_vcI C [_, _, _] vmX11_does lkX11_415 rfl rfl (by decide) hq0 (by decide) rfl rfl (Nat.le_of_ble_eq_true rfl) dX11_does_68 (ctX11_does2 C.inj hq0) h (fun x7 M6 h => ?_)
          refine z_gi h (fun x8 h => ?_)
          refine i_istore (lv9 := [(5, _), (0, _), (1, _), (2, _), (4, _)]) C dX11_does_71 (by decide) rfl ?_
          refine i_aload_n C dX11_does_73 1 rfl ?_
          refine gf11_9 C hq0 dX11_does_74 ?_
          refine s_bipush C (28 : Int32) dX11_does_77 (by decide) ?_
          refine i_iload C dX11_does_79 4 rfl ?_
          refine s_iadd C dX11_does_81 ?_
          refine s_dup2 C dX11_does_82 rfl rfl ?_
          refine s_iald C (ky11_1 hq0) dX11_does_83 h (fun h => ?_)
          refine s_iconst C (1 : Int32) dX11_does_84 (by decide) ?_
          refine s_isub C dX11_does_85 ?_
          refine s_iast C (ky11_1 hq0) dX11_does_86 h (fun h => ?_)
          refine z_gM h (fun M9 h => ?_)
          refine i_iload C dX11_does_87 0 rfl ?_
          refine s_if_eq C 94 (by decide) dX11_does_89 h (fun _ h => ?_) (fun _ h => ?_)
          · refine z_iinc (n := 1) (c9 := (1 : Int32)) (by decide) h (fun x10 hx h => ?_)
            refine i_iinc (lv9 := [(4, _), (5, _), (0, _), (1, _), (2, _)]) C dX11_does_94 4 rfl hx (by decide) rfl ?_
            refine s_goto C 13 (by decide) dX11_does_97 ?_
            exact sg_T.to (hk13 _ _ h hq0) [2, 3, 4, 0] rfl
          · refine s_iconst C (1 : Int32) dX11_does_92 (by decide) ?_
            exact s_zret1 C E (by decide) dX11_does_93 h
  exact key N
def fX11_does3 (N : Nat) (a0_ : Nat) (x1_ : Int32) (x2_ : Int32) (x3_ : Int32) (M : sg_M) : Option (Int32 × sg_M) :=
  if x1_ = x2_ then (
  sg_b (fX11_doesHold N a0_ M) (fun (x12 : Int32) (M11 : sg_M) =>
  if sg_bz x12 = true then some (x12, M11) else none)) else (
  sg_m x3_ (fun x13 : Int32 =>
  gX11_does3_13 N (a0_, x1_, x2_, x13) M))
set_option maxHeartbeats 4000000 in
set_option maxRecDepth 100000 in
theorem tX11_does3 {ad : Nat → Nat} {X : sg_X} {N : Nat} {r : Int32 × sg_M} (C : sg_C Yr ad X cX11_does RX11 6 8) (E : sg_eI Yr ad X cX11_does .boolean r) : ∀ (a0_ : Nat) (x1_ : Int32) (x2_ : Int32) (x3_ : Int32) (M : sg_M), sg_K Yr a0_ 11 → fX11_does3 N a0_ x1_ x2_ x3_ M = some r → sg_T Yr ad X 6 0 [(0, .ref (ad a0_)), (1, .int x1_), (2, .int x2_), (3, .int x3_)] [] M := by
  intro a0_ x1_ x2_ x3_ M hq0 h
  unfold fX11_does3 at h
  refine i_iload_n C dX11_does_0 1 rfl ?_
  refine i_iload_n C dX11_does_1 2 rfl ?_
  refine s_icmp_ne C 10 (by decide) dX11_does_2 h (fun _ h => ?_) (fun _ h => ?_)
  · refine i_aload_n C dX11_does_5 0 rfl ?_
    refine s_vcI C [] vmX11_doesHold lkX11_334 rfl rfl (by decide) hq0 (by decide) rfl rfl (Nat.le_of_ble_eq_true rfl) dX11_does_6 (ctX11_doesHold C.inj hq0) h (fun x12 M11 h => ?_)
    exact s_zret C E dX11_does_9 h
  · refine i_iload_n C dX11_does_10 3 rfl ?_
    refine z_gi h (fun x13 h => ?_)
    refine i_istore (lv9 := [(4, _), (0, _), (1, _), (2, _), (3, _)]) C dX11_does_11 (by decide) rfl ?_
    exact sg_T.to (tX11_does3_13 C E _ _ h hq0) [1, 2, 3, 0] rfl
theorem ctX11_does3 {ad : Nat → Nat} {V : sg_V} {N : Nat} (hi : sg_inj Yr ad) {a0_ : Nat} {x1_ : Int32} {x2_ : Int32} {x3_ : Int32} {M : sg_M} (hq0 : sg_K Yr a0_ 11) : ∀ res, fX11_does3 N a0_ x1_ x2_ x3_ M = some res → sg_cI Yr ad V yX11_does cX11_does 6 .boolean 8 [.ref (ad a0_), .int x1_, .int x2_, .int x3_] M res := fun res h => sg_bodyI (by decide) hi (Nat.le_of_ble_eq_true rfl) (fun X hX C E => by subst hX; exact tX11_does3 C E _ _ _ _  _ hq0 h)
def bX11_does4_13 (N : Nat)  (k13 : (Nat × Int32 × Int32 × Int32) → sg_M → Option (Int32 × sg_M)) (s : Nat × Int32 × Int32 × Int32) (M : sg_M) : Option (Int32 × sg_M) :=
  sg_b (fX11_straps N s.1 M) (fun (x2 : Int32) (M1 : sg_M) =>
  if x2 ≤ s.2.2.2 then (
  some ((0 : Int32), M1)) else (
  if sg_ib ((28 : Int32) + s.2.2.2) (Yr.2.2.1 (Yr.2.2.2 s.1 1)) = true then
  if (M1.1 (Yr.2.2.2 s.1 1) (((28 : Int32) + s.2.2.2)).toNatClampNeg) = (4 : Int32) then (
  sg_m (s.2.2.2 + (1 : Int32)) (fun x3 : Int32 =>
  k13 (s.1, s.2.1, s.2.2.1, x3) M1)) else (
  if sg_ib ((28 : Int32) + s.2.2.2) (Yr.2.2.1 (Yr.2.2.2 s.1 1)) = true then
  if sg_ib ((28 : Int32) + s.2.2.2) (Yr.2.2.1 (Yr.2.2.2 s.1 1)) = true then
  sg_m (sg_uI M1 (Yr.2.2.2 s.1 1) (((28 : Int32) + s.2.2.2)).toNatClampNeg ((M1.1 (Yr.2.2.2 s.1 1) (((28 : Int32) + s.2.2.2)).toNatClampNeg) + (1 : Int32))) (fun M4 : sg_M =>
  if sg_ib s.2.1 (Yr.2.2.1 (Yr.2.2.2 s.1 36)) = true then
  sg_m (sg_uI M4 (Yr.2.2.2 s.1 36) (s.2.1).toNatClampNeg s.2.2.2) (fun M5 : sg_M =>
  sg_b (fX11_does3 N s.1 (s.2.1 + (1 : Int32)) s.2.2.1 s.2.2.2 M5) (fun (x7 : Int32) (M6 : sg_M) =>
  sg_m x7 (fun x8 : Int32 =>
  if sg_ib ((28 : Int32) + s.2.2.2) (Yr.2.2.1 (Yr.2.2.2 s.1 1)) = true then
  if sg_ib ((28 : Int32) + s.2.2.2) (Yr.2.2.1 (Yr.2.2.2 s.1 1)) = true then
  sg_m (sg_uI M6 (Yr.2.2.2 s.1 1) (((28 : Int32) + s.2.2.2)).toNatClampNeg ((M6.1 (Yr.2.2.2 s.1 1) (((28 : Int32) + s.2.2.2)).toNatClampNeg) - (1 : Int32))) (fun M9 : sg_M =>
  if x8 = 0 then (
  sg_m (s.2.2.2 + (1 : Int32)) (fun x10 : Int32 =>
  k13 (s.1, s.2.1, s.2.2.1, x10) M9)) else (
  some ((1 : Int32), M9)))
  else none
  else none)))
  else none)
  else none
  else none)
  else none))
def gX11_does4_13 (N : Nat)  : (Nat × Int32 × Int32 × Int32) → sg_M → Option (Int32 × sg_M) := sg_lp (bX11_does4_13 N ) N
set_option maxHeartbeats 4000000 in
set_option maxRecDepth 100000 in
theorem tX11_does4_13 {ad : Nat → Nat} {X : sg_X} {N : Nat} {r : Int32 × sg_M} (C : sg_C Yr ad X cX11_does RX11 6 9) (E : sg_eI Yr ad X cX11_does .boolean r)  : ∀ (s : Nat × Int32 × Int32 × Int32) (M : sg_M), gX11_does4_13 N s M = some r → sg_K Yr s.1 11 → sg_T Yr ad X 6 13 [(0, .ref (ad (s.1))), (1, .int (s.2.1)), (2, .int (s.2.2.1)), (4, .int (s.2.2.2))] [] M := by
  have key : ∀ n : Nat, ∀ (s : Nat × Int32 × Int32 × Int32) (M : sg_M), sg_lp (bX11_does4_13 N) n s M = some r → sg_K Yr s.1 11 → sg_T Yr ad X 6 13 [(0, .ref (ad (s.1))), (1, .int (s.2.1)), (2, .int (s.2.2.1)), (4, .int (s.2.2.2))] [] M := by
    intro n
    induction n with
    | zero => intro s M h; cases h
    | succ n ih =>
      intro s M h hq0
      have h : bX11_does4_13 N (sg_lp (bX11_does4_13 N) n) s M = some r := h
      generalize sg_lp (bX11_does4_13 N) n = k13 at h ih
      have hk13 := ih
      unfold bX11_does4_13 at h
      refine i_iload C dX11_does_13 3 rfl ?_
      refine i_aload_n C dX11_does_15 0 rfl ?_
      refine s_vcI C [] vmX11_straps lkX11_116 rfl rfl (by decide) hq0 (by decide) rfl rfl (Nat.le_of_ble_eq_true rfl) dX11_does_16 (ctX11_straps C.inj hq0) h (fun x2 M1 h => ?_)
      refine s_icmp_ge C 100 (by decide) dX11_does_19 h (fun _ h => ?_) (fun _ h => ?_)
      · refine s_iconst C (0 : Int32) dX11_does_100 (by decide) ?_
        exact s_zret1 C E (by decide) dX11_does_101 h
      · refine i_aload_n C dX11_does_22 0 rfl ?_
        refine gf11_9 C hq0 dX11_does_23 ?_
        refine s_bipush C (28 : Int32) dX11_does_26 (by decide) ?_
        refine i_iload C dX11_does_28 3 rfl ?_
        refine s_iadd C dX11_does_30 ?_
        refine s_iald C (ky11_1 hq0) dX11_does_31 h (fun h => ?_)
        refine s_iconst C (4 : Int32) dX11_does_32 (by decide) ?_
        refine s_icmp_ne C 39 (by decide) dX11_does_33 h (fun _ h => ?_) (fun _ h => ?_)
        · refine s_goto C 94 (by decide) dX11_does_36 ?_
          refine z_iinc (n := 1) (c9 := (1 : Int32)) (by decide) h (fun x3 hx h => ?_)
          refine i_iinc (lv9 := [(4, _), (0, _), (1, _), (2, _)]) C dX11_does_94 3 rfl hx (by decide) rfl ?_
          refine s_goto C 13 (by decide) dX11_does_97 ?_
          exact sg_T.to (hk13 _ _ h hq0) [1, 2, 3, 0] rfl
        · refine i_aload_n C dX11_does_39 0 rfl ?_
          refine gf11_9 C hq0 dX11_does_40 ?_
          refine s_bipush C (28 : Int32) dX11_does_43 (by decide) ?_
          refine i_iload C dX11_does_45 3 rfl ?_
          refine s_iadd C dX11_does_47 ?_
          refine s_dup2 C dX11_does_48 rfl rfl ?_
          refine s_iald C (ky11_1 hq0) dX11_does_49 h (fun h => ?_)
          refine s_iconst C (1 : Int32) dX11_does_50 (by decide) ?_
          refine s_iadd C dX11_does_51 ?_
          refine s_iast C (ky11_1 hq0) dX11_does_52 h (fun h => ?_)
          refine z_gM h (fun M4 h => ?_)
          refine i_aload_n C dX11_does_53 0 rfl ?_
          refine gf11_69 C hq0 dX11_does_54 ?_
          refine i_iload_n C dX11_does_57 1 rfl ?_
          refine i_iload C dX11_does_58 3 rfl ?_
          refine s_iast C (ky11_36 hq0) dX11_does_60 h (fun h => ?_)
          refine z_gM h (fun M5 h => ?_)
          refine i_aload_n C dX11_does_61 0 rfl ?_
          refine i_iload_n C dX11_does_62 1 rfl ?_
          refine s_iconst C (1 : Int32) dX11_does_63 (by decide) ?_
          refine s_iadd C dX11_does_64 ?_
          refine i_iload_n C dX11_does_65 2 rfl ?_
          refine i_iload C dX11_does_66 3 rfl ?_
          refine s_vcI C [_, _, _] vmX11_does lkX11_415 rfl rfl (by decide) hq0 (by decide) rfl rfl (Nat.le_of_ble_eq_true rfl) dX11_does_68 (ctX11_does3 C.inj hq0) h (fun x7 M6 h => ?_)
          refine z_gi h (fun x8 h => ?_)
          refine i_istore (lv9 := [(5, _), (0, _), (1, _), (2, _), (4, _)]) C dX11_does_71 (by decide) rfl ?_
          refine i_aload_n C dX11_does_73 1 rfl ?_
          refine gf11_9 C hq0 dX11_does_74 ?_
          refine s_bipush C (28 : Int32) dX11_does_77 (by decide) ?_
          refine i_iload C dX11_does_79 4 rfl ?_
          refine s_iadd C dX11_does_81 ?_
          refine s_dup2 C dX11_does_82 rfl rfl ?_
          refine s_iald C (ky11_1 hq0) dX11_does_83 h (fun h => ?_)
          refine s_iconst C (1 : Int32) dX11_does_84 (by decide) ?_
          refine s_isub C dX11_does_85 ?_
          refine s_iast C (ky11_1 hq0) dX11_does_86 h (fun h => ?_)
          refine z_gM h (fun M9 h => ?_)
          refine i_iload C dX11_does_87 0 rfl ?_
          refine s_if_eq C 94 (by decide) dX11_does_89 h (fun _ h => ?_) (fun _ h => ?_)
          · refine z_iinc (n := 1) (c9 := (1 : Int32)) (by decide) h (fun x10 hx h => ?_)
            refine i_iinc (lv9 := [(4, _), (5, _), (0, _), (1, _), (2, _)]) C dX11_does_94 4 rfl hx (by decide) rfl ?_
            refine s_goto C 13 (by decide) dX11_does_97 ?_
            exact sg_T.to (hk13 _ _ h hq0) [2, 3, 4, 0] rfl
          · refine s_iconst C (1 : Int32) dX11_does_92 (by decide) ?_
            exact s_zret1 C E (by decide) dX11_does_93 h
  exact key N
def fX11_does4 (N : Nat) (a0_ : Nat) (x1_ : Int32) (x2_ : Int32) (x3_ : Int32) (M : sg_M) : Option (Int32 × sg_M) :=
  if x1_ = x2_ then (
  sg_b (fX11_doesHold N a0_ M) (fun (x12 : Int32) (M11 : sg_M) =>
  if sg_bz x12 = true then some (x12, M11) else none)) else (
  sg_m x3_ (fun x13 : Int32 =>
  gX11_does4_13 N (a0_, x1_, x2_, x13) M))
set_option maxHeartbeats 4000000 in
set_option maxRecDepth 100000 in
theorem tX11_does4 {ad : Nat → Nat} {X : sg_X} {N : Nat} {r : Int32 × sg_M} (C : sg_C Yr ad X cX11_does RX11 6 9) (E : sg_eI Yr ad X cX11_does .boolean r) : ∀ (a0_ : Nat) (x1_ : Int32) (x2_ : Int32) (x3_ : Int32) (M : sg_M), sg_K Yr a0_ 11 → fX11_does4 N a0_ x1_ x2_ x3_ M = some r → sg_T Yr ad X 6 0 [(0, .ref (ad a0_)), (1, .int x1_), (2, .int x2_), (3, .int x3_)] [] M := by
  intro a0_ x1_ x2_ x3_ M hq0 h
  unfold fX11_does4 at h
  refine i_iload_n C dX11_does_0 1 rfl ?_
  refine i_iload_n C dX11_does_1 2 rfl ?_
  refine s_icmp_ne C 10 (by decide) dX11_does_2 h (fun _ h => ?_) (fun _ h => ?_)
  · refine i_aload_n C dX11_does_5 0 rfl ?_
    refine s_vcI C [] vmX11_doesHold lkX11_334 rfl rfl (by decide) hq0 (by decide) rfl rfl (Nat.le_of_ble_eq_true rfl) dX11_does_6 (ctX11_doesHold C.inj hq0) h (fun x12 M11 h => ?_)
    exact s_zret C E dX11_does_9 h
  · refine i_iload_n C dX11_does_10 3 rfl ?_
    refine z_gi h (fun x13 h => ?_)
    refine i_istore (lv9 := [(4, _), (0, _), (1, _), (2, _), (3, _)]) C dX11_does_11 (by decide) rfl ?_
    exact sg_T.to (tX11_does4_13 C E _ _ h hq0) [1, 2, 3, 0] rfl
theorem ctX11_does4 {ad : Nat → Nat} {V : sg_V} {N : Nat} (hi : sg_inj Yr ad) {a0_ : Nat} {x1_ : Int32} {x2_ : Int32} {x3_ : Int32} {M : sg_M} (hq0 : sg_K Yr a0_ 11) : ∀ res, fX11_does4 N a0_ x1_ x2_ x3_ M = some res → sg_cI Yr ad V yX11_does cX11_does 6 .boolean 9 [.ref (ad a0_), .int x1_, .int x2_, .int x3_] M res := fun res h => sg_bodyI (by decide) hi (Nat.le_of_ble_eq_true rfl) (fun X hX C E => by subst hX; exact tX11_does4 C E _ _ _ _  _ hq0 h)
def bX11_fewestOf_2 (N : Nat)  (k2 : (Nat × Int32) → sg_M → Option (Int32 × sg_M)) (s : Nat × Int32) (M : sg_M) : Option (Int32 × sg_M) :=
  if (3 : Int32) < s.2 then (
  some ((-1 : Int32), M)) else (
  sg_b (fX11_does4 N s.1 (0 : Int32) s.2 (0 : Int32) M) (fun (x2 : Int32) (M1 : sg_M) =>
  if x2 = 0 then (
  sg_m (s.2 + (1 : Int32)) (fun x3 : Int32 =>
  k2 (s.1, x3) M1)) else (
  some (s.2, M1))))
def gX11_fewestOf_2 (N : Nat)  : (Nat × Int32) → sg_M → Option (Int32 × sg_M) := sg_lp (bX11_fewestOf_2 N ) N
set_option maxHeartbeats 4000000 in
set_option maxRecDepth 100000 in
theorem tX11_fewestOf_2 {ad : Nat → Nat} {X : sg_X} {N : Nat} {r : Int32 × sg_M} (C : sg_C Yr ad X cX11_fewestOf RX11 2 10) (E : sg_eI Yr ad X cX11_fewestOf .int r)  : ∀ (s : Nat × Int32) (M : sg_M), gX11_fewestOf_2 N s M = some r → sg_K Yr s.1 11 → sg_T Yr ad X 2 2 [(0, .ref (ad (s.1))), (1, .int (s.2))] [] M := by
  have key : ∀ n : Nat, ∀ (s : Nat × Int32) (M : sg_M), sg_lp (bX11_fewestOf_2 N) n s M = some r → sg_K Yr s.1 11 → sg_T Yr ad X 2 2 [(0, .ref (ad (s.1))), (1, .int (s.2))] [] M := by
    intro n
    induction n with
    | zero => intro s M h; cases h
    | succ n ih =>
      intro s M h hq0
      have h : bX11_fewestOf_2 N (sg_lp (bX11_fewestOf_2 N) n) s M = some r := h
      generalize sg_lp (bX11_fewestOf_2 N) n = k2 at h ih
      have hk2 := ih
      unfold bX11_fewestOf_2 at h
      refine i_iload_n C dX11_fewestOf_2 1 rfl ?_
      refine s_iconst C (3 : Int32) dX11_fewestOf_3 (by decide) ?_
      refine s_icmp_gt C 25 (by decide) dX11_fewestOf_4 h (fun _ h => ?_) (fun _ h => ?_)
      · refine s_iconst C (-1 : Int32) dX11_fewestOf_25 (by decide) ?_
        exact s_iret C E dX11_fewestOf_26 h
      · refine i_aload_n C dX11_fewestOf_7 0 rfl ?_
        refine s_iconst C (0 : Int32) dX11_fewestOf_8 (by decide) ?_
        refine i_iload_n C dX11_fewestOf_9 1 rfl ?_
        refine s_iconst C (0 : Int32) dX11_fewestOf_10 (by decide) ?_
        refine s_vcI C [_, _, _] vmX11_does lkX11_415 rfl rfl (by decide) hq0 (by decide) rfl rfl (Nat.le_of_ble_eq_true rfl) dX11_fewestOf_11 (ctX11_does4 C.inj hq0) h (fun x2 M1 h => ?_)
        refine s_if_eq C 19 (by decide) dX11_fewestOf_14 h (fun _ h => ?_) (fun _ h => ?_)
        · refine z_iinc (n := 1) (c9 := (1 : Int32)) (by decide) h (fun x3 hx h => ?_)
          refine i_iinc (lv9 := [(1, _), (0, _)]) C dX11_fewestOf_19 1 rfl hx (by decide) rfl ?_
          refine s_goto C 2 (by decide) dX11_fewestOf_22 ?_
          exact sg_T.to (hk2 _ _ h hq0) [1, 0] rfl
        · refine i_iload_n C dX11_fewestOf_17 1 rfl ?_
          exact s_iret C E dX11_fewestOf_18 h
  exact key N
def fX11_fewestOf (N : Nat) (a0_ : Nat) (M : sg_M) : Option (Int32 × sg_M) :=
  sg_m (0 : Int32) (fun x4 : Int32 =>
  gX11_fewestOf_2 N (a0_, x4) M)
set_option maxHeartbeats 4000000 in
set_option maxRecDepth 100000 in
theorem tX11_fewestOf {ad : Nat → Nat} {X : sg_X} {N : Nat} {r : Int32 × sg_M} (C : sg_C Yr ad X cX11_fewestOf RX11 2 10) (E : sg_eI Yr ad X cX11_fewestOf .int r) : ∀ (a0_ : Nat) (M : sg_M), sg_K Yr a0_ 11 → fX11_fewestOf N a0_ M = some r → sg_T Yr ad X 2 0 [(0, .ref (ad a0_))] [] M := by
  intro a0_ M hq0 h
  unfold fX11_fewestOf at h
  refine s_iconst C (0 : Int32) dX11_fewestOf_0 (by decide) ?_
  refine z_gi h (fun x4 h => ?_)
  refine i_istore_n (lv9 := [(1, _), (0, _)]) C 1 dX11_fewestOf_1 rfl (by decide) rfl ?_
  exact sg_T.to (tX11_fewestOf_2 C E _ _ h hq0) [1, 0] rfl
theorem ctX11_fewestOf {ad : Nat → Nat} {V : sg_V} {N : Nat} (hi : sg_inj Yr ad) {a0_ : Nat} {M : sg_M} (hq0 : sg_K Yr a0_ 11) : ∀ res, fX11_fewestOf N a0_ M = some res → sg_cI Yr ad V yX11_fewestOf cX11_fewestOf 2 .int 10 [.ref (ad a0_)] M res := fun res h => sg_bodyI (by decide) hi (Nat.le_of_ble_eq_true rfl) (fun X hX C E => by subst hX; exact tX11_fewestOf C E _  _ hq0 h)
def fX11_fewest (N : Nat) (a0_ : Nat) (M : sg_M) : Option (Int32 × sg_M) :=
  sg_b (fX11_isGrid N a0_ M) (fun (x2 : Int32) (M1 : sg_M) =>
  if x2 = 0 then (
  some ((-2 : Int32), M1)) else (
  sg_b (fX11_fewestOf N a0_ M1) (fun (x4 : Int32) (M3 : sg_M) =>
  some (x4, M3))))
set_option maxHeartbeats 4000000 in
set_option maxRecDepth 100000 in
theorem tX11_fewest {ad : Nat → Nat} {X : sg_X} {N : Nat} {r : Int32 × sg_M} (C : sg_C Yr ad X cX11_fewest RX11 1 11) (E : sg_eI Yr ad X cX11_fewest .int r) : ∀ (a0_ : Nat) (M : sg_M), sg_K Yr a0_ 11 → fX11_fewest N a0_ M = some r → sg_T Yr ad X 1 0 [(0, .ref (ad a0_))] [] M := by
  intro a0_ M hq0 h
  unfold fX11_fewest at h
  refine i_aload_n C dX11_fewest_0 0 rfl ?_
  refine s_vcI C [] vmX11_isGrid lkX11_109 rfl rfl (by decide) hq0 (by decide) rfl rfl (Nat.le_of_ble_eq_true rfl) dX11_fewest_1 (ctX11_isGrid C.inj hq0) h (fun x2 M1 h => ?_)
  refine s_if_eq C 14 (by decide) dX11_fewest_4 h (fun _ h => ?_) (fun _ h => ?_)
  · refine s_bipush C (-2 : Int32) dX11_fewest_14 (by decide) ?_
    exact s_iret C E dX11_fewest_16 h
  · refine i_aload_n C dX11_fewest_7 0 rfl ?_
    refine s_vcI C [] vmX11_fewestOf lkX11_418 rfl rfl (by decide) hq0 (by decide) rfl rfl (Nat.le_of_ble_eq_true rfl) dX11_fewest_8 (ctX11_fewestOf C.inj hq0) h (fun x4 M3 h => ?_)
    refine s_goto C 16 (by decide) dX11_fewest_11 ?_
    exact s_iret C E dX11_fewest_16 h
theorem ctX11_fewest {ad : Nat → Nat} {V : sg_V} {N : Nat} (hi : sg_inj Yr ad) {a0_ : Nat} {M : sg_M} (hq0 : sg_K Yr a0_ 11) : ∀ res, fX11_fewest N a0_ M = some res → sg_cI Yr ad V yX11_fewest cX11_fewest 1 .int 11 [.ref (ad a0_)] M res := fun res h => sg_bodyI (by decide) hi (Nat.le_of_ble_eq_true rfl) (fun X hX C E => by subst hX; exact tX11_fewest C E _  _ hq0 h)
def fX11_few (N : Nat) (a0_ : Nat) (x1_ : Int32) (M : sg_M) : Option (Int32 × sg_M) :=
  sg_b (fX11_isGrid N a0_ M) (fun (x2 : Int32) (M1 : sg_M) =>
  if x2 = 0 then (
  some ((-2 : Int32), M1)) else (
  if 0 ≤ x1_ then (
  sg_b (fX11_fewestOf N a0_ M1) (fun (x4 : Int32) (M3 : sg_M) =>
  sg_m x4 (fun x5 : Int32 =>
  if x5 ≤ x1_ then (
  some ((-1 : Int32), M3)) else (
  if sg_ib x1_ (Yr.2.2.1 (Yr.2.2.2 a0_ 36)) = true then
  some ((M3.1 (Yr.2.2.2 a0_ 36) (x1_).toNatClampNeg), M3)
  else none)))) else (
  some ((-2 : Int32), M1))))
set_option maxHeartbeats 4000000 in
set_option maxRecDepth 100000 in
theorem tX11_few {ad : Nat → Nat} {X : sg_X} {N : Nat} {r : Int32 × sg_M} (C : sg_C Yr ad X cX11_few RX11 3 11) (E : sg_eI Yr ad X cX11_few .int r) : ∀ (a0_ : Nat) (x1_ : Int32) (M : sg_M), sg_K Yr a0_ 11 → fX11_few N a0_ x1_ M = some r → sg_T Yr ad X 3 0 [(0, .ref (ad a0_)), (1, .int x1_)] [] M := by
  intro a0_ x1_ M hq0 h
  unfold fX11_few at h
  refine i_aload_n C dX11_few_0 0 rfl ?_
  refine s_vcI C [] vmX11_isGrid lkX11_109 rfl rfl (by decide) hq0 (by decide) rfl rfl (Nat.le_of_ble_eq_true rfl) dX11_few_1 (ctX11_isGrid C.inj hq0) h (fun x2 M1 h => ?_)
  refine s_if_eq C 11 (by decide) dX11_few_4 h (fun _ h => ?_) (fun _ h => ?_)
  · refine s_bipush C (-2 : Int32) dX11_few_11 (by decide) ?_
    exact s_iret C E dX11_few_13 h
  · refine i_iload_n C dX11_few_7 1 rfl ?_
    refine s_if_ge C 14 (by decide) dX11_few_8 h (fun _ h => ?_) (fun _ h => ?_)
    · refine i_aload_n C dX11_few_14 0 rfl ?_
      refine s_vcI C [] vmX11_fewestOf lkX11_418 rfl rfl (by decide) hq0 (by decide) rfl rfl (Nat.le_of_ble_eq_true rfl) dX11_few_15 (ctX11_fewestOf C.inj hq0) h (fun x4 M3 h => ?_)
      refine z_gi h (fun x5 h => ?_)
      refine i_istore_n (lv9 := [(2, _), (0, _), (1, _)]) C 2 dX11_few_18 rfl (by decide) rfl ?_
      refine i_iload_n C dX11_few_19 2 rfl ?_
      refine i_iload_n C dX11_few_20 0 rfl ?_
      refine s_icmp_ge C 33 (by decide) dX11_few_21 h (fun _ h => ?_) (fun _ h => ?_)
      · refine s_iconst C (-1 : Int32) dX11_few_33 (by decide) ?_
        exact s_iret C E dX11_few_34 h
      · refine i_aload_n C dX11_few_24 1 rfl ?_
        refine gf11_69 C hq0 dX11_few_25 ?_
        refine i_iload_n C dX11_few_28 2 rfl ?_
        refine s_iald C (ky11_36 hq0) dX11_few_29 h (fun h => ?_)
        refine s_goto C 34 (by decide) dX11_few_30 ?_
        exact s_iret C E dX11_few_34 h
    · refine s_bipush C (-2 : Int32) dX11_few_11 (by decide) ?_
      exact s_iret C E dX11_few_13 h
theorem ctX11_few {ad : Nat → Nat} {V : sg_V} {N : Nat} (hi : sg_inj Yr ad) {a0_ : Nat} {x1_ : Int32} {M : sg_M} (hq0 : sg_K Yr a0_ 11) : ∀ res, fX11_few N a0_ x1_ M = some res → sg_cI Yr ad V yX11_few cX11_few 3 .int 11 [.ref (ad a0_), .int x1_] M res := fun res h => sg_bodyI (by decide) hi (Nat.le_of_ble_eq_true rfl) (fun X hX C E => by subst hX; exact tX11_few C E _ _  _ hq0 h)
def gX11_nextSlim_64 (N : Nat) (k8 : (Nat × Int32 × Int32) → sg_M → Option (Int32 × sg_M)) (a0_ : Nat) (x1_ : Int32) (x2_ : Int32) (M : sg_M) : Option (Int32 × sg_M) :=
  if sg_ib ((28 : Int32) + x2_) (Yr.2.2.1 (Yr.2.2.2 a0_ 1)) = true then
  if sg_ib ((28 : Int32) + x2_) (Yr.2.2.1 (Yr.2.2.2 a0_ 1)) = true then
  sg_m (sg_uI M (Yr.2.2.2 a0_ 1) (((28 : Int32) + x2_)).toNatClampNeg ((M.1 (Yr.2.2.2 a0_ 1) (((28 : Int32) + x2_)).toNatClampNeg) + (1 : Int32))) (fun M1 : sg_M =>
  sg_m (x2_ + (1 : Int32)) (fun x2 : Int32 =>
  k8 (a0_, x1_, x2) M1))
  else none
  else none
set_option maxHeartbeats 4000000 in
set_option maxRecDepth 100000 in
theorem tX11_nextSlim_64 {ad : Nat → Nat} {X : sg_X} {N : Nat} {r : Int32 × sg_M} (C : sg_C Yr ad X cX11_nextSlim RX11 3 6) (E : sg_eI Yr ad X cX11_nextSlim .int r) {k8 : (Nat × Int32 × Int32) → sg_M → Option (Int32 × sg_M)} (hk8 : ∀ (s : Nat × Int32 × Int32) (M : sg_M), k8 s M = some r → sg_K Yr s.1 11 → sg_T Yr ad X 3 8 [(0, .ref (ad (s.1))), (1, .int (s.2.1)), (2, .int (s.2.2))] [] M) : ∀ (a0_ : Nat) (x1_ : Int32) (x2_ : Int32) (M : sg_M), gX11_nextSlim_64 N k8 a0_ x1_ x2_ M = some r → sg_K Yr a0_ 11 → sg_T Yr ad X 3 64 [(0, .ref (ad a0_)), (1, .int x1_), (2, .int x2_)] [] M := by
  intro a0_ x1_ x2_ M h hq0
  unfold gX11_nextSlim_64 at h
  refine i_aload_n C dX11_nextSlim_64 0 rfl ?_
  refine gf11_9 C hq0 dX11_nextSlim_65 ?_
  refine s_bipush C (28 : Int32) dX11_nextSlim_68 (by decide) ?_
  refine i_iload_n C dX11_nextSlim_70 2 rfl ?_
  refine s_iadd C dX11_nextSlim_71 ?_
  refine s_dup2 C dX11_nextSlim_72 rfl rfl ?_
  refine s_iald C (ky11_1 hq0) dX11_nextSlim_73 h (fun h => ?_)
  refine s_iconst C (1 : Int32) dX11_nextSlim_74 (by decide) ?_
  refine s_iadd C dX11_nextSlim_75 ?_
  refine s_iast C (ky11_1 hq0) dX11_nextSlim_76 h (fun h => ?_)
  refine z_gM h (fun M1 h => ?_)
  refine z_iinc (n := 1) (c9 := (1 : Int32)) (by decide) h (fun x2 hx h => ?_)
  refine i_iinc (lv9 := [(2, _), (0, _), (1, _)]) C dX11_nextSlim_77 2 rfl hx (by decide) rfl ?_
  refine s_goto C 8 (by decide) dX11_nextSlim_80 ?_
  exact sg_T.to (hk8 _ _ h hq0) [1, 2, 0] rfl
def bX11_nextSlim_8 (N : Nat)  (k8 : (Nat × Int32 × Int32) → sg_M → Option (Int32 × sg_M)) (s : Nat × Int32 × Int32) (M : sg_M) : Option (Int32 × sg_M) :=
  if (M.1 s.1 8) ≤ s.2.2 then (
  some (s.2.1, M)) else (
  if sg_ib ((28 : Int32) + s.2.2) (Yr.2.2.1 (Yr.2.2.2 s.1 1)) = true then
  if (M.1 (Yr.2.2.2 s.1 1) (((28 : Int32) + s.2.2)).toNatClampNeg) = 0 then (
  sg_m (s.2.2 + (1 : Int32)) (fun x3 : Int32 =>
  k8 (s.1, s.2.1, x3) M)) else (
  if sg_ib ((28 : Int32) + s.2.2) (Yr.2.2.1 (Yr.2.2.2 s.1 1)) = true then
  if sg_ib ((28 : Int32) + s.2.2) (Yr.2.2.1 (Yr.2.2.2 s.1 1)) = true then
  sg_m (sg_uI M (Yr.2.2.2 s.1 1) (((28 : Int32) + s.2.2)).toNatClampNeg ((M.1 (Yr.2.2.2 s.1 1) (((28 : Int32) + s.2.2)).toNatClampNeg) - (1 : Int32))) (fun M4 : sg_M =>
  sg_b (fX11_doesHold N s.1 M4) (fun (x6 : Int32) (M5 : sg_M) =>
  if x6 = 0 then (
  gX11_nextSlim_64 N k8 s.1 s.2.1 s.2.2 M5) else (
  sg_b (fX11_scores N s.1 M5) (fun (x8 : Int32) (M7 : sg_M) =>
  if 0 ≤ x8 then (
  gX11_nextSlim_64 N k8 s.1 s.2.1 s.2.2 M7) else (
  sg_m s.2.2 (fun x9 : Int32 =>
  sg_bv (fX11_keeps N s.1 M7) (fun M10 : sg_M =>
  gX11_nextSlim_64 N k8 s.1 x9 s.2.2 M10)))))))
  else none
  else none)
  else none)
def gX11_nextSlim_8 (N : Nat)  : (Nat × Int32 × Int32) → sg_M → Option (Int32 × sg_M) := sg_lp (bX11_nextSlim_8 N ) N
set_option maxHeartbeats 4000000 in
set_option maxRecDepth 100000 in
theorem tX11_nextSlim_8 {ad : Nat → Nat} {X : sg_X} {N : Nat} {r : Int32 × sg_M} (C : sg_C Yr ad X cX11_nextSlim RX11 3 6) (E : sg_eI Yr ad X cX11_nextSlim .int r)  : ∀ (s : Nat × Int32 × Int32) (M : sg_M), gX11_nextSlim_8 N s M = some r → sg_K Yr s.1 11 → sg_T Yr ad X 3 8 [(0, .ref (ad (s.1))), (1, .int (s.2.1)), (2, .int (s.2.2))] [] M := by
  have key : ∀ n : Nat, ∀ (s : Nat × Int32 × Int32) (M : sg_M), sg_lp (bX11_nextSlim_8 N) n s M = some r → sg_K Yr s.1 11 → sg_T Yr ad X 3 8 [(0, .ref (ad (s.1))), (1, .int (s.2.1)), (2, .int (s.2.2))] [] M := by
    intro n
    induction n with
    | zero => intro s M h; cases h
    | succ n ih =>
      intro s M h hq0
      have h : bX11_nextSlim_8 N (sg_lp (bX11_nextSlim_8 N) n) s M = some r := h
      generalize sg_lp (bX11_nextSlim_8 N) n = k8 at h ih
      have hk8 := ih
      unfold bX11_nextSlim_8 at h
      refine i_iload_n C dX11_nextSlim_8 2 rfl ?_
      refine i_aload_n C dX11_nextSlim_9 0 rfl ?_
      refine gf11_102 C hq0 dX11_nextSlim_10 ?_
      refine s_icmp_ge C 83 (by decide) dX11_nextSlim_13 h (fun _ h => ?_) (fun _ h => ?_)
      · refine i_iload_n C dX11_nextSlim_83 1 rfl ?_
        exact s_iret C E dX11_nextSlim_84 h
      · refine i_aload_n C dX11_nextSlim_16 0 rfl ?_
        refine gf11_9 C hq0 dX11_nextSlim_17 ?_
        refine s_bipush C (28 : Int32) dX11_nextSlim_20 (by decide) ?_
        refine i_iload_n C dX11_nextSlim_22 2 rfl ?_
        refine s_iadd C dX11_nextSlim_23 ?_
        refine s_iald C (ky11_1 hq0) dX11_nextSlim_24 h (fun h => ?_)
        refine s_if_ne C 31 (by decide) dX11_nextSlim_25 h (fun _ h => ?_) (fun _ h => ?_)
        · refine s_goto C 77 (by decide) dX11_nextSlim_28 ?_
          refine z_iinc (n := 1) (c9 := (1 : Int32)) (by decide) h (fun x3 hx h => ?_)
          refine i_iinc (lv9 := [(2, _), (0, _), (1, _)]) C dX11_nextSlim_77 2 rfl hx (by decide) rfl ?_
          refine s_goto C 8 (by decide) dX11_nextSlim_80 ?_
          exact sg_T.to (hk8 _ _ h hq0) [1, 2, 0] rfl
        · refine i_aload_n C dX11_nextSlim_31 0 rfl ?_
          refine gf11_9 C hq0 dX11_nextSlim_32 ?_
          refine s_bipush C (28 : Int32) dX11_nextSlim_35 (by decide) ?_
          refine i_iload_n C dX11_nextSlim_37 2 rfl ?_
          refine s_iadd C dX11_nextSlim_38 ?_
          refine s_dup2 C dX11_nextSlim_39 rfl rfl ?_
          refine s_iald C (ky11_1 hq0) dX11_nextSlim_40 h (fun h => ?_)
          refine s_iconst C (1 : Int32) dX11_nextSlim_41 (by decide) ?_
          refine s_isub C dX11_nextSlim_42 ?_
          refine s_iast C (ky11_1 hq0) dX11_nextSlim_43 h (fun h => ?_)
          refine z_gM h (fun M4 h => ?_)
          refine i_aload_n C dX11_nextSlim_44 0 rfl ?_
          refine s_vcI C [] vmX11_doesHold lkX11_334 rfl rfl (by decide) hq0 (by decide) rfl rfl (Nat.le_of_ble_eq_true rfl) dX11_nextSlim_45 (ctX11_doesHold C.inj hq0) h (fun x6 M5 h => ?_)
          refine s_if_eq C 64 (by decide) dX11_nextSlim_48 h (fun _ h => ?_) (fun _ h => ?_)
          · exact sg_T.to (tX11_nextSlim_64 C E hk8 _ _ _ _ h hq0) [0, 1, 2] rfl
          · refine i_aload_n C dX11_nextSlim_51 0 rfl ?_
            refine s_vcI C [] vmX11_scores lkX11_388 rfl rfl (by decide) hq0 (by decide) rfl rfl (Nat.le_of_ble_eq_true rfl) dX11_nextSlim_52 (ctX11_scores C.inj hq0) h (fun x8 M7 h => ?_)
            refine s_if_ge C 64 (by decide) dX11_nextSlim_55 h (fun _ h => ?_) (fun _ h => ?_)
            · exact sg_T.to (tX11_nextSlim_64 C E hk8 _ _ _ _ h hq0) [0, 1, 2] rfl
            · refine i_iload_n C dX11_nextSlim_58 2 rfl ?_
              refine z_gi h (fun x9 h => ?_)
              refine i_istore_n (lv9 := [(1, _), (0, _), (2, _)]) C 1 dX11_nextSlim_59 rfl (by decide) rfl ?_
              refine i_aload_n C dX11_nextSlim_60 1 rfl ?_
              refine s_vcV C [] vmX11_keeps lkX11_382 rfl rfl (by decide) hq0 (by decide) rfl rfl (Nat.le_of_ble_eq_true rfl) dX11_nextSlim_61 (ctX11_keeps C.inj hq0) h (fun M10 h => ?_)
              exact sg_T.to (tX11_nextSlim_64 C E hk8 _ _ _ _ h hq0) [1, 0, 2] rfl
  exact key N
def fX11_nextSlim (N : Nat) (a0_ : Nat) (M : sg_M) : Option (Int32 × sg_M) :=
  sg_bv (fX11_beginsWithout N a0_ M) (fun M11 : sg_M =>
  sg_m (-1 : Int32) (fun x12 : Int32 =>
  sg_m (0 : Int32) (fun x13 : Int32 =>
  gX11_nextSlim_8 N (a0_, x12, x13) M11)))
set_option maxHeartbeats 4000000 in
set_option maxRecDepth 100000 in
theorem tX11_nextSlim {ad : Nat → Nat} {X : sg_X} {N : Nat} {r : Int32 × sg_M} (C : sg_C Yr ad X cX11_nextSlim RX11 3 6) (E : sg_eI Yr ad X cX11_nextSlim .int r) : ∀ (a0_ : Nat) (M : sg_M), sg_K Yr a0_ 11 → fX11_nextSlim N a0_ M = some r → sg_T Yr ad X 3 0 [(0, .ref (ad a0_))] [] M := by
  intro a0_ M hq0 h
  unfold fX11_nextSlim at h
  refine i_aload_n C dX11_nextSlim_0 0 rfl ?_
  refine s_vcV C [] vmX11_beginsWithout lkX11_385 rfl rfl (by decide) hq0 (by decide) rfl rfl (Nat.le_of_ble_eq_true rfl) dX11_nextSlim_1 (ctX11_beginsWithout C.inj hq0) h (fun M11 h => ?_)
  refine s_iconst C (-1 : Int32) dX11_nextSlim_4 (by decide) ?_
  refine z_gi h (fun x12 h => ?_)
  refine i_istore_n (lv9 := [(1, _), (0, _)]) C 1 dX11_nextSlim_5 rfl (by decide) rfl ?_
  refine s_iconst C (0 : Int32) dX11_nextSlim_6 (by decide) ?_
  refine z_gi h (fun x13 h => ?_)
  refine i_istore_n (lv9 := [(2, _), (1, _), (0, _)]) C 2 dX11_nextSlim_7 rfl (by decide) rfl ?_
  exact sg_T.to (tX11_nextSlim_8 C E _ _ h hq0) [2, 1, 0] rfl
theorem ctX11_nextSlim {ad : Nat → Nat} {V : sg_V} {N : Nat} (hi : sg_inj Yr ad) {a0_ : Nat} {M : sg_M} (hq0 : sg_K Yr a0_ 11) : ∀ res, fX11_nextSlim N a0_ M = some res → sg_cI Yr ad V yX11_nextSlim cX11_nextSlim 3 .int 6 [.ref (ad a0_)] M res := fun res h => sg_bodyI (by decide) hi (Nat.le_of_ble_eq_true rfl) (fun X hX C E => by subst hX; exact tX11_nextSlim C E _  _ hq0 h)
def bX11_slimsAll_7 (N : Nat)  (k7 : (Nat × Int32 × Int32) → sg_M → Option (Int32 × sg_M)) (s : Nat × Int32 × Int32) (M : sg_M) : Option (Int32 × sg_M) :=
  if s.2.2 = (-1 : Int32) then (
  some (s.2.1, M)) else (
  if sg_ib ((28 : Int32) + s.2.2) (Yr.2.2.1 (Yr.2.2.2 s.1 1)) = true then
  if sg_ib ((28 : Int32) + s.2.2) (Yr.2.2.1 (Yr.2.2.2 s.1 1)) = true then
  sg_m (sg_uI M (Yr.2.2.2 s.1 1) (((28 : Int32) + s.2.2)).toNatClampNeg ((M.1 (Yr.2.2.2 s.1 1) (((28 : Int32) + s.2.2)).toNatClampNeg) - (1 : Int32))) (fun M1 : sg_M =>
  sg_m (s.2.1 + (1 : Int32)) (fun x2 : Int32 =>
  sg_b (fX11_nextSlim N s.1 M1) (fun (x4 : Int32) (M3 : sg_M) =>
  sg_m x4 (fun x5 : Int32 =>
  k7 (s.1, x2, x5) M3))))
  else none
  else none)
def gX11_slimsAll_7 (N : Nat)  : (Nat × Int32 × Int32) → sg_M → Option (Int32 × sg_M) := sg_lp (bX11_slimsAll_7 N ) N
set_option maxHeartbeats 4000000 in
set_option maxRecDepth 100000 in
theorem tX11_slimsAll_7 {ad : Nat → Nat} {X : sg_X} {N : Nat} {r : Int32 × sg_M} (C : sg_C Yr ad X cX11_slimsAll RX11 3 7) (E : sg_eI Yr ad X cX11_slimsAll .int r)  : ∀ (s : Nat × Int32 × Int32) (M : sg_M), gX11_slimsAll_7 N s M = some r → sg_K Yr s.1 11 → sg_T Yr ad X 3 7 [(0, .ref (ad (s.1))), (1, .int (s.2.1)), (2, .int (s.2.2))] [] M := by
  have key : ∀ n : Nat, ∀ (s : Nat × Int32 × Int32) (M : sg_M), sg_lp (bX11_slimsAll_7 N) n s M = some r → sg_K Yr s.1 11 → sg_T Yr ad X 3 7 [(0, .ref (ad (s.1))), (1, .int (s.2.1)), (2, .int (s.2.2))] [] M := by
    intro n
    induction n with
    | zero => intro s M h; cases h
    | succ n ih =>
      intro s M h hq0
      have h : bX11_slimsAll_7 N (sg_lp (bX11_slimsAll_7 N) n) s M = some r := h
      generalize sg_lp (bX11_slimsAll_7 N) n = k7 at h ih
      have hk7 := ih
      unfold bX11_slimsAll_7 at h
      refine i_iload_n C dX11_slimsAll_7 2 rfl ?_
      refine s_iconst C (-1 : Int32) dX11_slimsAll_8 (by decide) ?_
      refine s_icmp_eq C 36 (by decide) dX11_slimsAll_9 h (fun _ h => ?_) (fun _ h => ?_)
      · refine i_iload_n C dX11_slimsAll_36 1 rfl ?_
        exact s_iret C E dX11_slimsAll_37 h
      · refine i_aload_n C dX11_slimsAll_12 0 rfl ?_
        refine gf11_9 C hq0 dX11_slimsAll_13 ?_
        refine s_bipush C (28 : Int32) dX11_slimsAll_16 (by decide) ?_
        refine i_iload_n C dX11_slimsAll_18 2 rfl ?_
        refine s_iadd C dX11_slimsAll_19 ?_
        refine s_dup2 C dX11_slimsAll_20 rfl rfl ?_
        refine s_iald C (ky11_1 hq0) dX11_slimsAll_21 h (fun h => ?_)
        refine s_iconst C (1 : Int32) dX11_slimsAll_22 (by decide) ?_
        refine s_isub C dX11_slimsAll_23 ?_
        refine s_iast C (ky11_1 hq0) dX11_slimsAll_24 h (fun h => ?_)
        refine z_gM h (fun M1 h => ?_)
        refine z_iinc (n := 1) (c9 := (1 : Int32)) (by decide) h (fun x2 hx h => ?_)
        refine i_iinc (lv9 := [(1, _), (0, _), (2, _)]) C dX11_slimsAll_25 1 rfl hx (by decide) rfl ?_
        refine i_aload_n C dX11_slimsAll_28 1 rfl ?_
        refine s_vcI C [] vmX11_nextSlim lkX11_421 rfl rfl (by decide) hq0 (by decide) rfl rfl (Nat.le_of_ble_eq_true rfl) dX11_slimsAll_29 (ctX11_nextSlim C.inj hq0) h (fun x4 M3 h => ?_)
        refine z_gi h (fun x5 h => ?_)
        refine i_istore_n (lv9 := [(2, _), (1, _), (0, _)]) C 2 dX11_slimsAll_32 rfl (by decide) rfl ?_
        refine s_goto C 7 (by decide) dX11_slimsAll_33 ?_
        exact sg_T.to (hk7 _ _ h hq0) [2, 1, 0] rfl
  exact key N
def fX11_slimsAll (N : Nat) (a0_ : Nat) (M : sg_M) : Option (Int32 × sg_M) :=
  sg_m (0 : Int32) (fun x6 : Int32 =>
  sg_b (fX11_nextSlim N a0_ M) (fun (x8 : Int32) (M7 : sg_M) =>
  sg_m x8 (fun x9 : Int32 =>
  gX11_slimsAll_7 N (a0_, x6, x9) M7)))
set_option maxHeartbeats 4000000 in
set_option maxRecDepth 100000 in
theorem tX11_slimsAll {ad : Nat → Nat} {X : sg_X} {N : Nat} {r : Int32 × sg_M} (C : sg_C Yr ad X cX11_slimsAll RX11 3 7) (E : sg_eI Yr ad X cX11_slimsAll .int r) : ∀ (a0_ : Nat) (M : sg_M), sg_K Yr a0_ 11 → fX11_slimsAll N a0_ M = some r → sg_T Yr ad X 3 0 [(0, .ref (ad a0_))] [] M := by
  intro a0_ M hq0 h
  unfold fX11_slimsAll at h
  refine s_iconst C (0 : Int32) dX11_slimsAll_0 (by decide) ?_
  refine z_gi h (fun x6 h => ?_)
  refine i_istore_n (lv9 := [(1, _), (0, _)]) C 1 dX11_slimsAll_1 rfl (by decide) rfl ?_
  refine i_aload_n C dX11_slimsAll_2 1 rfl ?_
  refine s_vcI C [] vmX11_nextSlim lkX11_421 rfl rfl (by decide) hq0 (by decide) rfl rfl (Nat.le_of_ble_eq_true rfl) dX11_slimsAll_3 (ctX11_nextSlim C.inj hq0) h (fun x8 M7 h => ?_)
  refine z_gi h (fun x9 h => ?_)
  refine i_istore_n (lv9 := [(2, _), (1, _), (0, _)]) C 2 dX11_slimsAll_6 rfl (by decide) rfl ?_
  exact sg_T.to (tX11_slimsAll_7 C E _ _ h hq0) [2, 1, 0] rfl
theorem ctX11_slimsAll {ad : Nat → Nat} {V : sg_V} {N : Nat} (hi : sg_inj Yr ad) {a0_ : Nat} {M : sg_M} (hq0 : sg_K Yr a0_ 11) : ∀ res, fX11_slimsAll N a0_ M = some res → sg_cI Yr ad V yX11_slimsAll cX11_slimsAll 3 .int 7 [.ref (ad a0_)] M res := fun res h => sg_bodyI (by decide) hi (Nat.le_of_ble_eq_true rfl) (fun X hX C E => by subst hX; exact tX11_slimsAll C E _  _ hq0 h)
def fX11_slims (N : Nat) (a0_ : Nat) (M : sg_M) : Option (Int32 × sg_M) :=
  sg_b (fX11_isGrid N a0_ M) (fun (x2 : Int32) (M1 : sg_M) =>
  if x2 = 0 then (
  some ((-2 : Int32), M1)) else (
  sg_b (fX11_doesHold N a0_ M1) (fun (x4 : Int32) (M3 : sg_M) =>
  if x4 = 0 then (
  some ((-1 : Int32), M3)) else (
  sg_bv (fX11_puts N a0_ M3) (fun M5 : sg_M =>
  sg_b (fX11_slimsAll N a0_ M5) (fun (x7 : Int32) (M6 : sg_M) =>
  sg_m x7 (fun x8 : Int32 =>
  sg_bv (fX11_takesOut N a0_ M6) (fun M9 : sg_M =>
  some (x8, M9)))))))))
set_option maxHeartbeats 4000000 in
set_option maxRecDepth 100000 in
theorem tX11_slims {ad : Nat → Nat} {X : sg_X} {N : Nat} {r : Int32 × sg_M} (C : sg_C Yr ad X cX11_slims RX11 2 8) (E : sg_eI Yr ad X cX11_slims .int r) : ∀ (a0_ : Nat) (M : sg_M), sg_K Yr a0_ 11 → fX11_slims N a0_ M = some r → sg_T Yr ad X 2 0 [(0, .ref (ad a0_))] [] M := by
  intro a0_ M hq0 h
  unfold fX11_slims at h
  refine i_aload_n C dX11_slims_0 0 rfl ?_
  refine s_vcI C [] vmX11_isGrid lkX11_109 rfl rfl (by decide) hq0 (by decide) rfl rfl (Nat.le_of_ble_eq_true rfl) dX11_slims_1 (ctX11_isGrid C.inj hq0) h (fun x2 M1 h => ?_)
  refine s_if_ne C 10 (by decide) dX11_slims_4 h (fun _ h => ?_) (fun _ h => ?_)
  · refine s_bipush C (-2 : Int32) dX11_slims_7 (by decide) ?_
    exact s_iret C E dX11_slims_9 h
  · refine i_aload_n C dX11_slims_10 0 rfl ?_
    refine s_vcI C [] vmX11_doesHold lkX11_334 rfl rfl (by decide) hq0 (by decide) rfl rfl (Nat.le_of_ble_eq_true rfl) dX11_slims_11 (ctX11_doesHold C.inj hq0) h (fun x4 M3 h => ?_)
    refine s_if_ne C 19 (by decide) dX11_slims_14 h (fun _ h => ?_) (fun _ h => ?_)
    · refine s_iconst C (-1 : Int32) dX11_slims_17 (by decide) ?_
      exact s_iret C E dX11_slims_18 h
    · refine i_aload_n C dX11_slims_19 0 rfl ?_
      refine s_vcV C [] vmX11_puts lkX11_360 rfl rfl (by decide) hq0 (by decide) rfl rfl (Nat.le_of_ble_eq_true rfl) dX11_slims_20 (ctX11_puts C.inj hq0) h (fun M5 h => ?_)
      refine i_aload_n C dX11_slims_23 0 rfl ?_
      refine s_vcI C [] vmX11_slimsAll lkX11_424 rfl rfl (by decide) hq0 (by decide) rfl rfl (Nat.le_of_ble_eq_true rfl) dX11_slims_24 (ctX11_slimsAll C.inj hq0) h (fun x7 M6 h => ?_)
      refine z_gi h (fun x8 h => ?_)
      refine i_istore_n (lv9 := [(1, _), (0, _)]) C 1 dX11_slims_27 rfl (by decide) rfl ?_
      refine i_aload_n C dX11_slims_28 1 rfl ?_
      refine s_vcV C [] vmX11_takesOut lkX11_366 rfl rfl (by decide) hq0 (by decide) rfl rfl (Nat.le_of_ble_eq_true rfl) dX11_slims_29 (ctX11_takesOut C.inj hq0) h (fun M9 h => ?_)
      refine i_iload_n C dX11_slims_32 0 rfl ?_
      exact s_iret C E dX11_slims_33 h
theorem ctX11_slims {ad : Nat → Nat} {V : sg_V} {N : Nat} (hi : sg_inj Yr ad) {a0_ : Nat} {M : sg_M} (hq0 : sg_K Yr a0_ 11) : ∀ res, fX11_slims N a0_ M = some res → sg_cI Yr ad V yX11_slims cX11_slims 2 .int 8 [.ref (ad a0_)] M res := fun res h => sg_bodyI (by decide) hi (Nat.le_of_ble_eq_true rfl) (fun X hX C E => by subst hX; exact tX11_slims C E _  _ hq0 h)
def fX11_slim (N : Nat) (a0_ : Nat) (x1_ : Int32) (M : sg_M) : Option (Int32 × sg_M) :=
  sg_b (fX11_isStrap N a0_ x1_ M) (fun (x2 : Int32) (M1 : sg_M) =>
  if x2 = 0 then (
  some ((-2 : Int32), M1)) else (
  sg_b (fX11_doesHold N a0_ M1) (fun (x4 : Int32) (M3 : sg_M) =>
  if x4 = 0 then (
  some ((-1 : Int32), M3)) else (
  sg_bv (fX11_puts N a0_ M3) (fun M5 : sg_M =>
  sg_b (fX11_slimsAll N a0_ M5) (fun (x7 : Int32) (M6 : sg_M) =>
  if sg_ib ((28 : Int32) + x1_) (Yr.2.2.1 (Yr.2.2.2 a0_ 1)) = true then
  sg_m (M6.1 (Yr.2.2.2 a0_ 1) (((28 : Int32) + x1_)).toNatClampNeg) (fun x8 : Int32 =>
  sg_bv (fX11_takesOut N a0_ M6) (fun M9 : sg_M =>
  some (x8, M9)))
  else none))))))
set_option maxHeartbeats 4000000 in
set_option maxRecDepth 100000 in
theorem tX11_slim {ad : Nat → Nat} {X : sg_X} {N : Nat} {r : Int32 × sg_M} (C : sg_C Yr ad X cX11_slim RX11 3 8) (E : sg_eI Yr ad X cX11_slim .int r) : ∀ (a0_ : Nat) (x1_ : Int32) (M : sg_M), sg_K Yr a0_ 11 → fX11_slim N a0_ x1_ M = some r → sg_T Yr ad X 3 0 [(0, .ref (ad a0_)), (1, .int x1_)] [] M := by
  intro a0_ x1_ M hq0 h
  unfold fX11_slim at h
  refine i_aload_n C dX11_slim_0 0 rfl ?_
  refine i_iload_n C dX11_slim_1 1 rfl ?_
  refine s_vcI C [_] vmX11_isStrap lkX11_305 rfl rfl (by decide) hq0 (by decide) rfl rfl (Nat.le_of_ble_eq_true rfl) dX11_slim_2 (ctX11_isStrap C.inj hq0) h (fun x2 M1 h => ?_)
  refine s_if_ne C 11 (by decide) dX11_slim_5 h (fun _ h => ?_) (fun _ h => ?_)
  · refine s_bipush C (-2 : Int32) dX11_slim_8 (by decide) ?_
    exact s_iret C E dX11_slim_10 h
  · refine i_aload_n C dX11_slim_11 0 rfl ?_
    refine s_vcI C [] vmX11_doesHold lkX11_334 rfl rfl (by decide) hq0 (by decide) rfl rfl (Nat.le_of_ble_eq_true rfl) dX11_slim_12 (ctX11_doesHold C.inj hq0) h (fun x4 M3 h => ?_)
    refine s_if_ne C 20 (by decide) dX11_slim_15 h (fun _ h => ?_) (fun _ h => ?_)
    · refine s_iconst C (-1 : Int32) dX11_slim_18 (by decide) ?_
      exact s_iret C E dX11_slim_19 h
    · refine i_aload_n C dX11_slim_20 0 rfl ?_
      refine s_vcV C [] vmX11_puts lkX11_360 rfl rfl (by decide) hq0 (by decide) rfl rfl (Nat.le_of_ble_eq_true rfl) dX11_slim_21 (ctX11_puts C.inj hq0) h (fun M5 h => ?_)
      refine i_aload_n C dX11_slim_24 0 rfl ?_
      refine s_vcI C [] vmX11_slimsAll lkX11_424 rfl rfl (by decide) hq0 (by decide) rfl rfl (Nat.le_of_ble_eq_true rfl) dX11_slim_25 (ctX11_slimsAll C.inj hq0) h (fun x7 M6 h => ?_)
      refine s_pop C dX11_slim_28 rfl ?_
      refine i_aload_n C dX11_slim_29 0 rfl ?_
      refine gf11_9 C hq0 dX11_slim_30 ?_
      refine s_bipush C (28 : Int32) dX11_slim_33 (by decide) ?_
      refine i_iload_n C dX11_slim_35 1 rfl ?_
      refine s_iadd C dX11_slim_36 ?_
      refine s_iald C (ky11_1 hq0) dX11_slim_37 h (fun h => ?_)
      refine z_gi h (fun x8 h => ?_)
      refine i_istore_n (lv9 := [(2, _), (0, _), (1, _)]) C 2 dX11_slim_38 rfl (by decide) rfl ?_
      refine i_aload_n C dX11_slim_39 1 rfl ?_
      refine s_vcV C [] vmX11_takesOut lkX11_366 rfl rfl (by decide) hq0 (by decide) rfl rfl (Nat.le_of_ble_eq_true rfl) dX11_slim_40 (ctX11_takesOut C.inj hq0) h (fun M9 h => ?_)
      refine i_iload_n C dX11_slim_43 0 rfl ?_
      exact s_iret C E dX11_slim_44 h
theorem ctX11_slim {ad : Nat → Nat} {V : sg_V} {N : Nat} (hi : sg_inj Yr ad) {a0_ : Nat} {x1_ : Int32} {M : sg_M} (hq0 : sg_K Yr a0_ 11) : ∀ res, fX11_slim N a0_ x1_ M = some res → sg_cI Yr ad V yX11_slim cX11_slim 3 .int 8 [.ref (ad a0_), .int x1_] M res := fun res h => sg_bodyI (by decide) hi (Nat.le_of_ble_eq_true rfl) (fun X hX C E => by subst hX; exact tX11_slim C E _ _  _ hq0 h)
def fX11_holdsWithout (N : Nat) (a0_ : Nat) (x1_ : Int32) (x2_ : Int32) (M : sg_M) : Option (Int32 × sg_M) :=
  if sg_ib ((28 : Int32) + x1_) (Yr.2.2.1 (Yr.2.2.2 a0_ 1)) = true then
  sg_m (M.1 (Yr.2.2.2 a0_ 1) (((28 : Int32) + x1_)).toNatClampNeg) (fun x1 : Int32 =>
  if sg_ib ((28 : Int32) + x2_) (Yr.2.2.1 (Yr.2.2.2 a0_ 1)) = true then
  sg_m (M.1 (Yr.2.2.2 a0_ 1) (((28 : Int32) + x2_)).toNatClampNeg) (fun x2 : Int32 =>
  if sg_ib ((28 : Int32) + x1_) (Yr.2.2.1 (Yr.2.2.2 a0_ 1)) = true then
  sg_m (sg_uI M (Yr.2.2.2 a0_ 1) (((28 : Int32) + x1_)).toNatClampNeg (0 : Int32)) (fun M3 : sg_M =>
  if sg_ib ((28 : Int32) + x2_) (Yr.2.2.1 (Yr.2.2.2 a0_ 1)) = true then
  sg_m (sg_uI M3 (Yr.2.2.2 a0_ 1) (((28 : Int32) + x2_)).toNatClampNeg (0 : Int32)) (fun M4 : sg_M =>
  sg_b (fX11_doesHold N a0_ M4) (fun (x6 : Int32) (M5 : sg_M) =>
  sg_m x6 (fun x7 : Int32 =>
  if sg_ib ((28 : Int32) + x2_) (Yr.2.2.1 (Yr.2.2.2 a0_ 1)) = true then
  sg_m (sg_uI M5 (Yr.2.2.2 a0_ 1) (((28 : Int32) + x2_)).toNatClampNeg x2) (fun M8 : sg_M =>
  if sg_ib ((28 : Int32) + x1_) (Yr.2.2.1 (Yr.2.2.2 a0_ 1)) = true then
  sg_m (sg_uI M8 (Yr.2.2.2 a0_ 1) (((28 : Int32) + x1_)).toNatClampNeg x1) (fun M9 : sg_M =>
  if sg_bz x7 = true then some (x7, M9) else none)
  else none)
  else none)))
  else none)
  else none)
  else none)
  else none
set_option maxHeartbeats 4000000 in
set_option maxRecDepth 100000 in
theorem tX11_holdsWithout {ad : Nat → Nat} {X : sg_X} {N : Nat} {r : Int32 × sg_M} (C : sg_C Yr ad X cX11_holdsWithout RX11 6 6) (E : sg_eI Yr ad X cX11_holdsWithout .boolean r) : ∀ (a0_ : Nat) (x1_ : Int32) (x2_ : Int32) (M : sg_M), sg_K Yr a0_ 11 → fX11_holdsWithout N a0_ x1_ x2_ M = some r → sg_T Yr ad X 6 0 [(0, .ref (ad a0_)), (1, .int x1_), (2, .int x2_)] [] M := by
  intro a0_ x1_ x2_ M hq0 h
  unfold fX11_holdsWithout at h
  refine i_aload_n C dX11_holdsWithout_0 0 rfl ?_
  refine gf11_9 C hq0 dX11_holdsWithout_1 ?_
  refine s_bipush C (28 : Int32) dX11_holdsWithout_4 (by decide) ?_
  refine i_iload_n C dX11_holdsWithout_6 1 rfl ?_
  refine s_iadd C dX11_holdsWithout_7 ?_
  refine s_iald C (ky11_1 hq0) dX11_holdsWithout_8 h (fun h => ?_)
  refine z_gi h (fun x1 h => ?_)
  refine i_istore_n (lv9 := [(3, _), (0, _), (1, _), (2, _)]) C 3 dX11_holdsWithout_9 rfl (by decide) rfl ?_
  refine i_aload_n C dX11_holdsWithout_10 1 rfl ?_
  refine gf11_9 C hq0 dX11_holdsWithout_11 ?_
  refine s_bipush C (28 : Int32) dX11_holdsWithout_14 (by decide) ?_
  refine i_iload_n C dX11_holdsWithout_16 3 rfl ?_
  refine s_iadd C dX11_holdsWithout_17 ?_
  refine s_iald C (ky11_1 hq0) dX11_holdsWithout_18 h (fun h => ?_)
  refine z_gi h (fun x2 h => ?_)
  refine i_istore (lv9 := [(4, _), (3, _), (0, _), (1, _), (2, _)]) C dX11_holdsWithout_19 (by decide) rfl ?_
  refine i_aload_n C dX11_holdsWithout_21 2 rfl ?_
  refine gf11_9 C hq0 dX11_holdsWithout_22 ?_
  refine s_bipush C (28 : Int32) dX11_holdsWithout_25 (by decide) ?_
  refine i_iload_n C dX11_holdsWithout_27 3 rfl ?_
  refine s_iadd C dX11_holdsWithout_28 ?_
  refine s_iconst C (0 : Int32) dX11_holdsWithout_29 (by decide) ?_
  refine s_iast C (ky11_1 hq0) dX11_holdsWithout_30 h (fun h => ?_)
  refine z_gM h (fun M3 h => ?_)
  refine i_aload_n C dX11_holdsWithout_31 2 rfl ?_
  refine gf11_9 C hq0 dX11_holdsWithout_32 ?_
  refine s_bipush C (28 : Int32) dX11_holdsWithout_35 (by decide) ?_
  refine i_iload_n C dX11_holdsWithout_37 4 rfl ?_
  refine s_iadd C dX11_holdsWithout_38 ?_
  refine s_iconst C (0 : Int32) dX11_holdsWithout_39 (by decide) ?_
  refine s_iast C (ky11_1 hq0) dX11_holdsWithout_40 h (fun h => ?_)
  refine z_gM h (fun M4 h => ?_)
  refine i_aload_n C dX11_holdsWithout_41 2 rfl ?_
  refine s_vcI C [] vmX11_doesHold lkX11_334 rfl rfl (by decide) hq0 (by decide) rfl rfl (Nat.le_of_ble_eq_true rfl) dX11_holdsWithout_42 (ctX11_doesHold C.inj hq0) h (fun x6 M5 h => ?_)
  refine z_gi h (fun x7 h => ?_)
  refine i_istore (lv9 := [(5, _), (4, _), (3, _), (0, _), (1, _), (2, _)]) C dX11_holdsWithout_45 (by decide) rfl ?_
  refine i_aload_n C dX11_holdsWithout_47 3 rfl ?_
  refine gf11_9 C hq0 dX11_holdsWithout_48 ?_
  refine s_bipush C (28 : Int32) dX11_holdsWithout_51 (by decide) ?_
  refine i_iload_n C dX11_holdsWithout_53 5 rfl ?_
  refine s_iadd C dX11_holdsWithout_54 ?_
  refine i_iload C dX11_holdsWithout_55 1 rfl ?_
  refine s_iast C (ky11_1 hq0) dX11_holdsWithout_57 h (fun h => ?_)
  refine z_gM h (fun M8 h => ?_)
  refine i_aload_n C dX11_holdsWithout_58 3 rfl ?_
  refine gf11_9 C hq0 dX11_holdsWithout_59 ?_
  refine s_bipush C (28 : Int32) dX11_holdsWithout_62 (by decide) ?_
  refine i_iload_n C dX11_holdsWithout_64 4 rfl ?_
  refine s_iadd C dX11_holdsWithout_65 ?_
  refine i_iload_n C dX11_holdsWithout_66 2 rfl ?_
  refine s_iast C (ky11_1 hq0) dX11_holdsWithout_67 h (fun h => ?_)
  refine z_gM h (fun M9 h => ?_)
  refine i_iload C dX11_holdsWithout_68 0 rfl ?_
  exact s_zret C E dX11_holdsWithout_70 h
theorem ctX11_holdsWithout {ad : Nat → Nat} {V : sg_V} {N : Nat} (hi : sg_inj Yr ad) {a0_ : Nat} {x1_ : Int32} {x2_ : Int32} {M : sg_M} (hq0 : sg_K Yr a0_ 11) : ∀ res, fX11_holdsWithout N a0_ x1_ x2_ M = some res → sg_cI Yr ad V yX11_holdsWithout cX11_holdsWithout 6 .boolean 6 [.ref (ad a0_), .int x1_, .int x2_] M res := fun res h => sg_bodyI (by decide) hi (Nat.le_of_ble_eq_true rfl) (fun X hX C E => by subst hX; exact tX11_holdsWithout C E _ _ _  _ hq0 h)
def fX11_isPair (N : Nat) (a0_ : Nat) (x1_ : Int32) (x2_ : Int32) (M : sg_M) : Option (Int32 × sg_M) :=
  if sg_ib ((28 : Int32) + x1_) (Yr.2.2.1 (Yr.2.2.2 a0_ 1)) = true then
  if (M.1 (Yr.2.2.2 a0_ 1) (((28 : Int32) + x1_)).toNatClampNeg) = 0 then (
  some ((0 : Int32), M)) else (
  if sg_ib ((28 : Int32) + x2_) (Yr.2.2.1 (Yr.2.2.2 a0_ 1)) = true then
  if (M.1 (Yr.2.2.2 a0_ 1) (((28 : Int32) + x2_)).toNatClampNeg) = 0 then (
  some ((0 : Int32), M)) else (
  sg_b (fX11_holdsWithout N a0_ x1_ x2_ M) (fun (x2 : Int32) (M1 : sg_M) =>
  if x2 = 0 then (
  sg_b (fX11_holdsWithout N a0_ x1_ x1_ M1) (fun (x4 : Int32) (M3 : sg_M) =>
  if x4 = 0 then (
  some ((0 : Int32), M3)) else (
  sg_b (fX11_holdsWithout N a0_ x2_ x2_ M3) (fun (x6 : Int32) (M5 : sg_M) =>
  if x6 = 0 then (
  some ((0 : Int32), M5)) else (
  some ((1 : Int32), M5)))))) else (
  some ((0 : Int32), M1))))
  else none)
  else none
set_option maxHeartbeats 4000000 in
set_option maxRecDepth 100000 in
theorem tX11_isPair {ad : Nat → Nat} {X : sg_X} {N : Nat} {r : Int32 × sg_M} (C : sg_C Yr ad X cX11_isPair RX11 3 7) (E : sg_eI Yr ad X cX11_isPair .boolean r) : ∀ (a0_ : Nat) (x1_ : Int32) (x2_ : Int32) (M : sg_M), sg_K Yr a0_ 11 → fX11_isPair N a0_ x1_ x2_ M = some r → sg_T Yr ad X 3 0 [(0, .ref (ad a0_)), (1, .int x1_), (2, .int x2_)] [] M := by
  intro a0_ x1_ x2_ M hq0 h
  unfold fX11_isPair at h
  refine i_aload_n C dX11_isPair_0 0 rfl ?_
  refine gf11_9 C hq0 dX11_isPair_1 ?_
  refine s_bipush C (28 : Int32) dX11_isPair_4 (by decide) ?_
  refine i_iload_n C dX11_isPair_6 1 rfl ?_
  refine s_iadd C dX11_isPair_7 ?_
  refine s_iald C (ky11_1 hq0) dX11_isPair_8 h (fun h => ?_)
  refine s_if_eq C 24 (by decide) dX11_isPair_9 h (fun _ h => ?_) (fun _ h => ?_)
  · refine s_iconst C (0 : Int32) dX11_isPair_24 (by decide) ?_
    exact s_zret1 C E (by decide) dX11_isPair_25 h
  · refine i_aload_n C dX11_isPair_12 0 rfl ?_
    refine gf11_9 C hq0 dX11_isPair_13 ?_
    refine s_bipush C (28 : Int32) dX11_isPair_16 (by decide) ?_
    refine i_iload_n C dX11_isPair_18 2 rfl ?_
    refine s_iadd C dX11_isPair_19 ?_
    refine s_iald C (ky11_1 hq0) dX11_isPair_20 h (fun h => ?_)
    refine s_if_ne C 26 (by decide) dX11_isPair_21 h (fun _ h => ?_) (fun _ h => ?_)
    · refine s_iconst C (0 : Int32) dX11_isPair_24 (by decide) ?_
      exact s_zret1 C E (by decide) dX11_isPair_25 h
    · refine i_aload_n C dX11_isPair_26 0 rfl ?_
      refine i_iload_n C dX11_isPair_27 1 rfl ?_
      refine i_iload_n C dX11_isPair_28 2 rfl ?_
      refine s_vcI C [_, _] vmX11_holdsWithout lkX11_427 rfl rfl (by decide) hq0 (by decide) rfl rfl (Nat.le_of_ble_eq_true rfl) dX11_isPair_29 (ctX11_holdsWithout C.inj hq0) h (fun x2 M1 h => ?_)
      refine s_if_ne C 57 (by decide) dX11_isPair_32 h (fun _ h => ?_) (fun _ h => ?_)
      · refine i_aload_n C dX11_isPair_35 0 rfl ?_
        refine i_iload_n C dX11_isPair_36 1 rfl ?_
        refine i_iload_n C dX11_isPair_37 1 rfl ?_
        refine s_vcI C [_, _] vmX11_holdsWithout lkX11_427 rfl rfl (by decide) hq0 (by decide) rfl rfl (Nat.le_of_ble_eq_true rfl) dX11_isPair_38 (ctX11_holdsWithout C.inj hq0) h (fun x4 M3 h => ?_)
        refine s_if_eq C 57 (by decide) dX11_isPair_41 h (fun _ h => ?_) (fun _ h => ?_)
        · refine s_iconst C (0 : Int32) dX11_isPair_57 (by decide) ?_
          exact s_zret1 C E (by decide) dX11_isPair_58 h
        · refine i_aload_n C dX11_isPair_44 0 rfl ?_
          refine i_iload_n C dX11_isPair_45 2 rfl ?_
          refine i_iload_n C dX11_isPair_46 2 rfl ?_
          refine s_vcI C [_, _] vmX11_holdsWithout lkX11_427 rfl rfl (by decide) hq0 (by decide) rfl rfl (Nat.le_of_ble_eq_true rfl) dX11_isPair_47 (ctX11_holdsWithout C.inj hq0) h (fun x6 M5 h => ?_)
          refine s_if_eq C 57 (by decide) dX11_isPair_50 h (fun _ h => ?_) (fun _ h => ?_)
          · refine s_iconst C (0 : Int32) dX11_isPair_57 (by decide) ?_
            exact s_zret1 C E (by decide) dX11_isPair_58 h
          · refine s_iconst C (1 : Int32) dX11_isPair_53 (by decide) ?_
            refine s_goto C 58 (by decide) dX11_isPair_54 ?_
            exact s_zret1 C E (by decide) dX11_isPair_58 h
      · refine s_iconst C (0 : Int32) dX11_isPair_57 (by decide) ?_
        exact s_zret1 C E (by decide) dX11_isPair_58 h
theorem ctX11_isPair {ad : Nat → Nat} {V : sg_V} {N : Nat} (hi : sg_inj Yr ad) {a0_ : Nat} {x1_ : Int32} {x2_ : Int32} {M : sg_M} (hq0 : sg_K Yr a0_ 11) : ∀ res, fX11_isPair N a0_ x1_ x2_ M = some res → sg_cI Yr ad V yX11_isPair cX11_isPair 3 .boolean 7 [.ref (ad a0_), .int x1_, .int x2_] M res := fun res h => sg_bodyI (by decide) hi (Nat.le_of_ble_eq_true rfl) (fun X hX C E => by subst hX; exact tX11_isPair C E _ _ _  _ hq0 h)
def bX11_pairBy_17 (N : Nat) (k4 : (Nat × Int32 × Int32 × Int32) → sg_M → Option (Int32 × sg_M)) (k17 : (Nat × Int32 × Int32 × Int32 × Int32) → sg_M → Option (Int32 × sg_M)) (s : Nat × Int32 × Int32 × Int32 × Int32) (M : sg_M) : Option (Int32 × sg_M) :=
  sg_b (fX11_straps N s.1 M) (fun (x2 : Int32) (M1 : sg_M) =>
  if x2 ≤ s.2.2.2.2 then (
  sg_m (s.2.2.2.1 + (1 : Int32)) (fun x3 : Int32 =>
  k4 (s.1, s.2.1, s.2.2.1, x3) M1)) else (
  sg_b (fX11_isPair N s.1 s.2.2.2.1 s.2.2.2.2 M1) (fun (x5 : Int32) (M4 : sg_M) =>
  if x5 = 0 then (
  sg_m (s.2.2.2.2 + (1 : Int32)) (fun x6 : Int32 =>
  k17 (s.1, s.2.1, s.2.2.1, s.2.2.2.1, x6) M4)) else (
  if s.2.2.1 = s.2.1 then (
  some ((((100 : Int32) * s.2.2.2.1) + s.2.2.2.2), M4)) else (
  sg_m (s.2.2.1 + (1 : Int32)) (fun x7 : Int32 =>
  sg_m (s.2.2.2.2 + (1 : Int32)) (fun x8 : Int32 =>
  k17 (s.1, s.2.1, x7, s.2.2.2.1, x8) M4)))))))
def gX11_pairBy_17 (N : Nat) (k4 : (Nat × Int32 × Int32 × Int32) → sg_M → Option (Int32 × sg_M)) : (Nat × Int32 × Int32 × Int32 × Int32) → sg_M → Option (Int32 × sg_M) := sg_lp (bX11_pairBy_17 N k4) N
set_option maxHeartbeats 4000000 in
set_option maxRecDepth 100000 in
theorem tX11_pairBy_17 {ad : Nat → Nat} {X : sg_X} {N : Nat} {r : Int32 × sg_M} (C : sg_C Yr ad X cX11_pairBy RX11 5 8) (E : sg_eI Yr ad X cX11_pairBy .int r) {k4 : (Nat × Int32 × Int32 × Int32) → sg_M → Option (Int32 × sg_M)} (hk4 : ∀ (s : Nat × Int32 × Int32 × Int32) (M : sg_M), k4 s M = some r → sg_K Yr s.1 11 → sg_T Yr ad X 5 4 [(0, .ref (ad (s.1))), (1, .int (s.2.1)), (2, .int (s.2.2.1)), (3, .int (s.2.2.2))] [] M) : ∀ (s : Nat × Int32 × Int32 × Int32 × Int32) (M : sg_M), gX11_pairBy_17 N k4 s M = some r → sg_K Yr s.1 11 → sg_T Yr ad X 5 17 [(0, .ref (ad (s.1))), (1, .int (s.2.1)), (2, .int (s.2.2.1)), (3, .int (s.2.2.2.1)), (4, .int (s.2.2.2.2))] [] M := by
  have key : ∀ n : Nat, ∀ (s : Nat × Int32 × Int32 × Int32 × Int32) (M : sg_M), sg_lp (bX11_pairBy_17 N k4) n s M = some r → sg_K Yr s.1 11 → sg_T Yr ad X 5 17 [(0, .ref (ad (s.1))), (1, .int (s.2.1)), (2, .int (s.2.2.1)), (3, .int (s.2.2.2.1)), (4, .int (s.2.2.2.2))] [] M := by
    intro n
    induction n with
    | zero => intro s M h; cases h
    | succ n ih =>
      intro s M h hq0
      have h : bX11_pairBy_17 N k4 (sg_lp (bX11_pairBy_17 N k4) n) s M = some r := h
      generalize sg_lp (bX11_pairBy_17 N k4) n = k17 at h ih
      have hk17 := ih
      unfold bX11_pairBy_17 at h
      refine i_iload C dX11_pairBy_17 4 rfl ?_
      refine i_aload_n C dX11_pairBy_19 0 rfl ?_
      refine s_vcI C [] vmX11_straps lkX11_116 rfl rfl (by decide) hq0 (by decide) rfl rfl (Nat.le_of_ble_eq_true rfl) dX11_pairBy_20 (ctX11_straps C.inj hq0) h (fun x2 M1 h => ?_)
      refine s_icmp_ge C 61 (by decide) dX11_pairBy_23 h (fun _ h => ?_) (fun _ h => ?_)
      · refine z_iinc (n := 1) (c9 := (1 : Int32)) (by decide) h (fun x3 hx h => ?_)
        refine i_iinc (lv9 := [(3, _), (0, _), (1, _), (2, _), (4, _)]) C dX11_pairBy_61 3 rfl hx (by decide) rfl ?_
        refine s_goto C 4 (by decide) dX11_pairBy_64 ?_
        exact sg_T.to (hk4 _ _ h hq0) [1, 2, 3, 0] rfl
      · refine i_aload_n C dX11_pairBy_26 0 rfl ?_
        refine i_iload_n C dX11_pairBy_27 3 rfl ?_
        refine i_iload C dX11_pairBy_28 4 rfl ?_
        refine s_vcI C [_, _] vmX11_isPair lkX11_430 rfl rfl (by decide) hq0 (by decide) rfl rfl (Nat.le_of_ble_eq_true rfl) dX11_pairBy_30 (ctX11_isPair C.inj hq0) h (fun x5 M4 h => ?_)
        refine s_if_ne C 39 (by decide) dX11_pairBy_33 h (fun _ h => ?_) (fun _ h => ?_)
        · refine s_goto C 55 (by decide) dX11_pairBy_36 ?_
          refine z_iinc (n := 1) (c9 := (1 : Int32)) (by decide) h (fun x6 hx h => ?_)
          refine i_iinc (lv9 := [(4, _), (0, _), (1, _), (2, _), (3, _)]) C dX11_pairBy_55 4 rfl hx (by decide) rfl ?_
          refine s_goto C 17 (by decide) dX11_pairBy_58 ?_
          exact sg_T.to (hk17 _ _ h hq0) [1, 2, 3, 4, 0] rfl
        · refine i_iload_n C dX11_pairBy_39 2 rfl ?_
          refine i_iload_n C dX11_pairBy_40 1 rfl ?_
          refine s_icmp_ne C 52 (by decide) dX11_pairBy_41 h (fun _ h => ?_) (fun _ h => ?_)
          · refine s_bipush C (100 : Int32) dX11_pairBy_44 (by decide) ?_
            refine i_iload_n C dX11_pairBy_46 3 rfl ?_
            refine s_imul C dX11_pairBy_47 ?_
            refine i_iload C dX11_pairBy_48 4 rfl ?_
            refine s_iadd C dX11_pairBy_50 ?_
            exact s_iret C E dX11_pairBy_51 h
          · refine z_iinc (n := 1) (c9 := (1 : Int32)) (by decide) h (fun x7 hx h => ?_)
            refine i_iinc (lv9 := [(2, _), (0, _), (1, _), (3, _), (4, _)]) C dX11_pairBy_52 2 rfl hx (by decide) rfl ?_
            refine z_iinc (n := 1) (c9 := (1 : Int32)) (by decide) h (fun x8 hx h => ?_)
            refine i_iinc (lv9 := [(4, _), (2, _), (0, _), (1, _), (3, _)]) C dX11_pairBy_55 4 rfl hx (by decide) rfl ?_
            refine s_goto C 17 (by decide) dX11_pairBy_58 ?_
            exact sg_T.to (hk17 _ _ h hq0) [2, 3, 1, 4, 0] rfl
  exact key N
def bX11_pairBy_4 (N : Nat)  (k4 : (Nat × Int32 × Int32 × Int32) → sg_M → Option (Int32 × sg_M)) (s : Nat × Int32 × Int32 × Int32) (M : sg_M) : Option (Int32 × sg_M) :=
  sg_b (fX11_straps N s.1 M) (fun (x10 : Int32) (M9 : sg_M) =>
  if x10 ≤ s.2.2.2 then (
  if 0 ≤ s.2.1 then (
  some ((-1 : Int32), M9)) else (
  some (s.2.2.1, M9))) else (
  sg_m (s.2.2.2 + (1 : Int32)) (fun x11 : Int32 =>
  gX11_pairBy_17 N k4 (s.1, s.2.1, s.2.2.1, s.2.2.2, x11) M9)))
def gX11_pairBy_4 (N : Nat)  : (Nat × Int32 × Int32 × Int32) → sg_M → Option (Int32 × sg_M) := sg_lp (bX11_pairBy_4 N ) N
set_option maxHeartbeats 4000000 in
set_option maxRecDepth 100000 in
theorem tX11_pairBy_4 {ad : Nat → Nat} {X : sg_X} {N : Nat} {r : Int32 × sg_M} (C : sg_C Yr ad X cX11_pairBy RX11 5 8) (E : sg_eI Yr ad X cX11_pairBy .int r)  : ∀ (s : Nat × Int32 × Int32 × Int32) (M : sg_M), gX11_pairBy_4 N s M = some r → sg_K Yr s.1 11 → sg_T Yr ad X 5 4 [(0, .ref (ad (s.1))), (1, .int (s.2.1)), (2, .int (s.2.2.1)), (3, .int (s.2.2.2))] [] M := by
  have key : ∀ n : Nat, ∀ (s : Nat × Int32 × Int32 × Int32) (M : sg_M), sg_lp (bX11_pairBy_4 N) n s M = some r → sg_K Yr s.1 11 → sg_T Yr ad X 5 4 [(0, .ref (ad (s.1))), (1, .int (s.2.1)), (2, .int (s.2.2.1)), (3, .int (s.2.2.2))] [] M := by
    intro n
    induction n with
    | zero => intro s M h; cases h
    | succ n ih =>
      intro s M h hq0
      have h : bX11_pairBy_4 N (sg_lp (bX11_pairBy_4 N) n) s M = some r := h
      generalize sg_lp (bX11_pairBy_4 N) n = k4 at h ih
      have hk4 := ih
      unfold bX11_pairBy_4 at h
      refine i_iload_n C dX11_pairBy_4 3 rfl ?_
      refine i_aload_n C dX11_pairBy_5 0 rfl ?_
      refine s_vcI C [] vmX11_straps lkX11_116 rfl rfl (by decide) hq0 (by decide) rfl rfl (Nat.le_of_ble_eq_true rfl) dX11_pairBy_6 (ctX11_straps C.inj hq0) h (fun x10 M9 h => ?_)
      refine s_icmp_ge C 67 (by decide) dX11_pairBy_9 h (fun _ h => ?_) (fun _ h => ?_)
      · refine i_iload_n C dX11_pairBy_67 1 rfl ?_
        refine s_if_ge C 75 (by decide) dX11_pairBy_68 h (fun _ h => ?_) (fun _ h => ?_)
        · refine s_iconst C (-1 : Int32) dX11_pairBy_75 (by decide) ?_
          exact s_iret C E dX11_pairBy_76 h
        · refine i_iload_n C dX11_pairBy_71 2 rfl ?_
          refine s_goto C 76 (by decide) dX11_pairBy_72 ?_
          exact s_iret C E dX11_pairBy_76 h
      · refine i_iload_n C dX11_pairBy_12 3 rfl ?_
        refine s_iconst C (1 : Int32) dX11_pairBy_13 (by decide) ?_
        refine s_iadd C dX11_pairBy_14 ?_
        refine z_gi h (fun x11 h => ?_)
        refine i_istore (lv9 := [(4, _), (0, _), (1, _), (2, _), (3, _)]) C dX11_pairBy_15 (by decide) rfl ?_
        exact sg_T.to (tX11_pairBy_17 C E hk4 _ _ h hq0) [1, 2, 3, 4, 0] rfl
  exact key N
def fX11_pairBy (N : Nat) (a0_ : Nat) (x1_ : Int32) (M : sg_M) : Option (Int32 × sg_M) :=
  sg_m (0 : Int32) (fun x12 : Int32 =>
  sg_m (0 : Int32) (fun x13 : Int32 =>
  gX11_pairBy_4 N (a0_, x1_, x12, x13) M))
set_option maxHeartbeats 4000000 in
set_option maxRecDepth 100000 in
theorem tX11_pairBy {ad : Nat → Nat} {X : sg_X} {N : Nat} {r : Int32 × sg_M} (C : sg_C Yr ad X cX11_pairBy RX11 5 8) (E : sg_eI Yr ad X cX11_pairBy .int r) : ∀ (a0_ : Nat) (x1_ : Int32) (M : sg_M), sg_K Yr a0_ 11 → fX11_pairBy N a0_ x1_ M = some r → sg_T Yr ad X 5 0 [(0, .ref (ad a0_)), (1, .int x1_)] [] M := by
  intro a0_ x1_ M hq0 h
  unfold fX11_pairBy at h
  refine s_iconst C (0 : Int32) dX11_pairBy_0 (by decide) ?_
  refine z_gi h (fun x12 h => ?_)
  refine i_istore_n (lv9 := [(2, _), (0, _), (1, _)]) C 2 dX11_pairBy_1 rfl (by decide) rfl ?_
  refine s_iconst C (0 : Int32) dX11_pairBy_2 (by decide) ?_
  refine z_gi h (fun x13 h => ?_)
  refine i_istore_n (lv9 := [(3, _), (2, _), (0, _), (1, _)]) C 3 dX11_pairBy_3 rfl (by decide) rfl ?_
  exact sg_T.to (tX11_pairBy_4 C E _ _ h hq0) [2, 3, 1, 0] rfl
theorem ctX11_pairBy {ad : Nat → Nat} {V : sg_V} {N : Nat} (hi : sg_inj Yr ad) {a0_ : Nat} {x1_ : Int32} {M : sg_M} (hq0 : sg_K Yr a0_ 11) : ∀ res, fX11_pairBy N a0_ x1_ M = some res → sg_cI Yr ad V yX11_pairBy cX11_pairBy 5 .int 8 [.ref (ad a0_), .int x1_] M res := fun res h => sg_bodyI (by decide) hi (Nat.le_of_ble_eq_true rfl) (fun X hX C E => by subst hX; exact tX11_pairBy C E _ _  _ hq0 h)
def fX11_pairs (N : Nat) (a0_ : Nat) (M : sg_M) : Option (Int32 × sg_M) :=
  sg_b (fX11_isGrid N a0_ M) (fun (x2 : Int32) (M1 : sg_M) =>
  if x2 = 0 then (
  some ((-2 : Int32), M1)) else (
  sg_b (fX11_pairBy N a0_ (-1 : Int32) M1) (fun (x4 : Int32) (M3 : sg_M) =>
  some (x4, M3))))
set_option maxHeartbeats 4000000 in
set_option maxRecDepth 100000 in
theorem tX11_pairs {ad : Nat → Nat} {X : sg_X} {N : Nat} {r : Int32 × sg_M} (C : sg_C Yr ad X cX11_pairs RX11 1 9) (E : sg_eI Yr ad X cX11_pairs .int r) : ∀ (a0_ : Nat) (M : sg_M), sg_K Yr a0_ 11 → fX11_pairs N a0_ M = some r → sg_T Yr ad X 1 0 [(0, .ref (ad a0_))] [] M := by
  intro a0_ M hq0 h
  unfold fX11_pairs at h
  refine i_aload_n C dX11_pairs_0 0 rfl ?_
  refine s_vcI C [] vmX11_isGrid lkX11_109 rfl rfl (by decide) hq0 (by decide) rfl rfl (Nat.le_of_ble_eq_true rfl) dX11_pairs_1 (ctX11_isGrid C.inj hq0) h (fun x2 M1 h => ?_)
  refine s_if_eq C 15 (by decide) dX11_pairs_4 h (fun _ h => ?_) (fun _ h => ?_)
  · refine s_bipush C (-2 : Int32) dX11_pairs_15 (by decide) ?_
    exact s_iret C E dX11_pairs_17 h
  · refine i_aload_n C dX11_pairs_7 0 rfl ?_
    refine s_iconst C (-1 : Int32) dX11_pairs_8 (by decide) ?_
    refine s_vcI C [_] vmX11_pairBy lkX11_433 rfl rfl (by decide) hq0 (by decide) rfl rfl (Nat.le_of_ble_eq_true rfl) dX11_pairs_9 (ctX11_pairBy C.inj hq0) h (fun x4 M3 h => ?_)
    refine s_goto C 17 (by decide) dX11_pairs_12 ?_
    exact s_iret C E dX11_pairs_17 h
theorem ctX11_pairs {ad : Nat → Nat} {V : sg_V} {N : Nat} (hi : sg_inj Yr ad) {a0_ : Nat} {M : sg_M} (hq0 : sg_K Yr a0_ 11) : ∀ res, fX11_pairs N a0_ M = some res → sg_cI Yr ad V yX11_pairs cX11_pairs 1 .int 9 [.ref (ad a0_)] M res := fun res h => sg_bodyI (by decide) hi (Nat.le_of_ble_eq_true rfl) (fun X hX C E => by subst hX; exact tX11_pairs C E _  _ hq0 h)
def fX11_pair (N : Nat) (a0_ : Nat) (x1_ : Int32) (M : sg_M) : Option (Int32 × sg_M) :=
  sg_b (fX11_isGrid N a0_ M) (fun (x2 : Int32) (M1 : sg_M) =>
  if x2 = 0 then (
  some ((-2 : Int32), M1)) else (
  if x1_ < 0 then (
  some ((-2 : Int32), M1)) else (
  sg_b (fX11_pairBy N a0_ x1_ M1) (fun (x4 : Int32) (M3 : sg_M) =>
  some (x4, M3)))))
set_option maxHeartbeats 4000000 in
set_option maxRecDepth 100000 in
theorem tX11_pair {ad : Nat → Nat} {X : sg_X} {N : Nat} {r : Int32 × sg_M} (C : sg_C Yr ad X cX11_pair RX11 2 9) (E : sg_eI Yr ad X cX11_pair .int r) : ∀ (a0_ : Nat) (x1_ : Int32) (M : sg_M), sg_K Yr a0_ 11 → fX11_pair N a0_ x1_ M = some r → sg_T Yr ad X 2 0 [(0, .ref (ad a0_)), (1, .int x1_)] [] M := by
  intro a0_ x1_ M hq0 h
  unfold fX11_pair at h
  refine i_aload_n C dX11_pair_0 0 rfl ?_
  refine s_vcI C [] vmX11_isGrid lkX11_109 rfl rfl (by decide) hq0 (by decide) rfl rfl (Nat.le_of_ble_eq_true rfl) dX11_pair_1 (ctX11_isGrid C.inj hq0) h (fun x2 M1 h => ?_)
  refine s_if_eq C 19 (by decide) dX11_pair_4 h (fun _ h => ?_) (fun _ h => ?_)
  · refine s_bipush C (-2 : Int32) dX11_pair_19 (by decide) ?_
    exact s_iret C E dX11_pair_21 h
  · refine i_iload_n C dX11_pair_7 1 rfl ?_
    refine s_if_lt C 19 (by decide) dX11_pair_8 h (fun _ h => ?_) (fun _ h => ?_)
    · refine s_bipush C (-2 : Int32) dX11_pair_19 (by decide) ?_
      exact s_iret C E dX11_pair_21 h
    · refine i_aload_n C dX11_pair_11 0 rfl ?_
      refine i_iload_n C dX11_pair_12 1 rfl ?_
      refine s_vcI C [_] vmX11_pairBy lkX11_433 rfl rfl (by decide) hq0 (by decide) rfl rfl (Nat.le_of_ble_eq_true rfl) dX11_pair_13 (ctX11_pairBy C.inj hq0) h (fun x4 M3 h => ?_)
      refine s_goto C 21 (by decide) dX11_pair_16 ?_
      exact s_iret C E dX11_pair_21 h
theorem ctX11_pair {ad : Nat → Nat} {V : sg_V} {N : Nat} (hi : sg_inj Yr ad) {a0_ : Nat} {x1_ : Int32} {M : sg_M} (hq0 : sg_K Yr a0_ 11) : ∀ res, fX11_pair N a0_ x1_ M = some res → sg_cI Yr ad V yX11_pair cX11_pair 2 .int 9 [.ref (ad a0_), .int x1_] M res := fun res h => sg_bodyI (by decide) hi (Nat.le_of_ble_eq_true rfl) (fun X hX C E => by subst hX; exact tX11_pair C E _ _  _ hq0 h)
def fX11_draws1 (N : Nat) (a0_ : Nat) (x1_ : Int32) (M : sg_M) : Option (Int32 × sg_M) :=
  if (2147483648 : Int64) = 0 then none else
  sg_m (sg_uJ M a0_ 37 ((((1103515245 : Int64) * (M.2 a0_ 37)) + (12345 : Int64)) - (((1103515245 : Int64) * (M.2 a0_ 37)) + (12345 : Int64)) / (2147483648 : Int64) * (2147483648 : Int64))) (fun M1 : sg_M =>
  if (65536 : Int64) = 0 then none else
  if ((x1_ + (1 : Int32))).toInt64 = 0 then none else
  some (((((M1.2 a0_ 37) / (65536 : Int64)) - ((M1.2 a0_ 37) / (65536 : Int64)) / ((x1_ + (1 : Int32))).toInt64 * ((x1_ + (1 : Int32))).toInt64)).toInt32, M1))
set_option maxHeartbeats 4000000 in
set_option maxRecDepth 100000 in
theorem tX11_draws1 {ad : Nat → Nat} {X : sg_X} {N : Nat} {r : Int32 × sg_M} (C : sg_C Yr ad X cX11_draws1 RX11 2 0) (E : sg_eI Yr ad X cX11_draws1 .int r) : ∀ (a0_ : Nat) (x1_ : Int32) (M : sg_M), sg_K Yr a0_ 11 → fX11_draws1 N a0_ x1_ M = some r → sg_T Yr ad X 2 0 [(0, .ref (ad a0_)), (1, .int x1_)] [] M := by
  intro a0_ x1_ M hq0 h
  unfold fX11_draws1 at h
  refine i_aload_n C dX11_draws1_0 0 rfl ?_
  refine s_ldc2 C (1103515245 : Int64) kl_X11_436 dX11_draws1_1 ?_
  refine i_aload_n C dX11_draws1_4 0 rfl ?_
  refine gf11_438 C hq0 dX11_draws1_5 ?_
  refine s_lmul C dX11_draws1_8 ?_
  refine s_ldc2 C (12345 : Int64) kl_X11_441 dX11_draws1_9 ?_
  refine s_ladd C dX11_draws1_12 ?_
  refine s_ldc2 C (2147483648 : Int64) kl_X11_443 dX11_draws1_13 ?_
  refine s_lrem C dX11_draws1_16 h (fun h => ?_)
  refine pf11_438 C hq0 dX11_draws1_17 ?_
  refine z_gM h (fun M1 h => ?_)
  refine i_aload_n C dX11_draws1_20 0 rfl ?_
  refine gf11_438 C hq0 dX11_draws1_21 ?_
  refine s_ldc2 C (65536 : Int64) kl_X11_445 dX11_draws1_24 ?_
  refine s_ldiv C dX11_draws1_27 h (fun h => ?_)
  refine i_iload_n C dX11_draws1_28 1 rfl ?_
  refine s_iconst C (1 : Int32) dX11_draws1_29 (by decide) ?_
  refine s_iadd C dX11_draws1_30 ?_
  refine s_i2l C dX11_draws1_31 ?_
  refine s_lrem C dX11_draws1_32 h (fun h => ?_)
  refine s_l2i C dX11_draws1_33 ?_
  exact s_iret C E dX11_draws1_34 h
theorem ctX11_draws1 {ad : Nat → Nat} {V : sg_V} {N : Nat} (hi : sg_inj Yr ad) {a0_ : Nat} {x1_ : Int32} {M : sg_M} (hq0 : sg_K Yr a0_ 11) : ∀ res, fX11_draws1 N a0_ x1_ M = some res → sg_cI Yr ad V yX11_draws1 cX11_draws1 2 .int 0 [.ref (ad a0_), .int x1_] M res := fun res h => sg_bodyI (by decide) hi (Nat.le_of_ble_eq_true rfl) (fun X hX C E => by subst hX; exact tX11_draws1 C E _ _  _ hq0 h)
def gX11_tries_86 (N : Nat) (k25 : (Nat × Int32 × Int32 × Int32) → sg_M → Option (Int32 × sg_M)) (a0_ : Nat) (x2_ : Int32) (x4_ : Int32) (y0_ : Int32) (y1_ : Int32) (M : sg_M) : Option (Int32 × sg_M) :=
  sg_m (y0_ + y1_) (fun x1 : Int32 =>
  sg_b (fX11_mostDrop N a0_ M) (fun (x3 : Int64) (M2 : sg_M) =>
  sg_b (fX11_compares N x3 (M2.2 a0_ 26) (M2.2 a0_ 32) (M2.2 a0_ 33) M2) (fun (x5 : Int32) (M4 : sg_M) =>
  if 0 < x5 then (
  sg_b (fX11_mostDrop N a0_ M4) (fun (x7 : Int64) (M6 : sg_M) =>
  sg_m (sg_uJ M6 a0_ 32 x7) (fun M8 : sg_M =>
  sg_m (sg_uJ M8 a0_ 33 (M8.2 a0_ 26)) (fun M9 : sg_M =>
  sg_m (x4_ + (1 : Int32)) (fun x10 : Int32 =>
  k25 (a0_, x2_, x1, x10) M9))))) else (
  sg_m (x4_ + (1 : Int32)) (fun x11 : Int32 =>
  k25 (a0_, x2_, x1, x11) M4)))))
set_option maxHeartbeats 4000000 in
set_option maxRecDepth 100000 in
theorem tX11_tries_86 {ad : Nat → Nat} {X : sg_X} {N : Nat} {r : Int32 × sg_M} (C : sg_C Yr ad X cX11_tries RX11 6 6) (E : sg_eI Yr ad X cX11_tries .int r) {k25 : (Nat × Int32 × Int32 × Int32) → sg_M → Option (Int32 × sg_M)} (hk25 : ∀ (s : Nat × Int32 × Int32 × Int32) (M : sg_M), k25 s M = some r → sg_K Yr s.1 11 → sg_T Yr ad X 6 25 [(0, .ref (ad (s.1))), (2, .int (s.2.1)), (3, .int (s.2.2.1)), (4, .int (s.2.2.2))] [] M) : ∀ (a0_ : Nat) (x2_ : Int32) (x4_ : Int32) (y0_ : Int32) (y1_ : Int32) (M : sg_M), gX11_tries_86 N k25 a0_ x2_ x4_ y0_ y1_ M = some r → sg_K Yr a0_ 11 → sg_T Yr ad X 6 86 [(0, .ref (ad a0_)), (2, .int x2_), (4, .int x4_)] [.int y1_, .int y0_] M := by
  intro a0_ x2_ x4_ y0_ y1_ M h hq0
  unfold gX11_tries_86 at h
  refine s_iadd C dX11_tries_86 ?_
  refine z_gi h (fun x1 h => ?_)
  refine i_istore_n (lv9 := [(3, _), (0, _), (2, _), (4, _)]) C 3 dX11_tries_87 rfl (by decide) rfl ?_
  refine i_aload_n C dX11_tries_88 1 rfl ?_
  refine s_vcL C [] vmX11_mostDrop lkX11_298 rfl rfl (by decide) hq0 (by decide) rfl rfl (Nat.le_of_ble_eq_true rfl) dX11_tries_89 (ctX11_mostDrop C.inj hq0) h (fun x3 M2 h => ?_)
  refine i_aload_n C dX11_tries_92 1 rfl ?_
  refine gf11_50 C hq0 dX11_tries_93 ?_
  refine i_aload_n C dX11_tries_96 1 rfl ?_
  refine gf11_372 C hq0 dX11_tries_97 ?_
  refine i_aload_n C dX11_tries_100 1 rfl ?_
  refine gf11_375 C hq0 dX11_tries_101 ?_
  refine s_scI C [_, _, _, _] smX11_compares lkX11_378 (by decide) rfl rfl (Nat.le_of_ble_eq_true rfl) dX11_tries_104 (ctX11_compares C.inj ) h (fun x5 M4 h => ?_)
  refine s_if_gt C 113 (by decide) dX11_tries_107 h (fun _ h => ?_) (fun _ h => ?_)
  · refine i_aload_n C dX11_tries_113 1 rfl ?_
    refine i_aload_n C dX11_tries_114 1 rfl ?_
    refine s_vcL C [] vmX11_mostDrop lkX11_298 rfl rfl (by decide) hq0 (by decide) rfl rfl (Nat.le_of_ble_eq_true rfl) dX11_tries_115 (ctX11_mostDrop C.inj hq0) h (fun x7 M6 h => ?_)
    refine pf11_372 C hq0 dX11_tries_118 ?_
    refine z_gM h (fun M8 h => ?_)
    refine i_aload_n C dX11_tries_121 1 rfl ?_
    refine i_aload_n C dX11_tries_122 1 rfl ?_
    refine gf11_50 C hq0 dX11_tries_123 ?_
    refine pf11_375 C hq0 dX11_tries_126 ?_
    refine z_gM h (fun M9 h => ?_)
    refine z_iinc (n := 1) (c9 := (1 : Int32)) (by decide) h (fun x10 hx h => ?_)
    refine i_iinc (lv9 := [(4, _), (3, _), (0, _), (2, _)]) C dX11_tries_129 3 rfl hx (by decide) rfl ?_
    refine s_goto C 25 (by decide) dX11_tries_132 ?_
    exact sg_T.to (hk25 _ _ h hq0) [2, 3, 1, 0] rfl
  · refine s_goto C 129 (by decide) dX11_tries_110 ?_
    refine z_iinc (n := 1) (c9 := (1 : Int32)) (by decide) h (fun x11 hx h => ?_)
    refine i_iinc (lv9 := [(4, _), (3, _), (0, _), (2, _)]) C dX11_tries_129 3 rfl hx (by decide) rfl ?_
    refine s_goto C 25 (by decide) dX11_tries_132 ?_
    exact sg_T.to (hk25 _ _ h hq0) [2, 3, 1, 0] rfl
def bX11_tries_34 (N : Nat) (k25 : (Nat × Int32 × Int32 × Int32) → sg_M → Option (Int32 × sg_M)) (k34 : (Nat × Int32 × Int32 × Int32 × Int32) → sg_M → Option (Int32 × sg_M)) (s : Nat × Int32 × Int32 × Int32 × Int32) (M : sg_M) : Option (Int32 × sg_M) :=
  sg_b (fX11_nodes N s.1 M) (fun (x13 : Int32) (M12 : sg_M) =>
  if x13 ≤ s.2.2.2.2 then (
  sg_b (fX11_doesHold N s.1 M12) (fun (x15 : Int32) (M14 : sg_M) =>
  if x15 = 0 then (
  gX11_tries_86 N k25 s.1 s.2.1 s.2.2.2.1 s.2.2.1 (0 : Int32) M14) else (
  gX11_tries_86 N k25 s.1 s.2.1 s.2.2.2.1 s.2.2.1 (1 : Int32) M14))) else (
  if sg_ib ((6 : Int32) + s.2.2.2.2) (Yr.2.2.1 (Yr.2.2.2 s.1 30)) = true then
  sg_b (fX11_draws1 N s.1 (M12.1 (Yr.2.2.2 s.1 30) (((6 : Int32) + s.2.2.2.2)).toNatClampNeg) M12) (fun (x17 : Int32) (M16 : sg_M) =>
  if sg_ib ((6 : Int32) + s.2.2.2.2) (Yr.2.2.1 (Yr.2.2.2 s.1 1)) = true then
  sg_m (sg_uI M16 (Yr.2.2.2 s.1 1) (((6 : Int32) + s.2.2.2.2)).toNatClampNeg x17) (fun M18 : sg_M =>
  sg_m (s.2.2.2.2 + (1 : Int32)) (fun x19 : Int32 =>
  k34 (s.1, s.2.1, s.2.2.1, s.2.2.2.1, x19) M18))
  else none)
  else none))
def gX11_tries_34 (N : Nat) (k25 : (Nat × Int32 × Int32 × Int32) → sg_M → Option (Int32 × sg_M)) : (Nat × Int32 × Int32 × Int32 × Int32) → sg_M → Option (Int32 × sg_M) := sg_lp (bX11_tries_34 N k25) N
set_option maxHeartbeats 4000000 in
set_option maxRecDepth 100000 in
theorem tX11_tries_34 {ad : Nat → Nat} {X : sg_X} {N : Nat} {r : Int32 × sg_M} (C : sg_C Yr ad X cX11_tries RX11 6 6) (E : sg_eI Yr ad X cX11_tries .int r) {k25 : (Nat × Int32 × Int32 × Int32) → sg_M → Option (Int32 × sg_M)} (hk25 : ∀ (s : Nat × Int32 × Int32 × Int32) (M : sg_M), k25 s M = some r → sg_K Yr s.1 11 → sg_T Yr ad X 6 25 [(0, .ref (ad (s.1))), (2, .int (s.2.1)), (3, .int (s.2.2.1)), (4, .int (s.2.2.2))] [] M) : ∀ (s : Nat × Int32 × Int32 × Int32 × Int32) (M : sg_M), gX11_tries_34 N k25 s M = some r → sg_K Yr s.1 11 → sg_T Yr ad X 6 34 [(0, .ref (ad (s.1))), (2, .int (s.2.1)), (3, .int (s.2.2.1)), (4, .int (s.2.2.2.1)), (5, .int (s.2.2.2.2))] [] M := by
  have key : ∀ n : Nat, ∀ (s : Nat × Int32 × Int32 × Int32 × Int32) (M : sg_M), sg_lp (bX11_tries_34 N k25) n s M = some r → sg_K Yr s.1 11 → sg_T Yr ad X 6 34 [(0, .ref (ad (s.1))), (2, .int (s.2.1)), (3, .int (s.2.2.1)), (4, .int (s.2.2.2.1)), (5, .int (s.2.2.2.2))] [] M := by
    intro n
    induction n with
    | zero => intro s M h; cases h
    | succ n ih =>
      intro s M h hq0
      have h : bX11_tries_34 N k25 (sg_lp (bX11_tries_34 N k25) n) s M = some r := h
      generalize sg_lp (bX11_tries_34 N k25) n = k34 at h ih
      have hk34 := ih
      unfold bX11_tries_34 at h
      refine i_iload C dX11_tries_34 4 rfl ?_
      refine i_aload_n C dX11_tries_36 0 rfl ?_
      refine s_vcI C [] vmX11_nodes lkX11_98 rfl rfl (by decide) hq0 (by decide) rfl rfl (Nat.le_of_ble_eq_true rfl) dX11_tries_37 (ctX11_nodes C.inj hq0) h (fun x13 M12 h => ?_)
      refine s_icmp_ge C 73 (by decide) dX11_tries_40 h (fun _ h => ?_) (fun _ h => ?_)
      · refine i_iload_n C dX11_tries_73 2 rfl ?_
        refine i_aload_n C dX11_tries_74 0 rfl ?_
        refine s_vcI C [] vmX11_doesHold lkX11_334 rfl rfl (by decide) hq0 (by decide) rfl rfl (Nat.le_of_ble_eq_true rfl) dX11_tries_75 (ctX11_doesHold C.inj hq0) h (fun x15 M14 h => ?_)
        refine s_if_eq C 85 (by decide) dX11_tries_78 h (fun _ h => ?_) (fun _ h => ?_)
        · refine s_iconst C (0 : Int32) dX11_tries_85 (by decide) ?_
          exact sg_T.to (tX11_tries_86 C E hk25 _ _ _ _ _ _ h hq0) [0, 1, 3] rfl
        · refine s_iconst C (1 : Int32) dX11_tries_81 (by decide) ?_
          refine s_goto C 86 (by decide) dX11_tries_82 ?_
          exact sg_T.to (tX11_tries_86 C E hk25 _ _ _ _ _ _ h hq0) [0, 1, 3] rfl
      · refine i_aload_n C dX11_tries_43 0 rfl ?_
        refine gf11_9 C hq0 dX11_tries_44 ?_
        refine s_bipush C (6 : Int32) dX11_tries_47 (by decide) ?_
        refine i_iload C dX11_tries_49 4 rfl ?_
        refine s_iadd C dX11_tries_51 ?_
        refine i_aload_n C dX11_tries_52 0 rfl ?_
        refine i_aload_n C dX11_tries_53 0 rfl ?_
        refine gf11_63 C hq0 dX11_tries_54 ?_
        refine s_bipush C (6 : Int32) dX11_tries_57 (by decide) ?_
        refine i_iload C dX11_tries_59 4 rfl ?_
        refine s_iadd C dX11_tries_61 ?_
        refine s_iald C (ky11_30 hq0) dX11_tries_62 h (fun h => ?_)
        refine s_vcI C [_] vmX11_draws1 lkX11_447 rfl rfl (by decide) hq0 (by decide) rfl rfl (Nat.le_of_ble_eq_true rfl) dX11_tries_63 (ctX11_draws1 C.inj hq0) h (fun x17 M16 h => ?_)
        refine s_iast C (ky11_1 hq0) dX11_tries_66 h (fun h => ?_)
        refine z_gM h (fun M18 h => ?_)
        refine z_iinc (n := 1) (c9 := (1 : Int32)) (by decide) h (fun x19 hx h => ?_)
        refine i_iinc (lv9 := [(5, _), (0, _), (2, _), (3, _), (4, _)]) C dX11_tries_67 4 rfl hx (by decide) rfl ?_
        refine s_goto C 34 (by decide) dX11_tries_70 ?_
        exact sg_T.to (hk34 _ _ h hq0) [1, 2, 3, 4, 0] rfl
  exact key N
def bX11_tries_25 (N : Nat)  (k25 : (Nat × Int32 × Int32 × Int32) → sg_M → Option (Int32 × sg_M)) (s : Nat × Int32 × Int32 × Int32) (M : sg_M) : Option (Int32 × sg_M) :=
  if s.2.1 ≤ s.2.2.2 then (
  sg_bv (fX11_takesOut N s.1 M) (fun M20 : sg_M =>
  some (s.2.2.1, M20))) else (
  sg_m (0 : Int32) (fun x21 : Int32 =>
  gX11_tries_34 N k25 (s.1, s.2.1, s.2.2.1, s.2.2.2, x21) M))
def gX11_tries_25 (N : Nat)  : (Nat × Int32 × Int32 × Int32) → sg_M → Option (Int32 × sg_M) := sg_lp (bX11_tries_25 N ) N
set_option maxHeartbeats 4000000 in
set_option maxRecDepth 100000 in
theorem tX11_tries_25 {ad : Nat → Nat} {X : sg_X} {N : Nat} {r : Int32 × sg_M} (C : sg_C Yr ad X cX11_tries RX11 6 6) (E : sg_eI Yr ad X cX11_tries .int r)  : ∀ (s : Nat × Int32 × Int32 × Int32) (M : sg_M), gX11_tries_25 N s M = some r → sg_K Yr s.1 11 → sg_T Yr ad X 6 25 [(0, .ref (ad (s.1))), (2, .int (s.2.1)), (3, .int (s.2.2.1)), (4, .int (s.2.2.2))] [] M := by
  have key : ∀ n : Nat, ∀ (s : Nat × Int32 × Int32 × Int32) (M : sg_M), sg_lp (bX11_tries_25 N) n s M = some r → sg_K Yr s.1 11 → sg_T Yr ad X 6 25 [(0, .ref (ad (s.1))), (2, .int (s.2.1)), (3, .int (s.2.2.1)), (4, .int (s.2.2.2))] [] M := by
    intro n
    induction n with
    | zero => intro s M h; cases h
    | succ n ih =>
      intro s M h hq0
      have h : bX11_tries_25 N (sg_lp (bX11_tries_25 N) n) s M = some r := h
      generalize sg_lp (bX11_tries_25 N) n = k25 at h ih
      have hk25 := ih
      unfold bX11_tries_25 at h
      refine i_iload C dX11_tries_25 3 rfl ?_
      refine i_iload_n C dX11_tries_27 1 rfl ?_
      refine s_icmp_ge C 135 (by decide) dX11_tries_28 h (fun _ h => ?_) (fun _ h => ?_)
      · refine i_aload_n C dX11_tries_135 0 rfl ?_
        refine s_vcV C [] vmX11_takesOut lkX11_366 rfl rfl (by decide) hq0 (by decide) rfl rfl (Nat.le_of_ble_eq_true rfl) dX11_tries_136 (ctX11_takesOut C.inj hq0) h (fun M20 h => ?_)
        refine i_iload_n C dX11_tries_139 2 rfl ?_
        exact s_iret C E dX11_tries_140 h
      · refine s_iconst C (0 : Int32) dX11_tries_31 (by decide) ?_
        refine z_gi h (fun x21 h => ?_)
        refine i_istore (lv9 := [(5, _), (0, _), (2, _), (3, _), (4, _)]) C dX11_tries_32 (by decide) rfl ?_
        exact sg_T.to (tX11_tries_34 C E hk25 _ _ h hq0) [1, 2, 3, 4, 0] rfl
  exact key N
def fX11_tries (N : Nat) (a0_ : Nat) (x1_ : Int32) (x2_ : Int32) (M : sg_M) : Option (Int32 × sg_M) :=
  sg_bv (fX11_puts N a0_ M) (fun M22 : sg_M =>
  sg_m (sg_uJ M22 a0_ 37 (x1_).toInt64) (fun M23 : sg_M =>
  sg_m (0 : Int32) (fun x24 : Int32 =>
  sg_m (sg_uJ M23 a0_ 32 (0 : Int64)) (fun M25 : sg_M =>
  sg_m (sg_uJ M25 a0_ 33 (1 : Int64)) (fun M26 : sg_M =>
  sg_m (0 : Int32) (fun x27 : Int32 =>
  gX11_tries_25 N (a0_, x2_, x24, x27) M26))))))
set_option maxHeartbeats 4000000 in
set_option maxRecDepth 100000 in
theorem tX11_tries {ad : Nat → Nat} {X : sg_X} {N : Nat} {r : Int32 × sg_M} (C : sg_C Yr ad X cX11_tries RX11 6 6) (E : sg_eI Yr ad X cX11_tries .int r) : ∀ (a0_ : Nat) (x1_ : Int32) (x2_ : Int32) (M : sg_M), sg_K Yr a0_ 11 → fX11_tries N a0_ x1_ x2_ M = some r → sg_T Yr ad X 6 0 [(0, .ref (ad a0_)), (1, .int x1_), (2, .int x2_)] [] M := by
  intro a0_ x1_ x2_ M hq0 h
  unfold fX11_tries at h
  refine i_aload_n C dX11_tries_0 0 rfl ?_
  refine s_vcV C [] vmX11_puts lkX11_360 rfl rfl (by decide) hq0 (by decide) rfl rfl (Nat.le_of_ble_eq_true rfl) dX11_tries_1 (ctX11_puts C.inj hq0) h (fun M22 h => ?_)
  refine i_aload_n C dX11_tries_4 0 rfl ?_
  refine i_iload_n C dX11_tries_5 1 rfl ?_
  refine s_i2l C dX11_tries_6 ?_
  refine pf11_438 C hq0 dX11_tries_7 ?_
  refine z_gM h (fun M23 h => ?_)
  refine s_iconst C (0 : Int32) dX11_tries_10 (by decide) ?_
  refine z_gi h (fun x24 h => ?_)
  refine i_istore_n (lv9 := [(3, _), (0, _), (1, _), (2, _)]) C 3 dX11_tries_11 rfl (by decide) rfl ?_
  refine i_aload_n C dX11_tries_12 1 rfl ?_
  refine s_lconst C (0 : Int64) dX11_tries_13 (by decide) ?_
  refine pf11_372 C hq0 dX11_tries_14 ?_
  refine z_gM h (fun M25 h => ?_)
  refine i_aload_n C dX11_tries_17 1 rfl ?_
  refine s_lconst C (1 : Int64) dX11_tries_18 (by decide) ?_
  refine pf11_375 C hq0 dX11_tries_19 ?_
  refine z_gM h (fun M26 h => ?_)
  refine s_iconst C (0 : Int32) dX11_tries_22 (by decide) ?_
  refine z_gi h (fun x27 h => ?_)
  refine i_istore (lv9 := [(4, _), (3, _), (0, _), (1, _), (2, _)]) C dX11_tries_23 (by decide) rfl ?_
  exact sg_T.to (tX11_tries_25 C E _ _ h hq0) [2, 4, 1, 0] rfl
theorem ctX11_tries {ad : Nat → Nat} {V : sg_V} {N : Nat} (hi : sg_inj Yr ad) {a0_ : Nat} {x1_ : Int32} {x2_ : Int32} {M : sg_M} (hq0 : sg_K Yr a0_ 11) : ∀ res, fX11_tries N a0_ x1_ x2_ M = some res → sg_cI Yr ad V yX11_tries cX11_tries 6 .int 6 [.ref (ad a0_), .int x1_, .int x2_] M res := fun res h => sg_bodyI (by decide) hi (Nat.le_of_ble_eq_true rfl) (fun X hX C E => by subst hX; exact tX11_tries C E _ _ _  _ hq0 h)
def fX11_chance (N : Nat) (a0_ : Nat) (x1_ : Int32) (x2_ : Int32) (M : sg_M) : Option (Int32 × sg_M) :=
  sg_b (fX11_isGrid N a0_ M) (fun (x2 : Int32) (M1 : sg_M) =>
  if x2 = 0 then (
  some ((-2 : Int32), M1)) else (
  if x1_ < 0 then (
  some ((-2 : Int32), M1)) else (
  sg_b (fX11_in N (x2_).toInt64 (1 : Int64) (100 : Int64) M1) (fun (x4 : Int32) (M3 : sg_M) =>
  if x4 = 0 then (
  some ((-2 : Int32), M3)) else (
  sg_b (fX11_tries N a0_ x1_ x2_ M3) (fun (x6 : Int32) (M5 : sg_M) =>
  some (x6, M5)))))))
set_option maxHeartbeats 4000000 in
set_option maxRecDepth 100000 in
theorem tX11_chance {ad : Nat → Nat} {X : sg_X} {N : Nat} {r : Int32 × sg_M} (C : sg_C Yr ad X cX11_chance RX11 3 7) (E : sg_eI Yr ad X cX11_chance .int r) : ∀ (a0_ : Nat) (x1_ : Int32) (x2_ : Int32) (M : sg_M), sg_K Yr a0_ 11 → fX11_chance N a0_ x1_ x2_ M = some r → sg_T Yr ad X 3 0 [(0, .ref (ad a0_)), (1, .int x1_), (2, .int x2_)] [] M := by
  intro a0_ x1_ x2_ M hq0 h
  unfold fX11_chance at h
  refine i_aload_n C dX11_chance_0 0 rfl ?_
  refine s_vcI C [] vmX11_isGrid lkX11_109 rfl rfl (by decide) hq0 (by decide) rfl rfl (Nat.le_of_ble_eq_true rfl) dX11_chance_1 (ctX11_isGrid C.inj hq0) h (fun x2 M1 h => ?_)
  refine s_if_eq C 32 (by decide) dX11_chance_4 h (fun _ h => ?_) (fun _ h => ?_)
  · refine s_bipush C (-2 : Int32) dX11_chance_32 (by decide) ?_
    exact s_iret C E dX11_chance_34 h
  · refine i_iload_n C dX11_chance_7 1 rfl ?_
    refine s_if_lt C 32 (by decide) dX11_chance_8 h (fun _ h => ?_) (fun _ h => ?_)
    · refine s_bipush C (-2 : Int32) dX11_chance_32 (by decide) ?_
      exact s_iret C E dX11_chance_34 h
    · refine i_iload_n C dX11_chance_11 2 rfl ?_
      refine s_i2l C dX11_chance_12 ?_
      refine s_lconst C (1 : Int64) dX11_chance_13 (by decide) ?_
      refine s_ldc2 C (100 : Int64) kl_X11_358 dX11_chance_14 ?_
      refine s_scI C [_, _, _] smX11_in lkX11_87 (by decide) rfl rfl (Nat.le_of_ble_eq_true rfl) dX11_chance_17 (ctX11_in C.inj ) h (fun x4 M3 h => ?_)
      refine s_if_eq C 32 (by decide) dX11_chance_20 h (fun _ h => ?_) (fun _ h => ?_)
      · refine s_bipush C (-2 : Int32) dX11_chance_32 (by decide) ?_
        exact s_iret C E dX11_chance_34 h
      · refine i_aload_n C dX11_chance_23 0 rfl ?_
        refine i_iload_n C dX11_chance_24 1 rfl ?_
        refine i_iload_n C dX11_chance_25 2 rfl ?_
        refine s_vcI C [_, _] vmX11_tries lkX11_450 rfl rfl (by decide) hq0 (by decide) rfl rfl (Nat.le_of_ble_eq_true rfl) dX11_chance_26 (ctX11_tries C.inj hq0) h (fun x6 M5 h => ?_)
        refine s_goto C 34 (by decide) dX11_chance_29 ?_
        exact s_iret C E dX11_chance_34 h
theorem ctX11_chance {ad : Nat → Nat} {V : sg_V} {N : Nat} (hi : sg_inj Yr ad) {a0_ : Nat} {x1_ : Int32} {x2_ : Int32} {M : sg_M} (hq0 : sg_K Yr a0_ 11) : ∀ res, fX11_chance N a0_ x1_ x2_ M = some res → sg_cI Yr ad V yX11_chance cX11_chance 3 .int 7 [.ref (ad a0_), .int x1_, .int x2_] M res := fun res h => sg_bodyI (by decide) hi (Nat.le_of_ble_eq_true rfl) (fun X hX C E => by subst hX; exact tX11_chance C E _ _ _  _ hq0 h)
def fX11_luck (N : Nat) (a0_ : Nat) (x1_ : Int32) (x2_ : Int32) (x3_ : Int32) (M : sg_M) : Option (Int64 × sg_M) :=
  sg_b (fX11_isGrid N a0_ M) (fun (x2 : Int32) (M1 : sg_M) =>
  if x2 = 0 then (
  some ((-2 : Int64), M1)) else (
  if x1_ < 0 then (
  some ((-2 : Int64), M1)) else (
  sg_b (fX11_in N (x2_).toInt64 (1 : Int64) (100 : Int64) M1) (fun (x4 : Int32) (M3 : sg_M) =>
  if x4 = 0 then (
  some ((-2 : Int64), M3)) else (
  sg_b (fX11_isPart N x3_ M3) (fun (x6 : Int32) (M5 : sg_M) =>
  if x6 = 0 then (
  some ((-2 : Int64), M5)) else (
  sg_b (fX11_tries N a0_ x1_ x2_ M5) (fun (x8 : Int32) (M7 : sg_M) =>
  sg_b (fX11_part N (M7.2 a0_ 32) (M7.2 a0_ 33) x3_ M7) (fun (x10 : Int64) (M9 : sg_M) =>
  some (x10, M9))))))))))
set_option maxHeartbeats 4000000 in
set_option maxRecDepth 100000 in
theorem tX11_luck {ad : Nat → Nat} {X : sg_X} {N : Nat} {r : Int64 × sg_M} (C : sg_C Yr ad X cX11_luck RX11 4 7) (E : sg_eL Yr ad X cX11_luck r) : ∀ (a0_ : Nat) (x1_ : Int32) (x2_ : Int32) (x3_ : Int32) (M : sg_M), sg_K Yr a0_ 11 → fX11_luck N a0_ x1_ x2_ x3_ M = some r → sg_T Yr ad X 4 0 [(0, .ref (ad a0_)), (1, .int x1_), (2, .int x2_), (3, .int x3_)] [] M := by
  intro a0_ x1_ x2_ x3_ M hq0 h
  unfold fX11_luck at h
  refine i_aload_n C dX11_luck_0 0 rfl ?_
  refine s_vcI C [] vmX11_isGrid lkX11_109 rfl rfl (by decide) hq0 (by decide) rfl rfl (Nat.le_of_ble_eq_true rfl) dX11_luck_1 (ctX11_isGrid C.inj hq0) h (fun x2 M1 h => ?_)
  refine s_if_eq C 30 (by decide) dX11_luck_4 h (fun _ h => ?_) (fun _ h => ?_)
  · refine s_ldc2 C (-2 : Int64) kl_X11_316 dX11_luck_30 ?_
    exact s_lret C E dX11_luck_33 h
  · refine i_iload_n C dX11_luck_7 1 rfl ?_
    refine s_if_lt C 30 (by decide) dX11_luck_8 h (fun _ h => ?_) (fun _ h => ?_)
    · refine s_ldc2 C (-2 : Int64) kl_X11_316 dX11_luck_30 ?_
      exact s_lret C E dX11_luck_33 h
    · refine i_iload_n C dX11_luck_11 2 rfl ?_
      refine s_i2l C dX11_luck_12 ?_
      refine s_lconst C (1 : Int64) dX11_luck_13 (by decide) ?_
      refine s_ldc2 C (100 : Int64) kl_X11_358 dX11_luck_14 ?_
      refine s_scI C [_, _, _] smX11_in lkX11_87 (by decide) rfl rfl (Nat.le_of_ble_eq_true rfl) dX11_luck_17 (ctX11_in C.inj ) h (fun x4 M3 h => ?_)
      refine s_if_eq C 30 (by decide) dX11_luck_20 h (fun _ h => ?_) (fun _ h => ?_)
      · refine s_ldc2 C (-2 : Int64) kl_X11_316 dX11_luck_30 ?_
        exact s_lret C E dX11_luck_33 h
      · refine i_iload_n C dX11_luck_23 3 rfl ?_
        refine s_scI C [_] smX11_isPart lkX11_313 (by decide) rfl rfl (Nat.le_of_ble_eq_true rfl) dX11_luck_24 (ctX11_isPart C.inj ) h (fun x6 M5 h => ?_)
        refine s_if_ne C 34 (by decide) dX11_luck_27 h (fun _ h => ?_) (fun _ h => ?_)
        · refine s_ldc2 C (-2 : Int64) kl_X11_316 dX11_luck_30 ?_
          exact s_lret C E dX11_luck_33 h
        · refine i_aload_n C dX11_luck_34 0 rfl ?_
          refine i_iload_n C dX11_luck_35 1 rfl ?_
          refine i_iload_n C dX11_luck_36 2 rfl ?_
          refine s_vcI C [_, _] vmX11_tries lkX11_450 rfl rfl (by decide) hq0 (by decide) rfl rfl (Nat.le_of_ble_eq_true rfl) dX11_luck_37 (ctX11_tries C.inj hq0) h (fun x8 M7 h => ?_)
          refine s_pop C dX11_luck_40 rfl ?_
          refine i_aload_n C dX11_luck_41 0 rfl ?_
          refine gf11_372 C hq0 dX11_luck_42 ?_
          refine i_aload_n C dX11_luck_45 0 rfl ?_
          refine gf11_375 C hq0 dX11_luck_46 ?_
          refine i_iload_n C dX11_luck_49 3 rfl ?_
          refine s_scL C [_, _, _] smX11_part lkX11_320 (by decide) rfl rfl (Nat.le_of_ble_eq_true rfl) dX11_luck_50 (ctX11_part C.inj ) h (fun x10 M9 h => ?_)
          exact s_lret C E dX11_luck_53 h
theorem ctX11_luck {ad : Nat → Nat} {V : sg_V} {N : Nat} (hi : sg_inj Yr ad) {a0_ : Nat} {x1_ : Int32} {x2_ : Int32} {x3_ : Int32} {M : sg_M} (hq0 : sg_K Yr a0_ 11) : ∀ res, fX11_luck N a0_ x1_ x2_ x3_ M = some res → sg_cL Yr ad V yX11_luck cX11_luck 4 7 [.ref (ad a0_), .int x1_, .int x2_, .int x3_] M res := fun res h => sg_bodyL (by decide) hi (Nat.le_of_ble_eq_true rfl) (fun X hX C E => by subst hX; exact tX11_luck C E _ _ _ _  _ hq0 h)
def fX11_without (N : Nat) (a0_ : Nat) (x1_ : Int32) (x2_ : Int32) (M : sg_M) : Option (Int64 × sg_M) :=
  sg_b (fX11_isStrap N a0_ x1_ M) (fun (x2 : Int32) (M1 : sg_M) =>
  if x2 = 0 then (
  some ((-2 : Int64), M1)) else (
  sg_b (fX11_isPart N x2_ M1) (fun (x4 : Int32) (M3 : sg_M) =>
  if x4 = 0 then (
  some ((-2 : Int64), M3)) else (
  if sg_ib ((28 : Int32) + x1_) (Yr.2.2.1 (Yr.2.2.2 a0_ 1)) = true then
  sg_m (M3.1 (Yr.2.2.2 a0_ 1) (((28 : Int32) + x1_)).toNatClampNeg) (fun x5 : Int32 =>
  if sg_ib ((28 : Int32) + x1_) (Yr.2.2.1 (Yr.2.2.2 a0_ 1)) = true then
  sg_m (sg_uI M3 (Yr.2.2.2 a0_ 1) (((28 : Int32) + x1_)).toNatClampNeg (0 : Int32)) (fun M6 : sg_M =>
  sg_bv (fX11_lays N a0_ M6) (fun M7 : sg_M =>
  sg_b (fX11_mostDrop N a0_ M7) (fun (x9 : Int64) (M8 : sg_M) =>
  sg_b (fX11_part N x9 (M8.2 a0_ 26) x2_ M8) (fun (x11 : Int64) (M10 : sg_M) =>
  sg_m x11 (fun x12 : Int64 =>
  if sg_ib ((28 : Int32) + x1_) (Yr.2.2.1 (Yr.2.2.2 a0_ 1)) = true then
  sg_m (sg_uI M10 (Yr.2.2.2 a0_ 1) (((28 : Int32) + x1_)).toNatClampNeg x5) (fun M13 : sg_M =>
  some (x12, M13))
  else none)))))
  else none)
  else none))))
set_option maxHeartbeats 4000000 in
set_option maxRecDepth 100000 in
theorem tX11_without {ad : Nat → Nat} {X : sg_X} {N : Nat} {r : Int64 × sg_M} (C : sg_C Yr ad X cX11_without RX11 6 5) (E : sg_eL Yr ad X cX11_without r) : ∀ (a0_ : Nat) (x1_ : Int32) (x2_ : Int32) (M : sg_M), sg_K Yr a0_ 11 → fX11_without N a0_ x1_ x2_ M = some r → sg_T Yr ad X 6 0 [(0, .ref (ad a0_)), (1, .int x1_), (2, .int x2_)] [] M := by
  intro a0_ x1_ x2_ M hq0 h
  unfold fX11_without at h
  refine i_aload_n C dX11_without_0 0 rfl ?_
  refine i_iload_n C dX11_without_1 1 rfl ?_
  refine s_vcI C [_] vmX11_isStrap lkX11_305 rfl rfl (by decide) hq0 (by decide) rfl rfl (Nat.le_of_ble_eq_true rfl) dX11_without_2 (ctX11_isStrap C.inj hq0) h (fun x2 M1 h => ?_)
  refine s_if_eq C 15 (by decide) dX11_without_5 h (fun _ h => ?_) (fun _ h => ?_)
  · refine s_ldc2 C (-2 : Int64) kl_X11_316 dX11_without_15 ?_
    exact s_lret C E dX11_without_18 h
  · refine i_iload_n C dX11_without_8 2 rfl ?_
    refine s_scI C [_] smX11_isPart lkX11_313 (by decide) rfl rfl (Nat.le_of_ble_eq_true rfl) dX11_without_9 (ctX11_isPart C.inj ) h (fun x4 M3 h => ?_)
    refine s_if_ne C 19 (by decide) dX11_without_12 h (fun _ h => ?_) (fun _ h => ?_)
    · refine s_ldc2 C (-2 : Int64) kl_X11_316 dX11_without_15 ?_
      exact s_lret C E dX11_without_18 h
    · refine i_aload_n C dX11_without_19 0 rfl ?_
      refine gf11_9 C hq0 dX11_without_20 ?_
      refine s_bipush C (28 : Int32) dX11_without_23 (by decide) ?_
      refine i_iload_n C dX11_without_25 1 rfl ?_
      refine s_iadd C dX11_without_26 ?_
      refine s_iald C (ky11_1 hq0) dX11_without_27 h (fun h => ?_)
      refine z_gi h (fun x5 h => ?_)
      refine i_istore_n (lv9 := [(3, _), (0, _), (1, _), (2, _)]) C 3 dX11_without_28 rfl (by decide) rfl ?_
      refine i_aload_n C dX11_without_29 1 rfl ?_
      refine gf11_9 C hq0 dX11_without_30 ?_
      refine s_bipush C (28 : Int32) dX11_without_33 (by decide) ?_
      refine i_iload_n C dX11_without_35 2 rfl ?_
      refine s_iadd C dX11_without_36 ?_
      refine s_iconst C (0 : Int32) dX11_without_37 (by decide) ?_
      refine s_iast C (ky11_1 hq0) dX11_without_38 h (fun h => ?_)
      refine z_gM h (fun M6 h => ?_)
      refine i_aload_n C dX11_without_39 1 rfl ?_
      refine s_vcV C [] vmX11_lays lkX11_292 rfl rfl (by decide) hq0 (by decide) rfl rfl (Nat.le_of_ble_eq_true rfl) dX11_without_40 (ctX11_lays C.inj hq0) h (fun M7 h => ?_)
      refine i_aload_n C dX11_without_43 1 rfl ?_
      refine s_vcL C [] vmX11_mostDrop lkX11_298 rfl rfl (by decide) hq0 (by decide) rfl rfl (Nat.le_of_ble_eq_true rfl) dX11_without_44 (ctX11_mostDrop C.inj hq0) h (fun x9 M8 h => ?_)
      refine i_aload_n C dX11_without_47 1 rfl ?_
      refine gf11_50 C hq0 dX11_without_48 ?_
      refine i_iload_n C dX11_without_51 3 rfl ?_
      refine s_scL C [_, _, _] smX11_part lkX11_320 (by decide) rfl rfl (Nat.le_of_ble_eq_true rfl) dX11_without_52 (ctX11_part C.inj ) h (fun x11 M10 h => ?_)
      refine z_gl h (fun x12 h => ?_)
      refine i_lstore (lv9 := [(4, _), (3, _), (0, _), (1, _), (2, _)]) C dX11_without_55 (by decide) rfl ?_
      refine i_aload_n C dX11_without_57 2 rfl ?_
      refine gf11_9 C hq0 dX11_without_58 ?_
      refine s_bipush C (28 : Int32) dX11_without_61 (by decide) ?_
      refine i_iload_n C dX11_without_63 3 rfl ?_
      refine s_iadd C dX11_without_64 ?_
      refine i_iload_n C dX11_without_65 1 rfl ?_
      refine s_iast C (ky11_1 hq0) dX11_without_66 h (fun h => ?_)
      refine z_gM h (fun M13 h => ?_)
      refine i_lload C dX11_without_67 0 rfl ?_
      exact s_lret C E dX11_without_69 h
theorem ctX11_without {ad : Nat → Nat} {V : sg_V} {N : Nat} (hi : sg_inj Yr ad) {a0_ : Nat} {x1_ : Int32} {x2_ : Int32} {M : sg_M} (hq0 : sg_K Yr a0_ 11) : ∀ res, fX11_without N a0_ x1_ x2_ M = some res → sg_cL Yr ad V yX11_without cX11_without 6 5 [.ref (ad a0_), .int x1_, .int x2_] M res := fun res h => sg_bodyL (by decide) hi (Nat.le_of_ble_eq_true rfl) (fun X hX C E => by subst hX; exact tX11_without C E _ _ _  _ hq0 h)
def fX11_lost (N : Nat) (a0_ : Nat) (x1_ : Int32) (M : sg_M) : Option (Int32 × sg_M) :=
  sg_b (fX11_isStrap N a0_ x1_ M) (fun (x2 : Int32) (M1 : sg_M) =>
  if x2 = 0 then (
  some ((-2 : Int32), M1)) else (
  if sg_ib ((28 : Int32) + x1_) (Yr.2.2.1 (Yr.2.2.2 a0_ 1)) = true then
  sg_m (M1.1 (Yr.2.2.2 a0_ 1) (((28 : Int32) + x1_)).toNatClampNeg) (fun x3 : Int32 =>
  if sg_ib ((28 : Int32) + x1_) (Yr.2.2.1 (Yr.2.2.2 a0_ 1)) = true then
  sg_m (sg_uI M1 (Yr.2.2.2 a0_ 1) (((28 : Int32) + x1_)).toNatClampNeg (0 : Int32)) (fun M4 : sg_M =>
  sg_bv (fX11_lays N a0_ M4) (fun M5 : sg_M =>
  if sg_ib ((28 : Int32) + x1_) (Yr.2.2.1 (Yr.2.2.2 a0_ 1)) = true then
  sg_m (sg_uI M5 (Yr.2.2.2 a0_ 1) (((28 : Int32) + x1_)).toNatClampNeg x3) (fun M6 : sg_M =>
  some ((M6.1 a0_ 21), M6))
  else none))
  else none)
  else none))
set_option maxHeartbeats 4000000 in
set_option maxRecDepth 100000 in
theorem tX11_lost {ad : Nat → Nat} {X : sg_X} {N : Nat} {r : Int32 × sg_M} (C : sg_C Yr ad X cX11_lost RX11 3 5) (E : sg_eI Yr ad X cX11_lost .int r) : ∀ (a0_ : Nat) (x1_ : Int32) (M : sg_M), sg_K Yr a0_ 11 → fX11_lost N a0_ x1_ M = some r → sg_T Yr ad X 3 0 [(0, .ref (ad a0_)), (1, .int x1_)] [] M := by
  intro a0_ x1_ M hq0 h
  unfold fX11_lost at h
  refine i_aload_n C dX11_lost_0 0 rfl ?_
  refine i_iload_n C dX11_lost_1 1 rfl ?_
  refine s_vcI C [_] vmX11_isStrap lkX11_305 rfl rfl (by decide) hq0 (by decide) rfl rfl (Nat.le_of_ble_eq_true rfl) dX11_lost_2 (ctX11_isStrap C.inj hq0) h (fun x2 M1 h => ?_)
  refine s_if_ne C 11 (by decide) dX11_lost_5 h (fun _ h => ?_) (fun _ h => ?_)
  · refine s_bipush C (-2 : Int32) dX11_lost_8 (by decide) ?_
    exact s_iret C E dX11_lost_10 h
  · refine i_aload_n C dX11_lost_11 0 rfl ?_
    refine gf11_9 C hq0 dX11_lost_12 ?_
    refine s_bipush C (28 : Int32) dX11_lost_15 (by decide) ?_
    refine i_iload_n C dX11_lost_17 1 rfl ?_
    refine s_iadd C dX11_lost_18 ?_
    refine s_iald C (ky11_1 hq0) dX11_lost_19 h (fun h => ?_)
    refine z_gi h (fun x3 h => ?_)
    refine i_istore_n (lv9 := [(2, _), (0, _), (1, _)]) C 2 dX11_lost_20 rfl (by decide) rfl ?_
    refine i_aload_n C dX11_lost_21 1 rfl ?_
    refine gf11_9 C hq0 dX11_lost_22 ?_
    refine s_bipush C (28 : Int32) dX11_lost_25 (by decide) ?_
    refine i_iload_n C dX11_lost_27 2 rfl ?_
    refine s_iadd C dX11_lost_28 ?_
    refine s_iconst C (0 : Int32) dX11_lost_29 (by decide) ?_
    refine s_iast C (ky11_1 hq0) dX11_lost_30 h (fun h => ?_)
    refine z_gM h (fun M4 h => ?_)
    refine i_aload_n C dX11_lost_31 1 rfl ?_
    refine s_vcV C [] vmX11_lays lkX11_292 rfl rfl (by decide) hq0 (by decide) rfl rfl (Nat.le_of_ble_eq_true rfl) dX11_lost_32 (ctX11_lays C.inj hq0) h (fun M5 h => ?_)
    refine i_aload_n C dX11_lost_35 1 rfl ?_
    refine gf11_9 C hq0 dX11_lost_36 ?_
    refine s_bipush C (28 : Int32) dX11_lost_39 (by decide) ?_
    refine i_iload_n C dX11_lost_41 2 rfl ?_
    refine s_iadd C dX11_lost_42 ?_
    refine i_iload_n C dX11_lost_43 0 rfl ?_
    refine s_iast C (ky11_1 hq0) dX11_lost_44 h (fun h => ?_)
    refine z_gM h (fun M6 h => ?_)
    refine i_aload_n C dX11_lost_45 1 rfl ?_
    refine gf11_266 C hq0 dX11_lost_46 ?_
    exact s_iret C E dX11_lost_49 h
theorem ctX11_lost {ad : Nat → Nat} {V : sg_V} {N : Nat} (hi : sg_inj Yr ad) {a0_ : Nat} {x1_ : Int32} {M : sg_M} (hq0 : sg_K Yr a0_ 11) : ∀ res, fX11_lost N a0_ x1_ M = some res → sg_cI Yr ad V yX11_lost cX11_lost 3 .int 5 [.ref (ad a0_), .int x1_] M res := fun res h => sg_bodyI (by decide) hi (Nat.le_of_ble_eq_true rfl) (fun X hX C E => by subst hX; exact tX11_lost C E _ _  _ hq0 h)
def gX11_vital_74 (N : Nat) (k29 : (Nat × Int32 × Int32) → sg_M → Option (Int32 × sg_M)) (a0_ : Nat) (x1_ : Int32) (x2_ : Int32) (x3_ : Int32) (M : sg_M) : Option (Int32 × sg_M) :=
  if sg_ib ((28 : Int32) + x2_) (Yr.2.2.1 (Yr.2.2.2 a0_ 1)) = true then
  sg_m (sg_uI M (Yr.2.2.2 a0_ 1) (((28 : Int32) + x2_)).toNatClampNeg x3_) (fun M1 : sg_M =>
  sg_m (x2_ + (1 : Int32)) (fun x2 : Int32 =>
  k29 (a0_, x1_, x2) M1))
  else none
set_option maxHeartbeats 4000000 in
set_option maxRecDepth 100000 in
theorem tX11_vital_74 {ad : Nat → Nat} {X : sg_X} {N : Nat} {r : Int32 × sg_M} (C : sg_C Yr ad X cX11_vital RX11 4 6) (E : sg_eI Yr ad X cX11_vital .int r) {k29 : (Nat × Int32 × Int32) → sg_M → Option (Int32 × sg_M)} (hk29 : ∀ (s : Nat × Int32 × Int32) (M : sg_M), k29 s M = some r → sg_K Yr s.1 11 → sg_T Yr ad X 4 29 [(0, .ref (ad (s.1))), (1, .int (s.2.1)), (2, .int (s.2.2))] [] M) : ∀ (a0_ : Nat) (x1_ : Int32) (x2_ : Int32) (x3_ : Int32) (M : sg_M), gX11_vital_74 N k29 a0_ x1_ x2_ x3_ M = some r → sg_K Yr a0_ 11 → sg_T Yr ad X 4 74 [(0, .ref (ad a0_)), (1, .int x1_), (2, .int x2_), (3, .int x3_)] [] M := by
  intro a0_ x1_ x2_ x3_ M h hq0
  unfold gX11_vital_74 at h
  refine i_aload_n C dX11_vital_74 0 rfl ?_
  refine gf11_9 C hq0 dX11_vital_75 ?_
  refine s_bipush C (28 : Int32) dX11_vital_78 (by decide) ?_
  refine i_iload_n C dX11_vital_80 2 rfl ?_
  refine s_iadd C dX11_vital_81 ?_
  refine i_iload_n C dX11_vital_82 3 rfl ?_
  refine s_iast C (ky11_1 hq0) dX11_vital_83 h (fun h => ?_)
  refine z_gM h (fun M1 h => ?_)
  refine z_iinc (n := 1) (c9 := (1 : Int32)) (by decide) h (fun x2 hx h => ?_)
  refine i_iinc (lv9 := [(2, _), (0, _), (1, _), (3, _)]) C dX11_vital_84 2 rfl hx (by decide) rfl ?_
  refine s_goto C 29 (by decide) dX11_vital_87 ?_
  exact sg_T.to (hk29 _ _ h hq0) [1, 2, 0] rfl
def bX11_vital_29 (N : Nat)  (k29 : (Nat × Int32 × Int32) → sg_M → Option (Int32 × sg_M)) (s : Nat × Int32 × Int32) (M : sg_M) : Option (Int32 × sg_M) :=
  sg_b (fX11_straps N s.1 M) (fun (x4 : Int32) (M3 : sg_M) =>
  if x4 ≤ s.2.2 then (
  some (s.2.1, M3)) else (
  if sg_ib ((28 : Int32) + s.2.2) (Yr.2.2.1 (Yr.2.2.2 s.1 1)) = true then
  sg_m (M3.1 (Yr.2.2.2 s.1 1) (((28 : Int32) + s.2.2)).toNatClampNeg) (fun x5 : Int32 =>
  if sg_ib ((28 : Int32) + s.2.2) (Yr.2.2.1 (Yr.2.2.2 s.1 1)) = true then
  sg_m (sg_uI M3 (Yr.2.2.2 s.1 1) (((28 : Int32) + s.2.2)).toNatClampNeg (0 : Int32)) (fun M6 : sg_M =>
  if x5 ≤ 0 then (
  gX11_vital_74 N k29 s.1 s.2.1 s.2.2 x5 M6) else (
  sg_b (fX11_scores N s.1 M6) (fun (x8 : Int32) (M7 : sg_M) =>
  if x8 ≤ 0 then (
  gX11_vital_74 N k29 s.1 s.2.1 s.2.2 x5 M7) else (
  sg_m s.2.2 (fun x9 : Int32 =>
  sg_bv (fX11_keeps N s.1 M7) (fun M10 : sg_M =>
  gX11_vital_74 N k29 s.1 x9 s.2.2 x5 M10))))))
  else none)
  else none))
def gX11_vital_29 (N : Nat)  : (Nat × Int32 × Int32) → sg_M → Option (Int32 × sg_M) := sg_lp (bX11_vital_29 N ) N
set_option maxHeartbeats 4000000 in
set_option maxRecDepth 100000 in
theorem tX11_vital_29 {ad : Nat → Nat} {X : sg_X} {N : Nat} {r : Int32 × sg_M} (C : sg_C Yr ad X cX11_vital RX11 4 6) (E : sg_eI Yr ad X cX11_vital .int r)  : ∀ (s : Nat × Int32 × Int32) (M : sg_M), gX11_vital_29 N s M = some r → sg_K Yr s.1 11 → sg_T Yr ad X 4 29 [(0, .ref (ad (s.1))), (1, .int (s.2.1)), (2, .int (s.2.2))] [] M := by
  have key : ∀ n : Nat, ∀ (s : Nat × Int32 × Int32) (M : sg_M), sg_lp (bX11_vital_29 N) n s M = some r → sg_K Yr s.1 11 → sg_T Yr ad X 4 29 [(0, .ref (ad (s.1))), (1, .int (s.2.1)), (2, .int (s.2.2))] [] M := by
    intro n
    induction n with
    | zero => intro s M h; cases h
    | succ n ih =>
      intro s M h hq0
      have h : bX11_vital_29 N (sg_lp (bX11_vital_29 N) n) s M = some r := h
      generalize sg_lp (bX11_vital_29 N) n = k29 at h ih
      have hk29 := ih
      unfold bX11_vital_29 at h
      refine i_iload_n C dX11_vital_29 2 rfl ?_
      refine i_aload_n C dX11_vital_30 0 rfl ?_
      refine s_vcI C [] vmX11_straps lkX11_116 rfl rfl (by decide) hq0 (by decide) rfl rfl (Nat.le_of_ble_eq_true rfl) dX11_vital_31 (ctX11_straps C.inj hq0) h (fun x4 M3 h => ?_)
      refine s_icmp_ge C 90 (by decide) dX11_vital_34 h (fun _ h => ?_) (fun _ h => ?_)
      · refine i_iload_n C dX11_vital_90 1 rfl ?_
        exact s_iret C E dX11_vital_91 h
      · refine i_aload_n C dX11_vital_37 0 rfl ?_
        refine gf11_9 C hq0 dX11_vital_38 ?_
        refine s_bipush C (28 : Int32) dX11_vital_41 (by decide) ?_
        refine i_iload_n C dX11_vital_43 2 rfl ?_
        refine s_iadd C dX11_vital_44 ?_
        refine s_iald C (ky11_1 hq0) dX11_vital_45 h (fun h => ?_)
        refine z_gi h (fun x5 h => ?_)
        refine i_istore_n (lv9 := [(3, _), (0, _), (1, _), (2, _)]) C 3 dX11_vital_46 rfl (by decide) rfl ?_
        refine i_aload_n C dX11_vital_47 1 rfl ?_
        refine gf11_9 C hq0 dX11_vital_48 ?_
        refine s_bipush C (28 : Int32) dX11_vital_51 (by decide) ?_
        refine i_iload_n C dX11_vital_53 3 rfl ?_
        refine s_iadd C dX11_vital_54 ?_
        refine s_iconst C (0 : Int32) dX11_vital_55 (by decide) ?_
        refine s_iast C (ky11_1 hq0) dX11_vital_56 h (fun h => ?_)
        refine z_gM h (fun M6 h => ?_)
        refine i_iload_n C dX11_vital_57 0 rfl ?_
        refine s_if_le C 74 (by decide) dX11_vital_58 h (fun _ h => ?_) (fun _ h => ?_)
        · exact sg_T.to (tX11_vital_74 C E hk29 _ _ _ _ _ h hq0) [1, 2, 3, 0] rfl
        · refine i_aload_n C dX11_vital_61 1 rfl ?_
          refine s_vcI C [] vmX11_scores lkX11_388 rfl rfl (by decide) hq0 (by decide) rfl rfl (Nat.le_of_ble_eq_true rfl) dX11_vital_62 (ctX11_scores C.inj hq0) h (fun x8 M7 h => ?_)
          refine s_if_le C 74 (by decide) dX11_vital_65 h (fun _ h => ?_) (fun _ h => ?_)
          · exact sg_T.to (tX11_vital_74 C E hk29 _ _ _ _ _ h hq0) [1, 2, 3, 0] rfl
          · refine i_iload_n C dX11_vital_68 3 rfl ?_
            refine z_gi h (fun x9 h => ?_)
            refine i_istore_n (lv9 := [(1, _), (3, _), (0, _), (2, _)]) C 1 dX11_vital_69 rfl (by decide) rfl ?_
            refine i_aload_n C dX11_vital_70 2 rfl ?_
            refine s_vcV C [] vmX11_keeps lkX11_382 rfl rfl (by decide) hq0 (by decide) rfl rfl (Nat.le_of_ble_eq_true rfl) dX11_vital_71 (ctX11_keeps C.inj hq0) h (fun M10 h => ?_)
            exact sg_T.to (tX11_vital_74 C E hk29 _ _ _ _ _ h hq0) [2, 0, 3, 1] rfl
  exact key N
def fX11_vital (N : Nat) (a0_ : Nat) (M : sg_M) : Option (Int32 × sg_M) :=
  sg_b (fX11_isGrid N a0_ M) (fun (x12 : Int32) (M11 : sg_M) =>
  if x12 = 0 then (
  some ((-2 : Int32), M11)) else (
  sg_m (-1 : Int32) (fun x13 : Int32 =>
  sg_m (sg_uI M11 a0_ 31 (-1 : Int32)) (fun M14 : sg_M =>
  sg_m (sg_uJ M14 a0_ 32 (0 : Int64)) (fun M15 : sg_M =>
  sg_m (sg_uJ M15 a0_ 33 (1 : Int64)) (fun M16 : sg_M =>
  sg_m (0 : Int32) (fun x17 : Int32 =>
  gX11_vital_29 N (a0_, x13, x17) M16)))))))
set_option maxHeartbeats 4000000 in
set_option maxRecDepth 100000 in
theorem tX11_vital {ad : Nat → Nat} {X : sg_X} {N : Nat} {r : Int32 × sg_M} (C : sg_C Yr ad X cX11_vital RX11 4 6) (E : sg_eI Yr ad X cX11_vital .int r) : ∀ (a0_ : Nat) (M : sg_M), sg_K Yr a0_ 11 → fX11_vital N a0_ M = some r → sg_T Yr ad X 4 0 [(0, .ref (ad a0_))] [] M := by
  intro a0_ M hq0 h
  unfold fX11_vital at h
  refine i_aload_n C dX11_vital_0 0 rfl ?_
  refine s_vcI C [] vmX11_isGrid lkX11_109 rfl rfl (by decide) hq0 (by decide) rfl rfl (Nat.le_of_ble_eq_true rfl) dX11_vital_1 (ctX11_isGrid C.inj hq0) h (fun x12 M11 h => ?_)
  refine s_if_ne C 10 (by decide) dX11_vital_4 h (fun _ h => ?_) (fun _ h => ?_)
  · refine s_bipush C (-2 : Int32) dX11_vital_7 (by decide) ?_
    exact s_iret C E dX11_vital_9 h
  · refine s_iconst C (-1 : Int32) dX11_vital_10 (by decide) ?_
    refine z_gi h (fun x13 h => ?_)
    refine i_istore_n (lv9 := [(1, _), (0, _)]) C 1 dX11_vital_11 rfl (by decide) rfl ?_
    refine i_aload_n C dX11_vital_12 1 rfl ?_
    refine s_iconst C (-1 : Int32) dX11_vital_13 (by decide) ?_
    refine pf11_369 C hq0 dX11_vital_14 ?_
    refine z_gM h (fun M14 h => ?_)
    refine i_aload_n C dX11_vital_17 1 rfl ?_
    refine s_lconst C (0 : Int64) dX11_vital_18 (by decide) ?_
    refine pf11_372 C hq0 dX11_vital_19 ?_
    refine z_gM h (fun M15 h => ?_)
    refine i_aload_n C dX11_vital_22 1 rfl ?_
    refine s_lconst C (1 : Int64) dX11_vital_23 (by decide) ?_
    refine pf11_375 C hq0 dX11_vital_24 ?_
    refine z_gM h (fun M16 h => ?_)
    refine s_iconst C (0 : Int32) dX11_vital_27 (by decide) ?_
    refine z_gi h (fun x17 h => ?_)
    refine i_istore_n (lv9 := [(2, _), (1, _), (0, _)]) C 2 dX11_vital_28 rfl (by decide) rfl ?_
    exact sg_T.to (tX11_vital_29 C E _ _ h hq0) [2, 1, 0] rfl
theorem ctX11_vital {ad : Nat → Nat} {V : sg_V} {N : Nat} (hi : sg_inj Yr ad) {a0_ : Nat} {M : sg_M} (hq0 : sg_K Yr a0_ 11) : ∀ res, fX11_vital N a0_ M = some res → sg_cI Yr ad V yX11_vital cX11_vital 4 .int 6 [.ref (ad a0_)] M res := fun res h => sg_bodyI (by decide) hi (Nat.le_of_ble_eq_true rfl) (fun X hX C E => by subst hX; exact tX11_vital C E _  _ hq0 h)
def gX11_spare_61 (N : Nat) (k14 : (Nat × Int32 × Int32) → sg_M → Option (Int32 × sg_M)) (a0_ : Nat) (x2_ : Int32) (x3_ : Int32) (y0_ : Int32) (y1_ : Int32) (M : sg_M) : Option (Int32 × sg_M) :=
  sg_m (y0_ ||| y1_) (fun x1 : Int32 =>
  if sg_ib ((28 : Int32) + x2_) (Yr.2.2.1 (Yr.2.2.2 a0_ 1)) = true then
  sg_m (sg_uI M (Yr.2.2.2 a0_ 1) (((28 : Int32) + x2_)).toNatClampNeg x3_) (fun M2 : sg_M =>
  sg_m (x2_ + (1 : Int32)) (fun x3 : Int32 =>
  k14 (a0_, x1, x3) M2))
  else none)
set_option maxHeartbeats 4000000 in
set_option maxRecDepth 100000 in
theorem tX11_spare_61 {ad : Nat → Nat} {X : sg_X} {N : Nat} {r : Int32 × sg_M} (C : sg_C Yr ad X cX11_spare RX11 4 6) (E : sg_eI Yr ad X cX11_spare .int r) {k14 : (Nat × Int32 × Int32) → sg_M → Option (Int32 × sg_M)} (hk14 : ∀ (s : Nat × Int32 × Int32) (M : sg_M), k14 s M = some r → sg_K Yr s.1 11 → sg_T Yr ad X 4 14 [(0, .ref (ad (s.1))), (1, .int (s.2.1)), (2, .int (s.2.2))] [] M) : ∀ (a0_ : Nat) (x2_ : Int32) (x3_ : Int32) (y0_ : Int32) (y1_ : Int32) (M : sg_M), gX11_spare_61 N k14 a0_ x2_ x3_ y0_ y1_ M = some r → sg_K Yr a0_ 11 → sg_T Yr ad X 4 61 [(0, .ref (ad a0_)), (2, .int x2_), (3, .int x3_)] [.int y1_, .int y0_] M := by
  intro a0_ x2_ x3_ y0_ y1_ M h hq0
  unfold gX11_spare_61 at h
  refine s_ior C dX11_spare_61 ?_
  refine z_gi h (fun x1 h => ?_)
  refine i_istore_n (lv9 := [(1, _), (0, _), (2, _), (3, _)]) C 1 dX11_spare_62 rfl (by decide) rfl ?_
  refine i_aload_n C dX11_spare_63 1 rfl ?_
  refine gf11_9 C hq0 dX11_spare_64 ?_
  refine s_bipush C (28 : Int32) dX11_spare_67 (by decide) ?_
  refine i_iload_n C dX11_spare_69 2 rfl ?_
  refine s_iadd C dX11_spare_70 ?_
  refine i_iload_n C dX11_spare_71 3 rfl ?_
  refine s_iast C (ky11_1 hq0) dX11_spare_72 h (fun h => ?_)
  refine z_gM h (fun M2 h => ?_)
  refine z_iinc (n := 1) (c9 := (1 : Int32)) (by decide) h (fun x3 hx h => ?_)
  refine i_iinc (lv9 := [(2, _), (1, _), (0, _), (3, _)]) C dX11_spare_73 2 rfl hx (by decide) rfl ?_
  refine s_goto C 14 (by decide) dX11_spare_76 ?_
  exact sg_T.to (hk14 _ _ h hq0) [2, 1, 0] rfl
def bX11_spare_14 (N : Nat)  (k14 : (Nat × Int32 × Int32) → sg_M → Option (Int32 × sg_M)) (s : Nat × Int32 × Int32) (M : sg_M) : Option (Int32 × sg_M) :=
  sg_b (fX11_straps N s.1 M) (fun (x5 : Int32) (M4 : sg_M) =>
  if x5 ≤ s.2.2 then (
  some (s.2.1, M4)) else (
  if sg_ib ((28 : Int32) + s.2.2) (Yr.2.2.1 (Yr.2.2.2 s.1 1)) = true then
  sg_m (M4.1 (Yr.2.2.2 s.1 1) (((28 : Int32) + s.2.2)).toNatClampNeg) (fun x6 : Int32 =>
  if sg_ib ((28 : Int32) + s.2.2) (Yr.2.2.1 (Yr.2.2.2 s.1 1)) = true then
  sg_m (sg_uI M4 (Yr.2.2.2 s.1 1) (((28 : Int32) + s.2.2)).toNatClampNeg (0 : Int32)) (fun M7 : sg_M =>
  if x6 ≤ 0 then (
  gX11_spare_61 N k14 s.1 s.2.2 x6 s.2.1 (0 : Int32) M7) else (
  sg_b (fX11_doesHold N s.1 M7) (fun (x9 : Int32) (M8 : sg_M) =>
  if x9 = 0 then (
  gX11_spare_61 N k14 s.1 s.2.2 x6 s.2.1 (0 : Int32) M8) else (
  gX11_spare_61 N k14 s.1 s.2.2 x6 s.2.1 ((1 : Int32) <<< (s.2.2 &&& 31)) M8))))
  else none)
  else none))
def gX11_spare_14 (N : Nat)  : (Nat × Int32 × Int32) → sg_M → Option (Int32 × sg_M) := sg_lp (bX11_spare_14 N ) N
set_option maxHeartbeats 4000000 in
set_option maxRecDepth 100000 in
theorem tX11_spare_14 {ad : Nat → Nat} {X : sg_X} {N : Nat} {r : Int32 × sg_M} (C : sg_C Yr ad X cX11_spare RX11 4 6) (E : sg_eI Yr ad X cX11_spare .int r)  : ∀ (s : Nat × Int32 × Int32) (M : sg_M), gX11_spare_14 N s M = some r → sg_K Yr s.1 11 → sg_T Yr ad X 4 14 [(0, .ref (ad (s.1))), (1, .int (s.2.1)), (2, .int (s.2.2))] [] M := by
  have key : ∀ n : Nat, ∀ (s : Nat × Int32 × Int32) (M : sg_M), sg_lp (bX11_spare_14 N) n s M = some r → sg_K Yr s.1 11 → sg_T Yr ad X 4 14 [(0, .ref (ad (s.1))), (1, .int (s.2.1)), (2, .int (s.2.2))] [] M := by
    intro n
    induction n with
    | zero => intro s M h; cases h
    | succ n ih =>
      intro s M h hq0
      have h : bX11_spare_14 N (sg_lp (bX11_spare_14 N) n) s M = some r := h
      generalize sg_lp (bX11_spare_14 N) n = k14 at h ih
      have hk14 := ih
      unfold bX11_spare_14 at h
      refine i_iload_n C dX11_spare_14 2 rfl ?_
      refine i_aload_n C dX11_spare_15 0 rfl ?_
      refine s_vcI C [] vmX11_straps lkX11_116 rfl rfl (by decide) hq0 (by decide) rfl rfl (Nat.le_of_ble_eq_true rfl) dX11_spare_16 (ctX11_straps C.inj hq0) h (fun x5 M4 h => ?_)
      refine s_icmp_ge C 79 (by decide) dX11_spare_19 h (fun _ h => ?_) (fun _ h => ?_)
      · refine i_iload_n C dX11_spare_79 1 rfl ?_
        exact s_iret C E dX11_spare_80 h
      · refine i_aload_n C dX11_spare_22 0 rfl ?_
        refine gf11_9 C hq0 dX11_spare_23 ?_
        refine s_bipush C (28 : Int32) dX11_spare_26 (by decide) ?_
        refine i_iload_n C dX11_spare_28 2 rfl ?_
        refine s_iadd C dX11_spare_29 ?_
        refine s_iald C (ky11_1 hq0) dX11_spare_30 h (fun h => ?_)
        refine z_gi h (fun x6 h => ?_)
        refine i_istore_n (lv9 := [(3, _), (0, _), (1, _), (2, _)]) C 3 dX11_spare_31 rfl (by decide) rfl ?_
        refine i_aload_n C dX11_spare_32 1 rfl ?_
        refine gf11_9 C hq0 dX11_spare_33 ?_
        refine s_bipush C (28 : Int32) dX11_spare_36 (by decide) ?_
        refine i_iload_n C dX11_spare_38 3 rfl ?_
        refine s_iadd C dX11_spare_39 ?_
        refine s_iconst C (0 : Int32) dX11_spare_40 (by decide) ?_
        refine s_iast C (ky11_1 hq0) dX11_spare_41 h (fun h => ?_)
        refine z_gM h (fun M7 h => ?_)
        refine i_iload_n C dX11_spare_42 2 rfl ?_
        refine i_iload_n C dX11_spare_43 0 rfl ?_
        refine s_if_le C 60 (by decide) dX11_spare_44 h (fun _ h => ?_) (fun _ h => ?_)
        · refine s_iconst C (0 : Int32) dX11_spare_60 (by decide) ?_
          exact sg_T.to (tX11_spare_61 C E hk14 _ _ _ _ _ _ h hq0) [1, 3, 0] rfl
        · refine i_aload_n C dX11_spare_47 1 rfl ?_
          refine s_vcI C [] vmX11_doesHold lkX11_334 rfl rfl (by decide) hq0 (by decide) rfl rfl (Nat.le_of_ble_eq_true rfl) dX11_spare_48 (ctX11_doesHold C.inj hq0) h (fun x9 M8 h => ?_)
          refine s_if_eq C 60 (by decide) dX11_spare_51 h (fun _ h => ?_) (fun _ h => ?_)
          · refine s_iconst C (0 : Int32) dX11_spare_60 (by decide) ?_
            exact sg_T.to (tX11_spare_61 C E hk14 _ _ _ _ _ _ h hq0) [1, 3, 0] rfl
          · refine s_iconst C (1 : Int32) dX11_spare_54 (by decide) ?_
            refine i_iload_n C dX11_spare_55 3 rfl ?_
            refine s_ishl C dX11_spare_56 ?_
            refine s_goto C 61 (by decide) dX11_spare_57 ?_
            exact sg_T.to (tX11_spare_61 C E hk14 _ _ _ _ _ _ h hq0) [1, 3, 0] rfl
  exact key N
def fX11_spare (N : Nat) (a0_ : Nat) (M : sg_M) : Option (Int32 × sg_M) :=
  sg_b (fX11_isGrid N a0_ M) (fun (x11 : Int32) (M10 : sg_M) =>
  if x11 = 0 then (
  some ((-2 : Int32), M10)) else (
  sg_m (0 : Int32) (fun x12 : Int32 =>
  sg_m (0 : Int32) (fun x13 : Int32 =>
  gX11_spare_14 N (a0_, x12, x13) M10))))
set_option maxHeartbeats 4000000 in
set_option maxRecDepth 100000 in
theorem tX11_spare {ad : Nat → Nat} {X : sg_X} {N : Nat} {r : Int32 × sg_M} (C : sg_C Yr ad X cX11_spare RX11 4 6) (E : sg_eI Yr ad X cX11_spare .int r) : ∀ (a0_ : Nat) (M : sg_M), sg_K Yr a0_ 11 → fX11_spare N a0_ M = some r → sg_T Yr ad X 4 0 [(0, .ref (ad a0_))] [] M := by
  intro a0_ M hq0 h
  unfold fX11_spare at h
  refine i_aload_n C dX11_spare_0 0 rfl ?_
  refine s_vcI C [] vmX11_isGrid lkX11_109 rfl rfl (by decide) hq0 (by decide) rfl rfl (Nat.le_of_ble_eq_true rfl) dX11_spare_1 (ctX11_isGrid C.inj hq0) h (fun x11 M10 h => ?_)
  refine s_if_ne C 10 (by decide) dX11_spare_4 h (fun _ h => ?_) (fun _ h => ?_)
  · refine s_bipush C (-2 : Int32) dX11_spare_7 (by decide) ?_
    exact s_iret C E dX11_spare_9 h
  · refine s_iconst C (0 : Int32) dX11_spare_10 (by decide) ?_
    refine z_gi h (fun x12 h => ?_)
    refine i_istore_n (lv9 := [(1, _), (0, _)]) C 1 dX11_spare_11 rfl (by decide) rfl ?_
    refine s_iconst C (0 : Int32) dX11_spare_12 (by decide) ?_
    refine z_gi h (fun x13 h => ?_)
    refine i_istore_n (lv9 := [(2, _), (1, _), (0, _)]) C 2 dX11_spare_13 rfl (by decide) rfl ?_
    exact sg_T.to (tX11_spare_14 C E _ _ h hq0) [2, 1, 0] rfl
theorem ctX11_spare {ad : Nat → Nat} {V : sg_V} {N : Nat} (hi : sg_inj Yr ad) {a0_ : Nat} {M : sg_M} (hq0 : sg_K Yr a0_ 11) : ∀ res, fX11_spare N a0_ M = some res → sg_cI Yr ad V yX11_spare cX11_spare 4 .int 6 [.ref (ad a0_)] M res := fun res h => sg_bodyI (by decide) hi (Nat.le_of_ble_eq_true rfl) (fun X hX C E => by subst hX; exact tX11_spare C E _  _ hq0 h)
def bX11_room_34 (N : Nat)  (k34 : (Nat × Int32 × Int32 × Int32) → sg_M → Option (Int32 × sg_M)) (s : Nat × Int32 × Int32 × Int32) (M : sg_M) : Option (Int32 × sg_M) :=
  if s.2.2.2 < 0 then (
  if sg_ib ((6 : Int32) + s.2.1) (Yr.2.2.1 (Yr.2.2.2 s.1 1)) = true then
  sg_m (sg_uI M (Yr.2.2.2 s.1 1) (((6 : Int32) + s.2.1)).toNatClampNeg s.2.2.1) (fun M1 : sg_M =>
  some (s.2.2.2, M1))
  else none) else (
  sg_b (fX11_doesHold N s.1 M) (fun (x3 : Int32) (M2 : sg_M) =>
  if x3 = 0 then (
  sg_m (s.2.2.2 + (-1 : Int32)) (fun x4 : Int32 =>
  if sg_ib ((6 : Int32) + s.2.1) (Yr.2.2.1 (Yr.2.2.2 s.1 1)) = true then
  sg_m (sg_uI M2 (Yr.2.2.2 s.1 1) (((6 : Int32) + s.2.1)).toNatClampNeg x4) (fun M5 : sg_M =>
  k34 (s.1, s.2.1, s.2.2.1, x4) M5)
  else none)) else (
  if sg_ib ((6 : Int32) + s.2.1) (Yr.2.2.1 (Yr.2.2.2 s.1 1)) = true then
  sg_m (sg_uI M2 (Yr.2.2.2 s.1 1) (((6 : Int32) + s.2.1)).toNatClampNeg s.2.2.1) (fun M6 : sg_M =>
  some (s.2.2.2, M6))
  else none)))
def gX11_room_34 (N : Nat)  : (Nat × Int32 × Int32 × Int32) → sg_M → Option (Int32 × sg_M) := sg_lp (bX11_room_34 N ) N
set_option maxHeartbeats 4000000 in
set_option maxRecDepth 100000 in
theorem tX11_room_34 {ad : Nat → Nat} {X : sg_X} {N : Nat} {r : Int32 × sg_M} (C : sg_C Yr ad X cX11_room RX11 4 6) (E : sg_eI Yr ad X cX11_room .int r)  : ∀ (s : Nat × Int32 × Int32 × Int32) (M : sg_M), gX11_room_34 N s M = some r → sg_K Yr s.1 11 → sg_T Yr ad X 4 34 [(0, .ref (ad (s.1))), (1, .int (s.2.1)), (2, .int (s.2.2.1)), (3, .int (s.2.2.2))] [] M := by
  have key : ∀ n : Nat, ∀ (s : Nat × Int32 × Int32 × Int32) (M : sg_M), sg_lp (bX11_room_34 N) n s M = some r → sg_K Yr s.1 11 → sg_T Yr ad X 4 34 [(0, .ref (ad (s.1))), (1, .int (s.2.1)), (2, .int (s.2.2.1)), (3, .int (s.2.2.2))] [] M := by
    intro n
    induction n with
    | zero => intro s M h; cases h
    | succ n ih =>
      intro s M h hq0
      have h : bX11_room_34 N (sg_lp (bX11_room_34 N) n) s M = some r := h
      generalize sg_lp (bX11_room_34 N) n = k34 at h ih
      have hk34 := ih
      unfold bX11_room_34 at h
      refine i_iload_n C dX11_room_34 3 rfl ?_
      refine s_if_lt C 61 (by decide) dX11_room_35 h (fun _ h => ?_) (fun _ h => ?_)
      · refine i_aload_n C dX11_room_61 0 rfl ?_
        refine gf11_9 C hq0 dX11_room_62 ?_
        refine s_bipush C (6 : Int32) dX11_room_65 (by decide) ?_
        refine i_iload_n C dX11_room_67 1 rfl ?_
        refine s_iadd C dX11_room_68 ?_
        refine i_iload_n C dX11_room_69 2 rfl ?_
        refine s_iast C (ky11_1 hq0) dX11_room_70 h (fun h => ?_)
        refine z_gM h (fun M1 h => ?_)
        refine i_iload_n C dX11_room_71 3 rfl ?_
        exact s_iret C E dX11_room_72 h
      · refine i_aload_n C dX11_room_38 0 rfl ?_
        refine s_vcI C [] vmX11_doesHold lkX11_334 rfl rfl (by decide) hq0 (by decide) rfl rfl (Nat.le_of_ble_eq_true rfl) dX11_room_39 (ctX11_doesHold C.inj hq0) h (fun x3 M2 h => ?_)
        refine s_if_ne C 61 (by decide) dX11_room_42 h (fun _ h => ?_) (fun _ h => ?_)
        · refine z_iinc (n := -1) (c9 := (-1 : Int32)) (by decide) h (fun x4 hx h => ?_)
          refine i_iinc (lv9 := [(3, _), (0, _), (1, _), (2, _)]) C dX11_room_45 3 rfl hx (by decide) rfl ?_
          refine i_aload_n C dX11_room_48 1 rfl ?_
          refine gf11_9 C hq0 dX11_room_49 ?_
          refine s_bipush C (6 : Int32) dX11_room_52 (by decide) ?_
          refine i_iload_n C dX11_room_54 2 rfl ?_
          refine s_iadd C dX11_room_55 ?_
          refine i_iload_n C dX11_room_56 0 rfl ?_
          refine s_iast C (ky11_1 hq0) dX11_room_57 h (fun h => ?_)
          refine z_gM h (fun M5 h => ?_)
          refine s_goto C 34 (by decide) dX11_room_58 ?_
          exact sg_T.to (hk34 _ _ h hq0) [1, 2, 3, 0] rfl
        · refine i_aload_n C dX11_room_61 0 rfl ?_
          refine gf11_9 C hq0 dX11_room_62 ?_
          refine s_bipush C (6 : Int32) dX11_room_65 (by decide) ?_
          refine i_iload_n C dX11_room_67 1 rfl ?_
          refine s_iadd C dX11_room_68 ?_
          refine i_iload_n C dX11_room_69 2 rfl ?_
          refine s_iast C (ky11_1 hq0) dX11_room_70 h (fun h => ?_)
          refine z_gM h (fun M6 h => ?_)
          refine i_iload_n C dX11_room_71 3 rfl ?_
          exact s_iret C E dX11_room_72 h
  exact key N
def fX11_room (N : Nat) (a0_ : Nat) (x1_ : Int32) (M : sg_M) : Option (Int32 × sg_M) :=
  sg_b (fX11_isNode N a0_ x1_ M) (fun (x8 : Int32) (M7 : sg_M) =>
  if x8 = 0 then (
  some ((-2 : Int32), M7)) else (
  if sg_ib ((6 : Int32) + x1_) (Yr.2.2.1 (Yr.2.2.2 a0_ 1)) = true then
  sg_m (M7.1 (Yr.2.2.2 a0_ 1) (((6 : Int32) + x1_)).toNatClampNeg) (fun x9 : Int32 =>
  sg_m (99 : Int32) (fun x10 : Int32 =>
  if sg_ib ((6 : Int32) + x1_) (Yr.2.2.1 (Yr.2.2.2 a0_ 1)) = true then
  sg_m (sg_uI M7 (Yr.2.2.2 a0_ 1) (((6 : Int32) + x1_)).toNatClampNeg x10) (fun M11 : sg_M =>
  gX11_room_34 N (a0_, x1_, x9, x10) M11)
  else none))
  else none))
set_option maxHeartbeats 4000000 in
set_option maxRecDepth 100000 in
theorem tX11_room {ad : Nat → Nat} {X : sg_X} {N : Nat} {r : Int32 × sg_M} (C : sg_C Yr ad X cX11_room RX11 4 6) (E : sg_eI Yr ad X cX11_room .int r) : ∀ (a0_ : Nat) (x1_ : Int32) (M : sg_M), sg_K Yr a0_ 11 → fX11_room N a0_ x1_ M = some r → sg_T Yr ad X 4 0 [(0, .ref (ad a0_)), (1, .int x1_)] [] M := by
  intro a0_ x1_ M hq0 h
  unfold fX11_room at h
  refine i_aload_n C dX11_room_0 0 rfl ?_
  refine i_iload_n C dX11_room_1 1 rfl ?_
  refine s_vcI C [_] vmX11_isNode lkX11_308 rfl rfl (by decide) hq0 (by decide) rfl rfl (Nat.le_of_ble_eq_true rfl) dX11_room_2 (ctX11_isNode C.inj hq0) h (fun x8 M7 h => ?_)
  refine s_if_ne C 11 (by decide) dX11_room_5 h (fun _ h => ?_) (fun _ h => ?_)
  · refine s_bipush C (-2 : Int32) dX11_room_8 (by decide) ?_
    exact s_iret C E dX11_room_10 h
  · refine i_aload_n C dX11_room_11 0 rfl ?_
    refine gf11_9 C hq0 dX11_room_12 ?_
    refine s_bipush C (6 : Int32) dX11_room_15 (by decide) ?_
    refine i_iload_n C dX11_room_17 1 rfl ?_
    refine s_iadd C dX11_room_18 ?_
    refine s_iald C (ky11_1 hq0) dX11_room_19 h (fun h => ?_)
    refine z_gi h (fun x9 h => ?_)
    refine i_istore_n (lv9 := [(2, _), (0, _), (1, _)]) C 2 dX11_room_20 rfl (by decide) rfl ?_
    refine s_bipush C (99 : Int32) dX11_room_21 (by decide) ?_
    refine z_gi h (fun x10 h => ?_)
    refine i_istore_n (lv9 := [(3, _), (2, _), (0, _), (1, _)]) C 3 dX11_room_23 rfl (by decide) rfl ?_
    refine i_aload_n C dX11_room_24 2 rfl ?_
    refine gf11_9 C hq0 dX11_room_25 ?_
    refine s_bipush C (6 : Int32) dX11_room_28 (by decide) ?_
    refine i_iload_n C dX11_room_30 3 rfl ?_
    refine s_iadd C dX11_room_31 ?_
    refine i_iload_n C dX11_room_32 0 rfl ?_
    refine s_iast C (ky11_1 hq0) dX11_room_33 h (fun h => ?_)
    refine z_gM h (fun M11 h => ?_)
    exact sg_T.to (tX11_room_34 C E _ _ h hq0) [2, 3, 1, 0] rfl
theorem ctX11_room {ad : Nat → Nat} {V : sg_V} {N : Nat} (hi : sg_inj Yr ad) {a0_ : Nat} {x1_ : Int32} {M : sg_M} (hq0 : sg_K Yr a0_ 11) : ∀ res, fX11_room N a0_ x1_ M = some res → sg_cI Yr ad V yX11_room cX11_room 4 .int 6 [.ref (ad a0_), .int x1_] M res := fun res h => sg_bodyI (by decide) hi (Nat.le_of_ble_eq_true rfl) (fun X hX C E => by subst hX; exact tX11_room C E _ _  _ hq0 h)
def fX11_isFull (N : Nat) (a0_ : Nat) (M : sg_M) : Option (Int32 × sg_M) :=
  if (M.1 a0_ 4) = (20 : Int32) then (
  some ((1 : Int32), M)) else (
  some ((0 : Int32), M))
set_option maxHeartbeats 4000000 in
set_option maxRecDepth 100000 in
theorem tX11_isFull {ad : Nat → Nat} {X : sg_X} {N : Nat} {r : Int32 × sg_M} (C : sg_C Yr ad X cX11_isFull RX11 1 0) (E : sg_eI Yr ad X cX11_isFull .boolean r) : ∀ (a0_ : Nat) (M : sg_M), sg_K Yr a0_ 11 → fX11_isFull N a0_ M = some r → sg_T Yr ad X 1 0 [(0, .ref (ad a0_))] [] M := by
  intro a0_ M hq0 h
  unfold fX11_isFull at h
  refine i_aload_n C dX11_isFull_0 0 rfl ?_
  refine gf11_91 C hq0 dX11_isFull_1 ?_
  refine s_bipush C (20 : Int32) dX11_isFull_4 (by decide) ?_
  refine s_icmp_ne C 13 (by decide) dX11_isFull_6 h (fun _ h => ?_) (fun _ h => ?_)
  · refine s_iconst C (1 : Int32) dX11_isFull_9 (by decide) ?_
    refine s_goto C 14 (by decide) dX11_isFull_10 ?_
    exact s_zret1 C E (by decide) dX11_isFull_14 h
  · refine s_iconst C (0 : Int32) dX11_isFull_13 (by decide) ?_
    exact s_zret1 C E (by decide) dX11_isFull_14 h
theorem ctX11_isFull {ad : Nat → Nat} {V : sg_V} {N : Nat} (hi : sg_inj Yr ad) {a0_ : Nat} {M : sg_M} (hq0 : sg_K Yr a0_ 11) : ∀ res, fX11_isFull N a0_ M = some res → sg_cI Yr ad V yX11_isFull cX11_isFull 1 .boolean 0 [.ref (ad a0_)] M res := fun res h => sg_bodyI (by decide) hi (Nat.le_of_ble_eq_true rfl) (fun X hX C E => by subst hX; exact tX11_isFull C E _  _ hq0 h)
def bX11_remembers_2 (N : Nat)  (k2 : (Nat × Int32 × Int32 × Int32) → sg_M → Option (sg_M)) (s : Nat × Int32 × Int32 × Int32) (M : sg_M) : Option (sg_M) :=
  if (40 : Int32) ≤ s.2.2.2 then (
  if sg_ib (((42 : Int32) * (M.1 s.1 4)) + (40 : Int32)) (Yr.2.2.1 (Yr.2.2.2 s.1 3)) = true then
  sg_m (sg_uI M (Yr.2.2.2 s.1 3) ((((42 : Int32) * (M.1 s.1 4)) + (40 : Int32))).toNatClampNeg s.2.1) (fun M1 : sg_M =>
  if sg_ib ((((42 : Int32) * (M1.1 s.1 4)) + (40 : Int32)) + (1 : Int32)) (Yr.2.2.1 (Yr.2.2.2 s.1 3)) = true then
  sg_m (sg_uI M1 (Yr.2.2.2 s.1 3) (((((42 : Int32) * (M1.1 s.1 4)) + (40 : Int32)) + (1 : Int32))).toNatClampNeg s.2.2.1) (fun M2 : sg_M =>
  sg_m (sg_uI M2 s.1 4 ((M2.1 s.1 4) + (1 : Int32))) (fun M3 : sg_M =>
  some M3))
  else none)
  else none) else (
  if sg_ib s.2.2.2 (Yr.2.2.1 (Yr.2.2.2 s.1 1)) = true then
  if sg_ib (((42 : Int32) * (M.1 s.1 4)) + s.2.2.2) (Yr.2.2.1 (Yr.2.2.2 s.1 3)) = true then
  sg_m (sg_uI M (Yr.2.2.2 s.1 3) ((((42 : Int32) * (M.1 s.1 4)) + s.2.2.2)).toNatClampNeg (M.1 (Yr.2.2.2 s.1 1) (s.2.2.2).toNatClampNeg)) (fun M4 : sg_M =>
  sg_m (s.2.2.2 + (1 : Int32)) (fun x5 : Int32 =>
  k2 (s.1, s.2.1, s.2.2.1, x5) M4))
  else none
  else none)
def gX11_remembers_2 (N : Nat)  : (Nat × Int32 × Int32 × Int32) → sg_M → Option (sg_M) := sg_lp (bX11_remembers_2 N ) N
set_option maxHeartbeats 4000000 in
set_option maxRecDepth 100000 in
theorem tX11_remembers_2 {ad : Nat → Nat} {X : sg_X} {N : Nat} {r : sg_M} (C : sg_C Yr ad X cX11_remembers RX11 4 0) (E : sg_eV Yr ad X cX11_remembers r)  : ∀ (s : Nat × Int32 × Int32 × Int32) (M : sg_M), gX11_remembers_2 N s M = some r → sg_K Yr s.1 11 → sg_T Yr ad X 4 2 [(0, .ref (ad (s.1))), (1, .int (s.2.1)), (2, .int (s.2.2.1)), (3, .int (s.2.2.2))] [] M := by
  have key : ∀ n : Nat, ∀ (s : Nat × Int32 × Int32 × Int32) (M : sg_M), sg_lp (bX11_remembers_2 N) n s M = some r → sg_K Yr s.1 11 → sg_T Yr ad X 4 2 [(0, .ref (ad (s.1))), (1, .int (s.2.1)), (2, .int (s.2.2.1)), (3, .int (s.2.2.2))] [] M := by
    intro n
    induction n with
    | zero => intro s M h; cases h
    | succ n ih =>
      intro s M h hq0
      have h : bX11_remembers_2 N (sg_lp (bX11_remembers_2 N) n) s M = some r := h
      generalize sg_lp (bX11_remembers_2 N) n = k2 at h ih
      have hk2 := ih
      unfold bX11_remembers_2 at h
      refine i_iload_n C dX11_remembers_2 3 rfl ?_
      refine s_bipush C (40 : Int32) dX11_remembers_3 (by decide) ?_
      refine s_icmp_ge C 34 (by decide) dX11_remembers_5 h (fun _ h => ?_) (fun _ h => ?_)
      · refine i_aload_n C dX11_remembers_34 0 rfl ?_
        refine gf11_16 C hq0 dX11_remembers_35 ?_
        refine s_bipush C (42 : Int32) dX11_remembers_38 (by decide) ?_
        refine i_aload_n C dX11_remembers_40 0 rfl ?_
        refine gf11_91 C hq0 dX11_remembers_41 ?_
        refine s_imul C dX11_remembers_44 ?_
        refine s_bipush C (40 : Int32) dX11_remembers_45 (by decide) ?_
        refine s_iadd C dX11_remembers_47 ?_
        refine i_iload_n C dX11_remembers_48 1 rfl ?_
        refine s_iast C (ky11_3 hq0) dX11_remembers_49 h (fun h => ?_)
        refine z_gM h (fun M1 h => ?_)
        refine i_aload_n C dX11_remembers_50 0 rfl ?_
        refine gf11_16 C hq0 dX11_remembers_51 ?_
        refine s_bipush C (42 : Int32) dX11_remembers_54 (by decide) ?_
        refine i_aload_n C dX11_remembers_56 0 rfl ?_
        refine gf11_91 C hq0 dX11_remembers_57 ?_
        refine s_imul C dX11_remembers_60 ?_
        refine s_bipush C (40 : Int32) dX11_remembers_61 (by decide) ?_
        refine s_iadd C dX11_remembers_63 ?_
        refine s_iconst C (1 : Int32) dX11_remembers_64 (by decide) ?_
        refine s_iadd C dX11_remembers_65 ?_
        refine i_iload_n C dX11_remembers_66 2 rfl ?_
        refine s_iast C (ky11_3 hq0) dX11_remembers_67 h (fun h => ?_)
        refine z_gM h (fun M2 h => ?_)
        refine i_aload_n C dX11_remembers_68 0 rfl ?_
        refine s_dup C dX11_remembers_69 rfl ?_
        refine gf11_91 C hq0 dX11_remembers_70 ?_
        refine s_iconst C (1 : Int32) dX11_remembers_73 (by decide) ?_
        refine s_iadd C dX11_remembers_74 ?_
        refine pf11_91 C hq0 dX11_remembers_75 ?_
        refine z_gM h (fun M3 h => ?_)
        exact s_vret C E dX11_remembers_78 h
      · refine i_aload_n C dX11_remembers_8 0 rfl ?_
        refine gf11_16 C hq0 dX11_remembers_9 ?_
        refine s_bipush C (42 : Int32) dX11_remembers_12 (by decide) ?_
        refine i_aload_n C dX11_remembers_14 0 rfl ?_
        refine gf11_91 C hq0 dX11_remembers_15 ?_
        refine s_imul C dX11_remembers_18 ?_
        refine i_iload_n C dX11_remembers_19 3 rfl ?_
        refine s_iadd C dX11_remembers_20 ?_
        refine i_aload_n C dX11_remembers_21 0 rfl ?_
        refine gf11_9 C hq0 dX11_remembers_22 ?_
        refine i_iload_n C dX11_remembers_25 3 rfl ?_
        refine s_iald C (ky11_1 hq0) dX11_remembers_26 h (fun h => ?_)
        refine s_iast C (ky11_3 hq0) dX11_remembers_27 h (fun h => ?_)
        refine z_gM h (fun M4 h => ?_)
        refine z_iinc (n := 1) (c9 := (1 : Int32)) (by decide) h (fun x5 hx h => ?_)
        refine i_iinc (lv9 := [(3, _), (0, _), (1, _), (2, _)]) C dX11_remembers_28 3 rfl hx (by decide) rfl ?_
        refine s_goto C 2 (by decide) dX11_remembers_31 ?_
        exact sg_T.to (hk2 _ _ h hq0) [1, 2, 3, 0] rfl
  exact key N
def fX11_remembers (N : Nat) (a0_ : Nat) (x1_ : Int32) (x2_ : Int32) (M : sg_M) : Option (sg_M) :=
  sg_m (0 : Int32) (fun x6 : Int32 =>
  gX11_remembers_2 N (a0_, x1_, x2_, x6) M)
set_option maxHeartbeats 4000000 in
set_option maxRecDepth 100000 in
theorem tX11_remembers {ad : Nat → Nat} {X : sg_X} {N : Nat} {r : sg_M} (C : sg_C Yr ad X cX11_remembers RX11 4 0) (E : sg_eV Yr ad X cX11_remembers r) : ∀ (a0_ : Nat) (x1_ : Int32) (x2_ : Int32) (M : sg_M), sg_K Yr a0_ 11 → fX11_remembers N a0_ x1_ x2_ M = some r → sg_T Yr ad X 4 0 [(0, .ref (ad a0_)), (1, .int x1_), (2, .int x2_)] [] M := by
  intro a0_ x1_ x2_ M hq0 h
  unfold fX11_remembers at h
  refine s_iconst C (0 : Int32) dX11_remembers_0 (by decide) ?_
  refine z_gi h (fun x6 h => ?_)
  refine i_istore_n (lv9 := [(3, _), (0, _), (1, _), (2, _)]) C 3 dX11_remembers_1 rfl (by decide) rfl ?_
  exact sg_T.to (tX11_remembers_2 C E _ _ h hq0) [1, 2, 3, 0] rfl
theorem ctX11_remembers {ad : Nat → Nat} {V : sg_V} {N : Nat} (hi : sg_inj Yr ad) {a0_ : Nat} {x1_ : Int32} {x2_ : Int32} {M : sg_M} (hq0 : sg_K Yr a0_ 11) : ∀ res, fX11_remembers N a0_ x1_ x2_ M = some res → sg_cV Yr ad V yX11_remembers cX11_remembers 4 0 [.ref (ad a0_), .int x1_, .int x2_] M res := fun res h => sg_bodyV (by decide) hi (Nat.le_of_ble_eq_true rfl) (fun X hX C E => by subst hX; exact tX11_remembers C E _ _ _  _ hq0 h)
def bX11_did_34 (N : Nat)  (k34 : (Nat × Int32 × Int32 × Int32 × Int32) → sg_M → Option (Int32 × sg_M)) (s : Nat × Int32 × Int32 × Int32 × Int32) (M : sg_M) : Option (Int32 × sg_M) :=
  if (M.1 s.1 4) ≤ s.2.2.2.2 then (
  some (s.2.2.2.1, M)) else (
  if sg_ib (((42 : Int32) * s.2.2.2.2) + (40 : Int32)) (Yr.2.2.1 (Yr.2.2.2 s.1 3)) = true then
  if (M.1 (Yr.2.2.2 s.1 3) ((((42 : Int32) * s.2.2.2.2) + (40 : Int32))).toNatClampNeg) = s.2.1 then (
  if s.2.2.1 = 0 then (
  sg_m (s.2.2.2.1 + (1 : Int32)) (fun x1 : Int32 =>
  sg_m (s.2.2.2.2 + (1 : Int32)) (fun x2 : Int32 =>
  k34 (s.1, s.2.1, s.2.2.1, x1, x2) M))) else (
  if sg_ib ((((42 : Int32) * s.2.2.2.2) + (40 : Int32)) + (1 : Int32)) (Yr.2.2.1 (Yr.2.2.2 s.1 3)) = true then
  sg_m (s.2.2.2.1 + (M.1 (Yr.2.2.2 s.1 3) (((((42 : Int32) * s.2.2.2.2) + (40 : Int32)) + (1 : Int32))).toNatClampNeg)) (fun x3 : Int32 =>
  sg_m (s.2.2.2.2 + (1 : Int32)) (fun x4 : Int32 =>
  k34 (s.1, s.2.1, s.2.2.1, x3, x4) M))
  else none)) else (
  sg_m (s.2.2.2.2 + (1 : Int32)) (fun x5 : Int32 =>
  k34 (s.1, s.2.1, s.2.2.1, s.2.2.2.1, x5) M))
  else none)
def gX11_did_34 (N : Nat)  : (Nat × Int32 × Int32 × Int32 × Int32) → sg_M → Option (Int32 × sg_M) := sg_lp (bX11_did_34 N ) N
set_option maxHeartbeats 4000000 in
set_option maxRecDepth 100000 in
theorem tX11_did_34 {ad : Nat → Nat} {X : sg_X} {N : Nat} {r : Int32 × sg_M} (C : sg_C Yr ad X cX11_did RX11 5 2) (E : sg_eI Yr ad X cX11_did .int r)  : ∀ (s : Nat × Int32 × Int32 × Int32 × Int32) (M : sg_M), gX11_did_34 N s M = some r → sg_K Yr s.1 11 → sg_T Yr ad X 5 34 [(0, .ref (ad (s.1))), (1, .int (s.2.1)), (2, .int (s.2.2.1)), (3, .int (s.2.2.2.1)), (4, .int (s.2.2.2.2))] [] M := by
  have key : ∀ n : Nat, ∀ (s : Nat × Int32 × Int32 × Int32 × Int32) (M : sg_M), sg_lp (bX11_did_34 N) n s M = some r → sg_K Yr s.1 11 → sg_T Yr ad X 5 34 [(0, .ref (ad (s.1))), (1, .int (s.2.1)), (2, .int (s.2.2.1)), (3, .int (s.2.2.2.1)), (4, .int (s.2.2.2.2))] [] M := by
    intro n
    induction n with
    | zero => intro s M h; cases h
    | succ n ih =>
      intro s M h hq0
      have h : bX11_did_34 N (sg_lp (bX11_did_34 N) n) s M = some r := h
      generalize sg_lp (bX11_did_34 N) n = k34 at h ih
      have hk34 := ih
      unfold bX11_did_34 at h
      refine i_iload C dX11_did_34 4 rfl ?_
      refine i_aload_n C dX11_did_36 0 rfl ?_
      refine gf11_91 C hq0 dX11_did_37 ?_
      refine s_icmp_ge C 92 (by decide) dX11_did_40 h (fun _ h => ?_) (fun _ h => ?_)
      · refine i_iload_n C dX11_did_92 3 rfl ?_
        exact s_iret C E dX11_did_93 h
      · refine i_aload_n C dX11_did_43 0 rfl ?_
        refine gf11_16 C hq0 dX11_did_44 ?_
        refine s_bipush C (42 : Int32) dX11_did_47 (by decide) ?_
        refine i_iload C dX11_did_49 4 rfl ?_
        refine s_imul C dX11_did_51 ?_
        refine s_bipush C (40 : Int32) dX11_did_52 (by decide) ?_
        refine s_iadd C dX11_did_54 ?_
        refine s_iald C (ky11_3 hq0) dX11_did_55 h (fun h => ?_)
        refine i_iload_n C dX11_did_56 1 rfl ?_
        refine s_icmp_ne C 86 (by decide) dX11_did_57 h (fun _ h => ?_) (fun _ h => ?_)
        · refine i_iload_n C dX11_did_60 3 rfl ?_
          refine i_iload_n C dX11_did_61 2 rfl ?_
          refine s_if_ne C 69 (by decide) dX11_did_62 h (fun _ h => ?_) (fun _ h => ?_)
          · refine s_iconst C (1 : Int32) dX11_did_65 (by decide) ?_
            refine s_goto C 84 (by decide) dX11_did_66 ?_
            refine s_iadd C dX11_did_84 ?_
            refine z_gi h (fun x1 h => ?_)
            refine i_istore_n (lv9 := [(3, _), (0, _), (1, _), (2, _), (4, _)]) C 3 dX11_did_85 rfl (by decide) rfl ?_
            refine z_iinc (n := 1) (c9 := (1 : Int32)) (by decide) h (fun x2 hx h => ?_)
            refine i_iinc (lv9 := [(4, _), (3, _), (0, _), (1, _), (2, _)]) C dX11_did_86 4 rfl hx (by decide) rfl ?_
            refine s_goto C 34 (by decide) dX11_did_89 ?_
            exact sg_T.to (hk34 _ _ h hq0) [2, 3, 4, 1, 0] rfl
          · refine i_aload_n C dX11_did_69 0 rfl ?_
            refine gf11_16 C hq0 dX11_did_70 ?_
            refine s_bipush C (42 : Int32) dX11_did_73 (by decide) ?_
            refine i_iload C dX11_did_75 4 rfl ?_
            refine s_imul C dX11_did_77 ?_
            refine s_bipush C (40 : Int32) dX11_did_78 (by decide) ?_
            refine s_iadd C dX11_did_80 ?_
            refine s_iconst C (1 : Int32) dX11_did_81 (by decide) ?_
            refine s_iadd C dX11_did_82 ?_
            refine s_iald C (ky11_3 hq0) dX11_did_83 h (fun h => ?_)
            refine s_iadd C dX11_did_84 ?_
            refine z_gi h (fun x3 h => ?_)
            refine i_istore_n (lv9 := [(3, _), (0, _), (1, _), (2, _), (4, _)]) C 3 dX11_did_85 rfl (by decide) rfl ?_
            refine z_iinc (n := 1) (c9 := (1 : Int32)) (by decide) h (fun x4 hx h => ?_)
            refine i_iinc (lv9 := [(4, _), (3, _), (0, _), (1, _), (2, _)]) C dX11_did_86 4 rfl hx (by decide) rfl ?_
            refine s_goto C 34 (by decide) dX11_did_89 ?_
            exact sg_T.to (hk34 _ _ h hq0) [2, 3, 4, 1, 0] rfl
        · refine z_iinc (n := 1) (c9 := (1 : Int32)) (by decide) h (fun x5 hx h => ?_)
          refine i_iinc (lv9 := [(4, _), (0, _), (1, _), (2, _), (3, _)]) C dX11_did_86 4 rfl hx (by decide) rfl ?_
          refine s_goto C 34 (by decide) dX11_did_89 ?_
          exact sg_T.to (hk34 _ _ h hq0) [1, 2, 3, 4, 0] rfl
  exact key N
def fX11_did (N : Nat) (a0_ : Nat) (x1_ : Int32) (x2_ : Int32) (M : sg_M) : Option (Int32 × sg_M) :=
  sg_b (fX11_isGrid N a0_ M) (fun (x7 : Int32) (M6 : sg_M) =>
  if x7 = 0 then (
  some ((-2 : Int32), M6)) else (
  sg_b (fX11_in N (x1_).toInt64 (0 : Int64) (3 : Int64) M6) (fun (x9 : Int32) (M8 : sg_M) =>
  if x9 = 0 then (
  some ((-2 : Int32), M8)) else (
  sg_b (fX11_isPart N x2_ M8) (fun (x11 : Int32) (M10 : sg_M) =>
  if x11 = 0 then (
  some ((-2 : Int32), M10)) else (
  sg_m (0 : Int32) (fun x12 : Int32 =>
  sg_m (0 : Int32) (fun x13 : Int32 =>
  gX11_did_34 N (a0_, x1_, x2_, x12, x13) M10))))))))
set_option maxHeartbeats 4000000 in
set_option maxRecDepth 100000 in
theorem tX11_did {ad : Nat → Nat} {X : sg_X} {N : Nat} {r : Int32 × sg_M} (C : sg_C Yr ad X cX11_did RX11 5 2) (E : sg_eI Yr ad X cX11_did .int r) : ∀ (a0_ : Nat) (x1_ : Int32) (x2_ : Int32) (M : sg_M), sg_K Yr a0_ 11 → fX11_did N a0_ x1_ x2_ M = some r → sg_T Yr ad X 5 0 [(0, .ref (ad a0_)), (1, .int x1_), (2, .int x2_)] [] M := by
  intro a0_ x1_ x2_ M hq0 h
  unfold fX11_did at h
  refine i_aload_n C dX11_did_0 0 rfl ?_
  refine s_vcI C [] vmX11_isGrid lkX11_109 rfl rfl (by decide) hq0 (by decide) rfl rfl (Nat.le_of_ble_eq_true rfl) dX11_did_1 (ctX11_isGrid C.inj hq0) h (fun x7 M6 h => ?_)
  refine s_if_eq C 26 (by decide) dX11_did_4 h (fun _ h => ?_) (fun _ h => ?_)
  · refine s_bipush C (-2 : Int32) dX11_did_26 (by decide) ?_
    exact s_iret C E dX11_did_28 h
  · refine i_iload_n C dX11_did_7 1 rfl ?_
    refine s_i2l C dX11_did_8 ?_
    refine s_lconst C (0 : Int64) dX11_did_9 (by decide) ?_
    refine s_ldc2 C (3 : Int64) kl_X11_311 dX11_did_10 ?_
    refine s_scI C [_, _, _] smX11_in lkX11_87 (by decide) rfl rfl (Nat.le_of_ble_eq_true rfl) dX11_did_13 (ctX11_in C.inj ) h (fun x9 M8 h => ?_)
    refine s_if_eq C 26 (by decide) dX11_did_16 h (fun _ h => ?_) (fun _ h => ?_)
    · refine s_bipush C (-2 : Int32) dX11_did_26 (by decide) ?_
      exact s_iret C E dX11_did_28 h
    · refine i_iload_n C dX11_did_19 2 rfl ?_
      refine s_scI C [_] smX11_isPart lkX11_313 (by decide) rfl rfl (Nat.le_of_ble_eq_true rfl) dX11_did_20 (ctX11_isPart C.inj ) h (fun x11 M10 h => ?_)
      refine s_if_ne C 29 (by decide) dX11_did_23 h (fun _ h => ?_) (fun _ h => ?_)
      · refine s_bipush C (-2 : Int32) dX11_did_26 (by decide) ?_
        exact s_iret C E dX11_did_28 h
      · refine s_iconst C (0 : Int32) dX11_did_29 (by decide) ?_
        refine z_gi h (fun x12 h => ?_)
        refine i_istore_n (lv9 := [(3, _), (0, _), (1, _), (2, _)]) C 3 dX11_did_30 rfl (by decide) rfl ?_
        refine s_iconst C (0 : Int32) dX11_did_31 (by decide) ?_
        refine z_gi h (fun x13 h => ?_)
        refine i_istore (lv9 := [(4, _), (3, _), (0, _), (1, _), (2, _)]) C dX11_did_32 (by decide) rfl ?_
        exact sg_T.to (tX11_did_34 C E _ _ h hq0) [2, 3, 4, 1, 0] rfl
theorem ctX11_did {ad : Nat → Nat} {V : sg_V} {N : Nat} (hi : sg_inj Yr ad) {a0_ : Nat} {x1_ : Int32} {x2_ : Int32} {M : sg_M} (hq0 : sg_K Yr a0_ 11) : ∀ res, fX11_did N a0_ x1_ x2_ M = some res → sg_cI Yr ad V yX11_did cX11_did 5 .int 2 [.ref (ad a0_), .int x1_, .int x2_] M res := fun res h => sg_bodyI (by decide) hi (Nat.le_of_ble_eq_true rfl) (fun X hX C E => by subst hX; exact tX11_did C E _ _ _  _ hq0 h)
def fX11_lay (N : Nat) (a0_ : Nat) (x1_ : Int32) (x2_ : Int32) (M : sg_M) : Option (Int32 × sg_M) :=
  sg_b (fX11_isStrap N a0_ x1_ M) (fun (x2 : Int32) (M1 : sg_M) =>
  if x2 = 0 then (
  some ((-2 : Int32), M1)) else (
  sg_b (fX11_in N (x2_).toInt64 (0 : Int64) (4 : Int64) M1) (fun (x4 : Int32) (M3 : sg_M) =>
  if x4 = 0 then (
  some ((-2 : Int32), M3)) else (
  if sg_ib ((28 : Int32) + x1_) (Yr.2.2.1 (Yr.2.2.2 a0_ 1)) = true then
  sg_m (M3.1 (Yr.2.2.2 a0_ 1) (((28 : Int32) + x1_)).toNatClampNeg) (fun x5 : Int32 =>
  if x5 = x2_ then (
  some ((-5 : Int32), M3)) else (
  sg_b (fX11_isFull N a0_ M3) (fun (x7 : Int32) (M6 : sg_M) =>
  if x7 = 0 then (
  sg_bv (fX11_remembers N a0_ (0 : Int32) x5 M6) (fun M8 : sg_M =>
  if sg_ib ((28 : Int32) + x1_) (Yr.2.2.1 (Yr.2.2.2 a0_ 1)) = true then
  sg_m (sg_uI M8 (Yr.2.2.2 a0_ 1) (((28 : Int32) + x1_)).toNatClampNeg x2_) (fun M9 : sg_M =>
  some (x5, M9))
  else none)) else (
  some ((-5 : Int32), M6)))))
  else none))))
set_option maxHeartbeats 4000000 in
set_option maxRecDepth 100000 in
theorem tX11_lay {ad : Nat → Nat} {X : sg_X} {N : Nat} {r : Int32 × sg_M} (C : sg_C Yr ad X cX11_lay RX11 4 4) (E : sg_eI Yr ad X cX11_lay .int r) : ∀ (a0_ : Nat) (x1_ : Int32) (x2_ : Int32) (M : sg_M), sg_K Yr a0_ 11 → fX11_lay N a0_ x1_ x2_ M = some r → sg_T Yr ad X 4 0 [(0, .ref (ad a0_)), (1, .int x1_), (2, .int x2_)] [] M := by
  intro a0_ x1_ x2_ M hq0 h
  unfold fX11_lay at h
  refine i_aload_n C dX11_lay_0 0 rfl ?_
  refine i_iload_n C dX11_lay_1 1 rfl ?_
  refine s_vcI C [_] vmX11_isStrap lkX11_305 rfl rfl (by decide) hq0 (by decide) rfl rfl (Nat.le_of_ble_eq_true rfl) dX11_lay_2 (ctX11_isStrap C.inj hq0) h (fun x2 M1 h => ?_)
  refine s_if_eq C 20 (by decide) dX11_lay_5 h (fun _ h => ?_) (fun _ h => ?_)
  · refine s_bipush C (-2 : Int32) dX11_lay_20 (by decide) ?_
    exact s_iret C E dX11_lay_22 h
  · refine i_iload_n C dX11_lay_8 2 rfl ?_
    refine s_i2l C dX11_lay_9 ?_
    refine s_lconst C (0 : Int64) dX11_lay_10 (by decide) ?_
    refine s_ldc2 C (4 : Int64) kl_X11_453 dX11_lay_11 ?_
    refine s_scI C [_, _, _] smX11_in lkX11_87 (by decide) rfl rfl (Nat.le_of_ble_eq_true rfl) dX11_lay_14 (ctX11_in C.inj ) h (fun x4 M3 h => ?_)
    refine s_if_ne C 23 (by decide) dX11_lay_17 h (fun _ h => ?_) (fun _ h => ?_)
    · refine s_bipush C (-2 : Int32) dX11_lay_20 (by decide) ?_
      exact s_iret C E dX11_lay_22 h
    · refine i_aload_n C dX11_lay_23 0 rfl ?_
      refine gf11_9 C hq0 dX11_lay_24 ?_
      refine s_bipush C (28 : Int32) dX11_lay_27 (by decide) ?_
      refine i_iload_n C dX11_lay_29 1 rfl ?_
      refine s_iadd C dX11_lay_30 ?_
      refine s_iald C (ky11_1 hq0) dX11_lay_31 h (fun h => ?_)
      refine z_gi h (fun x5 h => ?_)
      refine i_istore_n (lv9 := [(3, _), (0, _), (1, _), (2, _)]) C 3 dX11_lay_32 rfl (by decide) rfl ?_
      refine i_iload_n C dX11_lay_33 0 rfl ?_
      refine i_iload_n C dX11_lay_34 3 rfl ?_
      refine s_icmp_eq C 45 (by decide) dX11_lay_35 h (fun _ h => ?_) (fun _ h => ?_)
      · refine s_bipush C (-5 : Int32) dX11_lay_45 (by decide) ?_
        exact s_iret C E dX11_lay_47 h
      · refine i_aload_n C dX11_lay_38 1 rfl ?_
        refine s_vcI C [] vmX11_isFull lkX11_455 rfl rfl (by decide) hq0 (by decide) rfl rfl (Nat.le_of_ble_eq_true rfl) dX11_lay_39 (ctX11_isFull C.inj hq0) h (fun x7 M6 h => ?_)
        refine s_if_eq C 48 (by decide) dX11_lay_42 h (fun _ h => ?_) (fun _ h => ?_)
        · refine i_aload_n C dX11_lay_48 1 rfl ?_
          refine s_iconst C (0 : Int32) dX11_lay_49 (by decide) ?_
          refine i_iload_n C dX11_lay_50 0 rfl ?_
          refine s_vcV C [_, _] vmX11_remembers lkX11_458 rfl rfl (by decide) hq0 (by decide) rfl rfl (Nat.le_of_ble_eq_true rfl) dX11_lay_51 (ctX11_remembers C.inj hq0) h (fun M8 h => ?_)
          refine i_aload_n C dX11_lay_54 1 rfl ?_
          refine gf11_9 C hq0 dX11_lay_55 ?_
          refine s_bipush C (28 : Int32) dX11_lay_58 (by decide) ?_
          refine i_iload_n C dX11_lay_60 2 rfl ?_
          refine s_iadd C dX11_lay_61 ?_
          refine i_iload_n C dX11_lay_62 3 rfl ?_
          refine s_iast C (ky11_1 hq0) dX11_lay_63 h (fun h => ?_)
          refine z_gM h (fun M9 h => ?_)
          refine i_iload_n C dX11_lay_64 0 rfl ?_
          exact s_iret C E dX11_lay_65 h
        · refine s_bipush C (-5 : Int32) dX11_lay_45 (by decide) ?_
          exact s_iret C E dX11_lay_47 h
theorem ctX11_lay {ad : Nat → Nat} {V : sg_V} {N : Nat} (hi : sg_inj Yr ad) {a0_ : Nat} {x1_ : Int32} {x2_ : Int32} {M : sg_M} (hq0 : sg_K Yr a0_ 11) : ∀ res, fX11_lay N a0_ x1_ x2_ M = some res → sg_cI Yr ad V yX11_lay cX11_lay 4 .int 4 [.ref (ad a0_), .int x1_, .int x2_] M res := fun res h => sg_bodyI (by decide) hi (Nat.le_of_ble_eq_true rfl) (fun X hX C E => by subst hX; exact tX11_lay C E _ _ _  _ hq0 h)
def fX11_feeds (N : Nat) (a0_ : Nat) (x1_ : Int32) (M : sg_M) : Option (Int32 × sg_M) :=
  sg_b (fX11_isNode N a0_ x1_ M) (fun (x2 : Int32) (M1 : sg_M) =>
  if x2 = 0 then (
  some ((-2 : Int32), M1)) else (
  sg_b (fX11_isFull N a0_ M1) (fun (x4 : Int32) (M3 : sg_M) =>
  if x4 = 0 then (
  sg_bv (fX11_remembers N a0_ (1 : Int32) (0 : Int32) M3) (fun M5 : sg_M =>
  if sg_ib (5 : Int32) (Yr.2.2.1 (Yr.2.2.2 a0_ 1)) = true then
  if sg_ib (5 : Int32) (Yr.2.2.1 (Yr.2.2.2 a0_ 1)) = true then
  sg_m (sg_uI M5 (Yr.2.2.2 a0_ 1) ((5 : Int32)).toNatClampNeg ((M5.1 (Yr.2.2.2 a0_ 1) ((5 : Int32)).toNatClampNeg) ^^^ ((1 : Int32) <<< (x1_ &&& 31)))) (fun M6 : sg_M =>
  if sg_ib (5 : Int32) (Yr.2.2.1 (Yr.2.2.2 a0_ 1)) = true then
  sg_b (fX11_bits N (M6.1 (Yr.2.2.2 a0_ 1) ((5 : Int32)).toNatClampNeg) M6) (fun (x8 : Int32) (M7 : sg_M) =>
  some (x8, M7))
  else none)
  else none
  else none)) else (
  some ((-5 : Int32), M3)))))
set_option maxHeartbeats 4000000 in
set_option maxRecDepth 100000 in
theorem tX11_feeds {ad : Nat → Nat} {X : sg_X} {N : Nat} {r : Int32 × sg_M} (C : sg_C Yr ad X cX11_feeds RX11 2 3) (E : sg_eI Yr ad X cX11_feeds .int r) : ∀ (a0_ : Nat) (x1_ : Int32) (M : sg_M), sg_K Yr a0_ 11 → fX11_feeds N a0_ x1_ M = some r → sg_T Yr ad X 2 0 [(0, .ref (ad a0_)), (1, .int x1_)] [] M := by
  intro a0_ x1_ M hq0 h
  unfold fX11_feeds at h
  refine i_aload_n C dX11_feeds_0 0 rfl ?_
  refine i_iload_n C dX11_feeds_1 1 rfl ?_
  refine s_vcI C [_] vmX11_isNode lkX11_308 rfl rfl (by decide) hq0 (by decide) rfl rfl (Nat.le_of_ble_eq_true rfl) dX11_feeds_2 (ctX11_isNode C.inj hq0) h (fun x2 M1 h => ?_)
  refine s_if_ne C 11 (by decide) dX11_feeds_5 h (fun _ h => ?_) (fun _ h => ?_)
  · refine s_bipush C (-2 : Int32) dX11_feeds_8 (by decide) ?_
    exact s_iret C E dX11_feeds_10 h
  · refine i_aload_n C dX11_feeds_11 0 rfl ?_
    refine s_vcI C [] vmX11_isFull lkX11_455 rfl rfl (by decide) hq0 (by decide) rfl rfl (Nat.le_of_ble_eq_true rfl) dX11_feeds_12 (ctX11_isFull C.inj hq0) h (fun x4 M3 h => ?_)
    refine s_if_eq C 21 (by decide) dX11_feeds_15 h (fun _ h => ?_) (fun _ h => ?_)
    · refine i_aload_n C dX11_feeds_21 0 rfl ?_
      refine s_iconst C (1 : Int32) dX11_feeds_22 (by decide) ?_
      refine s_iconst C (0 : Int32) dX11_feeds_23 (by decide) ?_
      refine s_vcV C [_, _] vmX11_remembers lkX11_458 rfl rfl (by decide) hq0 (by decide) rfl rfl (Nat.le_of_ble_eq_true rfl) dX11_feeds_24 (ctX11_remembers C.inj hq0) h (fun M5 h => ?_)
      refine i_aload_n C dX11_feeds_27 0 rfl ?_
      refine gf11_9 C hq0 dX11_feeds_28 ?_
      refine s_iconst C (5 : Int32) dX11_feeds_31 (by decide) ?_
      refine s_dup2 C dX11_feeds_32 rfl rfl ?_
      refine s_iald C (ky11_1 hq0) dX11_feeds_33 h (fun h => ?_)
      refine s_iconst C (1 : Int32) dX11_feeds_34 (by decide) ?_
      refine i_iload_n C dX11_feeds_35 1 rfl ?_
      refine s_ishl C dX11_feeds_36 ?_
      refine s_ixor C dX11_feeds_37 ?_
      refine s_iast C (ky11_1 hq0) dX11_feeds_38 h (fun h => ?_)
      refine z_gM h (fun M6 h => ?_)
      refine i_aload_n C dX11_feeds_39 0 rfl ?_
      refine gf11_9 C hq0 dX11_feeds_40 ?_
      refine s_iconst C (5 : Int32) dX11_feeds_43 (by decide) ?_
      refine s_iald C (ky11_1 hq0) dX11_feeds_44 h (fun h => ?_)
      refine s_scI C [_] smX11_bits lkX11_394 (by decide) rfl rfl (Nat.le_of_ble_eq_true rfl) dX11_feeds_45 (ctX11_bits C.inj ) h (fun x8 M7 h => ?_)
      exact s_iret C E dX11_feeds_48 h
    · refine s_bipush C (-5 : Int32) dX11_feeds_18 (by decide) ?_
      exact s_iret C E dX11_feeds_20 h
theorem ctX11_feeds {ad : Nat → Nat} {V : sg_V} {N : Nat} (hi : sg_inj Yr ad) {a0_ : Nat} {x1_ : Int32} {M : sg_M} (hq0 : sg_K Yr a0_ 11) : ∀ res, fX11_feeds N a0_ x1_ M = some res → sg_cI Yr ad V yX11_feeds cX11_feeds 2 .int 3 [.ref (ad a0_), .int x1_] M res := fun res h => sg_bodyI (by decide) hi (Nat.le_of_ble_eq_true rfl) (fun X hX C E => by subst hX; exact tX11_feeds C E _ _  _ hq0 h)
def fX11_draw (N : Nat) (a0_ : Nat) (x1_ : Int32) (x2_ : Int32) (M : sg_M) : Option (Int32 × sg_M) :=
  sg_b (fX11_isNode N a0_ x1_ M) (fun (x2 : Int32) (M1 : sg_M) =>
  if x2 = 0 then (
  some ((-2 : Int32), M1)) else (
  sg_b (fX11_in N (x2_).toInt64 (0 : Int64) (99 : Int64) M1) (fun (x4 : Int32) (M3 : sg_M) =>
  if x4 = 0 then (
  some ((-2 : Int32), M3)) else (
  if sg_ib ((6 : Int32) + x1_) (Yr.2.2.1 (Yr.2.2.2 a0_ 1)) = true then
  sg_m (M3.1 (Yr.2.2.2 a0_ 1) (((6 : Int32) + x1_)).toNatClampNeg) (fun x5 : Int32 =>
  if x5 = x2_ then (
  some ((-5 : Int32), M3)) else (
  sg_b (fX11_isFull N a0_ M3) (fun (x7 : Int32) (M6 : sg_M) =>
  if x7 = 0 then (
  sg_bv (fX11_remembers N a0_ (2 : Int32) x5 M6) (fun M8 : sg_M =>
  if sg_ib ((6 : Int32) + x1_) (Yr.2.2.1 (Yr.2.2.2 a0_ 1)) = true then
  sg_m (sg_uI M8 (Yr.2.2.2 a0_ 1) (((6 : Int32) + x1_)).toNatClampNeg x2_) (fun M9 : sg_M =>
  some (x5, M9))
  else none)) else (
  some ((-5 : Int32), M6)))))
  else none))))
set_option maxHeartbeats 4000000 in
set_option maxRecDepth 100000 in
theorem tX11_draw {ad : Nat → Nat} {X : sg_X} {N : Nat} {r : Int32 × sg_M} (C : sg_C Yr ad X cX11_draw RX11 4 3) (E : sg_eI Yr ad X cX11_draw .int r) : ∀ (a0_ : Nat) (x1_ : Int32) (x2_ : Int32) (M : sg_M), sg_K Yr a0_ 11 → fX11_draw N a0_ x1_ x2_ M = some r → sg_T Yr ad X 4 0 [(0, .ref (ad a0_)), (1, .int x1_), (2, .int x2_)] [] M := by
  intro a0_ x1_ x2_ M hq0 h
  unfold fX11_draw at h
  refine i_aload_n C dX11_draw_0 0 rfl ?_
  refine i_iload_n C dX11_draw_1 1 rfl ?_
  refine s_vcI C [_] vmX11_isNode lkX11_308 rfl rfl (by decide) hq0 (by decide) rfl rfl (Nat.le_of_ble_eq_true rfl) dX11_draw_2 (ctX11_isNode C.inj hq0) h (fun x2 M1 h => ?_)
  refine s_if_eq C 20 (by decide) dX11_draw_5 h (fun _ h => ?_) (fun _ h => ?_)
  · refine s_bipush C (-2 : Int32) dX11_draw_20 (by decide) ?_
    exact s_iret C E dX11_draw_22 h
  · refine i_iload_n C dX11_draw_8 2 rfl ?_
    refine s_i2l C dX11_draw_9 ?_
    refine s_lconst C (0 : Int64) dX11_draw_10 (by decide) ?_
    refine s_ldc2 C (99 : Int64) kl_X11_461 dX11_draw_11 ?_
    refine s_scI C [_, _, _] smX11_in lkX11_87 (by decide) rfl rfl (Nat.le_of_ble_eq_true rfl) dX11_draw_14 (ctX11_in C.inj ) h (fun x4 M3 h => ?_)
    refine s_if_ne C 23 (by decide) dX11_draw_17 h (fun _ h => ?_) (fun _ h => ?_)
    · refine s_bipush C (-2 : Int32) dX11_draw_20 (by decide) ?_
      exact s_iret C E dX11_draw_22 h
    · refine i_aload_n C dX11_draw_23 0 rfl ?_
      refine gf11_9 C hq0 dX11_draw_24 ?_
      refine s_bipush C (6 : Int32) dX11_draw_27 (by decide) ?_
      refine i_iload_n C dX11_draw_29 1 rfl ?_
      refine s_iadd C dX11_draw_30 ?_
      refine s_iald C (ky11_1 hq0) dX11_draw_31 h (fun h => ?_)
      refine z_gi h (fun x5 h => ?_)
      refine i_istore_n (lv9 := [(3, _), (0, _), (1, _), (2, _)]) C 3 dX11_draw_32 rfl (by decide) rfl ?_
      refine i_iload_n C dX11_draw_33 0 rfl ?_
      refine i_iload_n C dX11_draw_34 3 rfl ?_
      refine s_icmp_eq C 45 (by decide) dX11_draw_35 h (fun _ h => ?_) (fun _ h => ?_)
      · refine s_bipush C (-5 : Int32) dX11_draw_45 (by decide) ?_
        exact s_iret C E dX11_draw_47 h
      · refine i_aload_n C dX11_draw_38 1 rfl ?_
        refine s_vcI C [] vmX11_isFull lkX11_455 rfl rfl (by decide) hq0 (by decide) rfl rfl (Nat.le_of_ble_eq_true rfl) dX11_draw_39 (ctX11_isFull C.inj hq0) h (fun x7 M6 h => ?_)
        refine s_if_eq C 48 (by decide) dX11_draw_42 h (fun _ h => ?_) (fun _ h => ?_)
        · refine i_aload_n C dX11_draw_48 1 rfl ?_
          refine s_iconst C (2 : Int32) dX11_draw_49 (by decide) ?_
          refine i_iload_n C dX11_draw_50 0 rfl ?_
          refine s_vcV C [_, _] vmX11_remembers lkX11_458 rfl rfl (by decide) hq0 (by decide) rfl rfl (Nat.le_of_ble_eq_true rfl) dX11_draw_51 (ctX11_remembers C.inj hq0) h (fun M8 h => ?_)
          refine i_aload_n C dX11_draw_54 1 rfl ?_
          refine gf11_9 C hq0 dX11_draw_55 ?_
          refine s_bipush C (6 : Int32) dX11_draw_58 (by decide) ?_
          refine i_iload_n C dX11_draw_60 2 rfl ?_
          refine s_iadd C dX11_draw_61 ?_
          refine i_iload_n C dX11_draw_62 3 rfl ?_
          refine s_iast C (ky11_1 hq0) dX11_draw_63 h (fun h => ?_)
          refine z_gM h (fun M9 h => ?_)
          refine i_iload_n C dX11_draw_64 0 rfl ?_
          exact s_iret C E dX11_draw_65 h
        · refine s_bipush C (-5 : Int32) dX11_draw_45 (by decide) ?_
          exact s_iret C E dX11_draw_47 h
theorem ctX11_draw {ad : Nat → Nat} {V : sg_V} {N : Nat} (hi : sg_inj Yr ad) {a0_ : Nat} {x1_ : Int32} {x2_ : Int32} {M : sg_M} (hq0 : sg_K Yr a0_ 11) : ∀ res, fX11_draw N a0_ x1_ x2_ M = some res → sg_cI Yr ad V yX11_draw cX11_draw 4 .int 3 [.ref (ad a0_), .int x1_, .int x2_] M res := fun res h => sg_bodyI (by decide) hi (Nat.le_of_ble_eq_true rfl) (fun X hX C E => by subst hX; exact tX11_draw C E _ _ _  _ hq0 h)
def bX11_year_29 (N : Nat)  (k29 : (Nat × Int32 × Int32 × Int32) → sg_M → Option (Int32 × sg_M)) (s : Nat × Int32 × Int32 × Int32) (M : sg_M) : Option (Int32 × sg_M) :=
  if (M.1 s.1 8) ≤ s.2.2.2 then (
  sg_bv (fX11_remembers N s.1 (3 : Int32) s.2.2.1 M) (fun M1 : sg_M =>
  sg_b (fX11_ages N s.1 M1) (fun (x3 : Int32) (M2 : sg_M) =>
  some (s.2.2.1, M2)))) else (
  sg_b (fX11_isOf N s.2.1 s.2.2.2 M) (fun (x5 : Int32) (M4 : sg_M) =>
  if x5 = 0 then (
  sg_m (s.2.2.1 + (0 : Int32)) (fun x6 : Int32 =>
  sg_m (s.2.2.2 + (1 : Int32)) (fun x7 : Int32 =>
  k29 (s.1, s.2.1, x6, x7) M4))) else (
  sg_m (s.2.2.1 + (1 : Int32)) (fun x8 : Int32 =>
  sg_m (s.2.2.2 + (1 : Int32)) (fun x9 : Int32 =>
  k29 (s.1, s.2.1, x8, x9) M4)))))
def gX11_year_29 (N : Nat)  : (Nat × Int32 × Int32 × Int32) → sg_M → Option (Int32 × sg_M) := sg_lp (bX11_year_29 N ) N
set_option maxHeartbeats 4000000 in
set_option maxRecDepth 100000 in
theorem tX11_year_29 {ad : Nat → Nat} {X : sg_X} {N : Nat} {r : Int32 × sg_M} (C : sg_C Yr ad X cX11_year RX11 4 7) (E : sg_eI Yr ad X cX11_year .int r)  : ∀ (s : Nat × Int32 × Int32 × Int32) (M : sg_M), gX11_year_29 N s M = some r → sg_K Yr s.1 11 → sg_T Yr ad X 4 29 [(0, .ref (ad (s.1))), (1, .int (s.2.1)), (2, .int (s.2.2.1)), (3, .int (s.2.2.2))] [] M := by
  have key : ∀ n : Nat, ∀ (s : Nat × Int32 × Int32 × Int32) (M : sg_M), sg_lp (bX11_year_29 N) n s M = some r → sg_K Yr s.1 11 → sg_T Yr ad X 4 29 [(0, .ref (ad (s.1))), (1, .int (s.2.1)), (2, .int (s.2.2.1)), (3, .int (s.2.2.2))] [] M := by
    intro n
    induction n with
    | zero => intro s M h; cases h
    | succ n ih =>
      intro s M h hq0
      have h : bX11_year_29 N (sg_lp (bX11_year_29 N) n) s M = some r := h
      generalize sg_lp (bX11_year_29 N) n = k29 at h ih
      have hk29 := ih
      unfold bX11_year_29 at h
      refine i_iload_n C dX11_year_29 3 rfl ?_
      refine i_aload_n C dX11_year_30 0 rfl ?_
      refine gf11_102 C hq0 dX11_year_31 ?_
      refine s_icmp_ge C 59 (by decide) dX11_year_34 h (fun _ h => ?_) (fun _ h => ?_)
      · refine i_aload_n C dX11_year_59 0 rfl ?_
        refine s_iconst C (3 : Int32) dX11_year_60 (by decide) ?_
        refine i_iload_n C dX11_year_61 2 rfl ?_
        refine s_vcV C [_, _] vmX11_remembers lkX11_458 rfl rfl (by decide) hq0 (by decide) rfl rfl (Nat.le_of_ble_eq_true rfl) dX11_year_62 (ctX11_remembers C.inj hq0) h (fun M1 h => ?_)
        refine i_aload_n C dX11_year_65 0 rfl ?_
        refine s_vcI C [] vmX11_ages lkX11_363 rfl rfl (by decide) hq0 (by decide) rfl rfl (Nat.le_of_ble_eq_true rfl) dX11_year_66 (ctX11_ages C.inj hq0) h (fun x3 M2 h => ?_)
        refine s_pop C dX11_year_69 rfl ?_
        refine i_iload_n C dX11_year_70 2 rfl ?_
        exact s_iret C E dX11_year_71 h
      · refine i_iload_n C dX11_year_37 2 rfl ?_
        refine i_iload_n C dX11_year_38 1 rfl ?_
        refine i_iload_n C dX11_year_39 3 rfl ?_
        refine s_scI C [_, _] smX11_isOf lkX11_209 (by decide) rfl rfl (Nat.le_of_ble_eq_true rfl) dX11_year_40 (ctX11_isOf C.inj ) h (fun x5 M4 h => ?_)
        refine s_if_eq C 50 (by decide) dX11_year_43 h (fun _ h => ?_) (fun _ h => ?_)
        · refine s_iconst C (0 : Int32) dX11_year_50 (by decide) ?_
          refine s_iadd C dX11_year_51 ?_
          refine z_gi h (fun x6 h => ?_)
          refine i_istore_n (lv9 := [(2, _), (0, _), (1, _), (3, _)]) C 2 dX11_year_52 rfl (by decide) rfl ?_
          refine z_iinc (n := 1) (c9 := (1 : Int32)) (by decide) h (fun x7 hx h => ?_)
          refine i_iinc (lv9 := [(3, _), (2, _), (0, _), (1, _)]) C dX11_year_53 3 rfl hx (by decide) rfl ?_
          refine s_goto C 29 (by decide) dX11_year_56 ?_
          exact sg_T.to (hk29 _ _ h hq0) [2, 3, 1, 0] rfl
        · refine s_iconst C (1 : Int32) dX11_year_46 (by decide) ?_
          refine s_goto C 51 (by decide) dX11_year_47 ?_
          refine s_iadd C dX11_year_51 ?_
          refine z_gi h (fun x8 h => ?_)
          refine i_istore_n (lv9 := [(2, _), (0, _), (1, _), (3, _)]) C 2 dX11_year_52 rfl (by decide) rfl ?_
          refine z_iinc (n := 1) (c9 := (1 : Int32)) (by decide) h (fun x9 hx h => ?_)
          refine i_iinc (lv9 := [(3, _), (2, _), (0, _), (1, _)]) C dX11_year_53 3 rfl hx (by decide) rfl ?_
          refine s_goto C 29 (by decide) dX11_year_56 ?_
          exact sg_T.to (hk29 _ _ h hq0) [2, 3, 1, 0] rfl
  exact key N
def fX11_year (N : Nat) (a0_ : Nat) (M : sg_M) : Option (Int32 × sg_M) :=
  sg_b (fX11_isGrid N a0_ M) (fun (x11 : Int32) (M10 : sg_M) =>
  if x11 = 0 then (
  some ((-2 : Int32), M10)) else (
  sg_b (fX11_isFull N a0_ M10) (fun (x13 : Int32) (M12 : sg_M) =>
  if x13 = 0 then (
  sg_b (fX11_wears N a0_ M12) (fun (x15 : Int32) (M14 : sg_M) =>
  sg_m x15 (fun x16 : Int32 =>
  sg_m (0 : Int32) (fun x17 : Int32 =>
  sg_m (0 : Int32) (fun x18 : Int32 =>
  gX11_year_29 N (a0_, x16, x17, x18) M14))))) else (
  some ((-5 : Int32), M12)))))
set_option maxHeartbeats 4000000 in
set_option maxRecDepth 100000 in
theorem tX11_year {ad : Nat → Nat} {X : sg_X} {N : Nat} {r : Int32 × sg_M} (C : sg_C Yr ad X cX11_year RX11 4 7) (E : sg_eI Yr ad X cX11_year .int r) : ∀ (a0_ : Nat) (M : sg_M), sg_K Yr a0_ 11 → fX11_year N a0_ M = some r → sg_T Yr ad X 4 0 [(0, .ref (ad a0_))] [] M := by
  intro a0_ M hq0 h
  unfold fX11_year at h
  refine i_aload_n C dX11_year_0 0 rfl ?_
  refine s_vcI C [] vmX11_isGrid lkX11_109 rfl rfl (by decide) hq0 (by decide) rfl rfl (Nat.le_of_ble_eq_true rfl) dX11_year_1 (ctX11_isGrid C.inj hq0) h (fun x11 M10 h => ?_)
  refine s_if_ne C 10 (by decide) dX11_year_4 h (fun _ h => ?_) (fun _ h => ?_)
  · refine s_bipush C (-2 : Int32) dX11_year_7 (by decide) ?_
    exact s_iret C E dX11_year_9 h
  · refine i_aload_n C dX11_year_10 0 rfl ?_
    refine s_vcI C [] vmX11_isFull lkX11_455 rfl rfl (by decide) hq0 (by decide) rfl rfl (Nat.le_of_ble_eq_true rfl) dX11_year_11 (ctX11_isFull C.inj hq0) h (fun x13 M12 h => ?_)
    refine s_if_eq C 20 (by decide) dX11_year_14 h (fun _ h => ?_) (fun _ h => ?_)
    · refine i_aload_n C dX11_year_20 0 rfl ?_
      refine s_vcI C [] vmX11_wears lkX11_355 rfl rfl (by decide) hq0 (by decide) rfl rfl (Nat.le_of_ble_eq_true rfl) dX11_year_21 (ctX11_wears C.inj hq0) h (fun x15 M14 h => ?_)
      refine z_gi h (fun x16 h => ?_)
      refine i_istore_n (lv9 := [(1, _), (0, _)]) C 1 dX11_year_24 rfl (by decide) rfl ?_
      refine s_iconst C (0 : Int32) dX11_year_25 (by decide) ?_
      refine z_gi h (fun x17 h => ?_)
      refine i_istore_n (lv9 := [(2, _), (1, _), (0, _)]) C 2 dX11_year_26 rfl (by decide) rfl ?_
      refine s_iconst C (0 : Int32) dX11_year_27 (by decide) ?_
      refine z_gi h (fun x18 h => ?_)
      refine i_istore_n (lv9 := [(3, _), (2, _), (1, _), (0, _)]) C 3 dX11_year_28 rfl (by decide) rfl ?_
      exact sg_T.to (tX11_year_29 C E _ _ h hq0) [3, 2, 1, 0] rfl
    · refine s_bipush C (-5 : Int32) dX11_year_17 (by decide) ?_
      exact s_iret C E dX11_year_19 h
theorem ctX11_year {ad : Nat → Nat} {V : sg_V} {N : Nat} (hi : sg_inj Yr ad) {a0_ : Nat} {M : sg_M} (hq0 : sg_K Yr a0_ 11) : ∀ res, fX11_year N a0_ M = some res → sg_cI Yr ad V yX11_year cX11_year 4 .int 7 [.ref (ad a0_)] M res := fun res h => sg_bodyI (by decide) hi (Nat.le_of_ble_eq_true rfl) (fun X hX C E => by subst hX; exact tX11_year C E _  _ hq0 h)
def bX11_takesBack_12 (N : Nat)  (k12 : (Nat × Int32) → sg_M → Option (sg_M)) (s : Nat × Int32) (M : sg_M) : Option (sg_M) :=
  if (40 : Int32) ≤ s.2 then (
  some M) else (
  if sg_ib (((42 : Int32) * (M.1 s.1 4)) + s.2) (Yr.2.2.1 (Yr.2.2.2 s.1 3)) = true then
  if sg_ib s.2 (Yr.2.2.1 (Yr.2.2.2 s.1 1)) = true then
  sg_m (sg_uI M (Yr.2.2.2 s.1 1) (s.2).toNatClampNeg (M.1 (Yr.2.2.2 s.1 3) ((((42 : Int32) * (M.1 s.1 4)) + s.2)).toNatClampNeg)) (fun M1 : sg_M =>
  sg_m (s.2 + (1 : Int32)) (fun x2 : Int32 =>
  k12 (s.1, x2) M1))
  else none
  else none)
def gX11_takesBack_12 (N : Nat)  : (Nat × Int32) → sg_M → Option (sg_M) := sg_lp (bX11_takesBack_12 N ) N
set_option maxHeartbeats 4000000 in
set_option maxRecDepth 100000 in
theorem tX11_takesBack_12 {ad : Nat → Nat} {X : sg_X} {N : Nat} {r : sg_M} (C : sg_C Yr ad X cX11_takesBack RX11 2 0) (E : sg_eV Yr ad X cX11_takesBack r)  : ∀ (s : Nat × Int32) (M : sg_M), gX11_takesBack_12 N s M = some r → sg_K Yr s.1 11 → sg_T Yr ad X 2 12 [(0, .ref (ad (s.1))), (1, .int (s.2))] [] M := by
  have key : ∀ n : Nat, ∀ (s : Nat × Int32) (M : sg_M), sg_lp (bX11_takesBack_12 N) n s M = some r → sg_K Yr s.1 11 → sg_T Yr ad X 2 12 [(0, .ref (ad (s.1))), (1, .int (s.2))] [] M := by
    intro n
    induction n with
    | zero => intro s M h; cases h
    | succ n ih =>
      intro s M h hq0
      have h : bX11_takesBack_12 N (sg_lp (bX11_takesBack_12 N) n) s M = some r := h
      generalize sg_lp (bX11_takesBack_12 N) n = k12 at h ih
      have hk12 := ih
      unfold bX11_takesBack_12 at h
      refine i_iload_n C dX11_takesBack_12 1 rfl ?_
      refine s_bipush C (40 : Int32) dX11_takesBack_13 (by decide) ?_
      refine s_icmp_ge C 44 (by decide) dX11_takesBack_15 h (fun _ h => ?_) (fun _ h => ?_)
      · exact s_vret C E dX11_takesBack_44 h
      · refine i_aload_n C dX11_takesBack_18 0 rfl ?_
        refine gf11_9 C hq0 dX11_takesBack_19 ?_
        refine i_iload_n C dX11_takesBack_22 1 rfl ?_
        refine i_aload_n C dX11_takesBack_23 0 rfl ?_
        refine gf11_16 C hq0 dX11_takesBack_24 ?_
        refine s_bipush C (42 : Int32) dX11_takesBack_27 (by decide) ?_
        refine i_aload_n C dX11_takesBack_29 0 rfl ?_
        refine gf11_91 C hq0 dX11_takesBack_30 ?_
        refine s_imul C dX11_takesBack_33 ?_
        refine i_iload_n C dX11_takesBack_34 1 rfl ?_
        refine s_iadd C dX11_takesBack_35 ?_
        refine s_iald C (ky11_3 hq0) dX11_takesBack_36 h (fun h => ?_)
        refine s_iast C (ky11_1 hq0) dX11_takesBack_37 h (fun h => ?_)
        refine z_gM h (fun M1 h => ?_)
        refine z_iinc (n := 1) (c9 := (1 : Int32)) (by decide) h (fun x2 hx h => ?_)
        refine i_iinc (lv9 := [(1, _), (0, _)]) C dX11_takesBack_38 1 rfl hx (by decide) rfl ?_
        refine s_goto C 12 (by decide) dX11_takesBack_41 ?_
        exact sg_T.to (hk12 _ _ h hq0) [1, 0] rfl
  exact key N
def fX11_takesBack (N : Nat) (a0_ : Nat) (M : sg_M) : Option (sg_M) :=
  sg_m (sg_uI M a0_ 4 ((M.1 a0_ 4) - (1 : Int32))) (fun M3 : sg_M =>
  sg_m (0 : Int32) (fun x4 : Int32 =>
  gX11_takesBack_12 N (a0_, x4) M3))
set_option maxHeartbeats 4000000 in
set_option maxRecDepth 100000 in
theorem tX11_takesBack {ad : Nat → Nat} {X : sg_X} {N : Nat} {r : sg_M} (C : sg_C Yr ad X cX11_takesBack RX11 2 0) (E : sg_eV Yr ad X cX11_takesBack r) : ∀ (a0_ : Nat) (M : sg_M), sg_K Yr a0_ 11 → fX11_takesBack N a0_ M = some r → sg_T Yr ad X 2 0 [(0, .ref (ad a0_))] [] M := by
  intro a0_ M hq0 h
  unfold fX11_takesBack at h
  refine i_aload_n C dX11_takesBack_0 0 rfl ?_
  refine s_dup C dX11_takesBack_1 rfl ?_
  refine gf11_91 C hq0 dX11_takesBack_2 ?_
  refine s_iconst C (1 : Int32) dX11_takesBack_5 (by decide) ?_
  refine s_isub C dX11_takesBack_6 ?_
  refine pf11_91 C hq0 dX11_takesBack_7 ?_
  refine z_gM h (fun M3 h => ?_)
  refine s_iconst C (0 : Int32) dX11_takesBack_10 (by decide) ?_
  refine z_gi h (fun x4 h => ?_)
  refine i_istore_n (lv9 := [(1, _), (0, _)]) C 1 dX11_takesBack_11 rfl (by decide) rfl ?_
  exact sg_T.to (tX11_takesBack_12 C E _ _ h hq0) [1, 0] rfl
theorem ctX11_takesBack {ad : Nat → Nat} {V : sg_V} {N : Nat} (hi : sg_inj Yr ad) {a0_ : Nat} {M : sg_M} (hq0 : sg_K Yr a0_ 11) : ∀ res, fX11_takesBack N a0_ M = some res → sg_cV Yr ad V yX11_takesBack cX11_takesBack 2 0 [.ref (ad a0_)] M res := fun res h => sg_bodyV (by decide) hi (Nat.le_of_ble_eq_true rfl) (fun X hX C E => by subst hX; exact tX11_takesBack C E _  _ hq0 h)
def fX11_undo (N : Nat) (a0_ : Nat) (M : sg_M) : Option (Int32 × sg_M) :=
  sg_b (fX11_isGrid N a0_ M) (fun (x2 : Int32) (M1 : sg_M) =>
  if x2 = 0 then (
  some ((-2 : Int32), M1)) else (
  if (M1.1 a0_ 4) = 0 then (
  some ((-5 : Int32), M1)) else (
  sg_bv (fX11_takesBack N a0_ M1) (fun M3 : sg_M =>
  some ((M3.1 a0_ 4), M3)))))
set_option maxHeartbeats 4000000 in
set_option maxRecDepth 100000 in
theorem tX11_undo {ad : Nat → Nat} {X : sg_X} {N : Nat} {r : Int32 × sg_M} (C : sg_C Yr ad X cX11_undo RX11 1 1) (E : sg_eI Yr ad X cX11_undo .int r) : ∀ (a0_ : Nat) (M : sg_M), sg_K Yr a0_ 11 → fX11_undo N a0_ M = some r → sg_T Yr ad X 1 0 [(0, .ref (ad a0_))] [] M := by
  intro a0_ M hq0 h
  unfold fX11_undo at h
  refine i_aload_n C dX11_undo_0 0 rfl ?_
  refine s_vcI C [] vmX11_isGrid lkX11_109 rfl rfl (by decide) hq0 (by decide) rfl rfl (Nat.le_of_ble_eq_true rfl) dX11_undo_1 (ctX11_isGrid C.inj hq0) h (fun x2 M1 h => ?_)
  refine s_if_ne C 10 (by decide) dX11_undo_4 h (fun _ h => ?_) (fun _ h => ?_)
  · refine s_bipush C (-2 : Int32) dX11_undo_7 (by decide) ?_
    exact s_iret C E dX11_undo_9 h
  · refine i_aload_n C dX11_undo_10 0 rfl ?_
    refine gf11_91 C hq0 dX11_undo_11 ?_
    refine s_if_ne C 20 (by decide) dX11_undo_14 h (fun _ h => ?_) (fun _ h => ?_)
    · refine s_bipush C (-5 : Int32) dX11_undo_17 (by decide) ?_
      exact s_iret C E dX11_undo_19 h
    · refine i_aload_n C dX11_undo_20 0 rfl ?_
      refine s_vcV C [] vmX11_takesBack lkX11_463 rfl rfl (by decide) hq0 (by decide) rfl rfl (Nat.le_of_ble_eq_true rfl) dX11_undo_21 (ctX11_takesBack C.inj hq0) h (fun M3 h => ?_)
      refine i_aload_n C dX11_undo_24 0 rfl ?_
      refine gf11_91 C hq0 dX11_undo_25 ?_
      exact s_iret C E dX11_undo_28 h
theorem ctX11_undo {ad : Nat → Nat} {V : sg_V} {N : Nat} (hi : sg_inj Yr ad) {a0_ : Nat} {M : sg_M} (hq0 : sg_K Yr a0_ 11) : ∀ res, fX11_undo N a0_ M = some res → sg_cI Yr ad V yX11_undo cX11_undo 1 .int 1 [.ref (ad a0_)] M res := fun res h => sg_bodyI (by decide) hi (Nat.le_of_ble_eq_true rfl) (fun X hX C E => by subst hX; exact tX11_undo C E _  _ hq0 h)
def bX11_anew_15 (N : Nat)  (k15 : (Nat × Int32) → sg_M → Option (Int32 × sg_M)) (s : Nat × Int32) (M : sg_M) : Option (Int32 × sg_M) :=
  if (M.1 s.1 4) ≤ 0 then (
  some (s.2, M)) else (
  sg_bv (fX11_takesBack N s.1 M) (fun M1 : sg_M =>
  k15 (s.1, s.2) M1))
def gX11_anew_15 (N : Nat)  : (Nat × Int32) → sg_M → Option (Int32 × sg_M) := sg_lp (bX11_anew_15 N ) N
set_option maxHeartbeats 4000000 in
set_option maxRecDepth 100000 in
theorem tX11_anew_15 {ad : Nat → Nat} {X : sg_X} {N : Nat} {r : Int32 × sg_M} (C : sg_C Yr ad X cX11_anew RX11 2 1) (E : sg_eI Yr ad X cX11_anew .int r)  : ∀ (s : Nat × Int32) (M : sg_M), gX11_anew_15 N s M = some r → sg_K Yr s.1 11 → sg_T Yr ad X 2 15 [(0, .ref (ad (s.1))), (1, .int (s.2))] [] M := by
  have key : ∀ n : Nat, ∀ (s : Nat × Int32) (M : sg_M), sg_lp (bX11_anew_15 N) n s M = some r → sg_K Yr s.1 11 → sg_T Yr ad X 2 15 [(0, .ref (ad (s.1))), (1, .int (s.2))] [] M := by
    intro n
    induction n with
    | zero => intro s M h; cases h
    | succ n ih =>
      intro s M h hq0
      have h : bX11_anew_15 N (sg_lp (bX11_anew_15 N) n) s M = some r := h
      generalize sg_lp (bX11_anew_15 N) n = k15 at h ih
      have hk15 := ih
      unfold bX11_anew_15 at h
      refine i_aload_n C dX11_anew_15 0 rfl ?_
      refine gf11_91 C hq0 dX11_anew_16 ?_
      refine s_if_le C 29 (by decide) dX11_anew_19 h (fun _ h => ?_) (fun _ h => ?_)
      · refine i_iload_n C dX11_anew_29 1 rfl ?_
        exact s_iret C E dX11_anew_30 h
      · refine i_aload_n C dX11_anew_22 0 rfl ?_
        refine s_vcV C [] vmX11_takesBack lkX11_463 rfl rfl (by decide) hq0 (by decide) rfl rfl (Nat.le_of_ble_eq_true rfl) dX11_anew_23 (ctX11_takesBack C.inj hq0) h (fun M1 h => ?_)
        refine s_goto C 15 (by decide) dX11_anew_26 ?_
        exact sg_T.to (hk15 _ _ h hq0) [0, 1] rfl
  exact key N
def fX11_anew (N : Nat) (a0_ : Nat) (M : sg_M) : Option (Int32 × sg_M) :=
  sg_b (fX11_isGrid N a0_ M) (fun (x3 : Int32) (M2 : sg_M) =>
  if x3 = 0 then (
  some ((-2 : Int32), M2)) else (
  sg_m (M2.1 a0_ 4) (fun x4 : Int32 =>
  gX11_anew_15 N (a0_, x4) M2)))
set_option maxHeartbeats 4000000 in
set_option maxRecDepth 100000 in
theorem tX11_anew {ad : Nat → Nat} {X : sg_X} {N : Nat} {r : Int32 × sg_M} (C : sg_C Yr ad X cX11_anew RX11 2 1) (E : sg_eI Yr ad X cX11_anew .int r) : ∀ (a0_ : Nat) (M : sg_M), sg_K Yr a0_ 11 → fX11_anew N a0_ M = some r → sg_T Yr ad X 2 0 [(0, .ref (ad a0_))] [] M := by
  intro a0_ M hq0 h
  unfold fX11_anew at h
  refine i_aload_n C dX11_anew_0 0 rfl ?_
  refine s_vcI C [] vmX11_isGrid lkX11_109 rfl rfl (by decide) hq0 (by decide) rfl rfl (Nat.le_of_ble_eq_true rfl) dX11_anew_1 (ctX11_isGrid C.inj hq0) h (fun x3 M2 h => ?_)
  refine s_if_ne C 10 (by decide) dX11_anew_4 h (fun _ h => ?_) (fun _ h => ?_)
  · refine s_bipush C (-2 : Int32) dX11_anew_7 (by decide) ?_
    exact s_iret C E dX11_anew_9 h
  · refine i_aload_n C dX11_anew_10 0 rfl ?_
    refine gf11_91 C hq0 dX11_anew_11 ?_
    refine z_gi h (fun x4 h => ?_)
    refine i_istore_n (lv9 := [(1, _), (0, _)]) C 1 dX11_anew_14 rfl (by decide) rfl ?_
    exact sg_T.to (tX11_anew_15 C E _ _ h hq0) [1, 0] rfl
theorem ctX11_anew {ad : Nat → Nat} {V : sg_V} {N : Nat} (hi : sg_inj Yr ad) {a0_ : Nat} {M : sg_M} (hq0 : sg_K Yr a0_ 11) : ∀ res, fX11_anew N a0_ M = some res → sg_cI Yr ad V yX11_anew cX11_anew 2 .int 1 [.ref (ad a0_)] M res := fun res h => sg_bodyI (by decide) hi (Nat.le_of_ble_eq_true rfl) (fun X hX C E => by subst hX; exact tX11_anew C E _  _ hq0 h)
