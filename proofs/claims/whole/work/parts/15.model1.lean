def fX11_in (N : Nat) (x0_ : Int64) (x2_ : Int64) (x4_ : Int64) (M : sg_M) : Option (Int32 × sg_M) :=
  if (lg_cmp x0_ x2_) < 0 then (
  some ((0 : Int32), M)) else (
  if 0 < (lg_cmp x0_ x4_) then (
  some ((0 : Int32), M)) else (
  some ((1 : Int32), M)))
set_option maxHeartbeats 4000000 in
set_option maxRecDepth 100000 in
theorem tX11_in {ad : Nat → Nat} {X : sg_X} {N : Nat} {r : Int32 × sg_M} (C : sg_C Yr ad X cX11_in RX11 6 0) (E : sg_eI Yr ad X cX11_in .boolean r) : ∀ (x0_ : Int64) (x2_ : Int64) (x4_ : Int64) (M : sg_M), fX11_in N x0_ x2_ x4_ M = some r → sg_T Yr ad X 6 0 [(0, .long x0_), (2, .long x2_), (4, .long x4_)] [] M := by
  intro x0_ x2_ x4_ M  h
  unfold fX11_in at h
  refine i_lload_n C dX11_in_0 0 rfl ?_
  refine i_lload_n C dX11_in_1 1 rfl ?_
  refine s_lcmp C dX11_in_2 ?_
  refine s_if_lt C 17 (by decide) dX11_in_3 h (fun _ h => ?_) (fun _ h => ?_)
  · refine s_iconst C (0 : Int32) dX11_in_17 (by decide) ?_
    exact s_zret1 C E (by decide) dX11_in_18 h
  · refine i_lload_n C dX11_in_6 0 rfl ?_
    refine i_lload C dX11_in_7 2 rfl ?_
    refine s_lcmp C dX11_in_9 ?_
    refine s_if_gt C 17 (by decide) dX11_in_10 h (fun _ h => ?_) (fun _ h => ?_)
    · refine s_iconst C (0 : Int32) dX11_in_17 (by decide) ?_
      exact s_zret1 C E (by decide) dX11_in_18 h
    · refine s_iconst C (1 : Int32) dX11_in_13 (by decide) ?_
      refine s_goto C 18 (by decide) dX11_in_14 ?_
      exact s_zret1 C E (by decide) dX11_in_18 h
theorem ctX11_in {ad : Nat → Nat} {V : sg_V} {N : Nat} (hi : sg_inj Yr ad) {x0_ : Int64} {x2_ : Int64} {x4_ : Int64} {M : sg_M}  : ∀ res, fX11_in N x0_ x2_ x4_ M = some res → sg_cI Yr ad V yX11_in cX11_in 6 .boolean 0 [.long x0_, .long x2_, .long x4_] M res := fun res h => sg_bodyI (by decide) hi (Nat.le_of_ble_eq_true rfl) (fun X hX C E => by subst hX; exact tX11_in C E _ _ _  _ h)
def fX11_isOf (N : Nat) (x0_ : Int32) (x1_ : Int32) (M : sg_M) : Option (Int32 × sg_M) :=
  if ((x0_ >>> (x1_ &&& 31)) &&& (1 : Int32)) = (1 : Int32) then (
  some ((1 : Int32), M)) else (
  some ((0 : Int32), M))
set_option maxHeartbeats 4000000 in
set_option maxRecDepth 100000 in
theorem tX11_isOf {ad : Nat → Nat} {X : sg_X} {N : Nat} {r : Int32 × sg_M} (C : sg_C Yr ad X cX11_isOf RX11 2 0) (E : sg_eI Yr ad X cX11_isOf .boolean r) : ∀ (x0_ : Int32) (x1_ : Int32) (M : sg_M), fX11_isOf N x0_ x1_ M = some r → sg_T Yr ad X 2 0 [(0, .int x0_), (1, .int x1_)] [] M := by
  intro x0_ x1_ M  h
  unfold fX11_isOf at h
  refine i_iload_n C dX11_isOf_0 0 rfl ?_
  refine i_iload_n C dX11_isOf_1 1 rfl ?_
  refine s_ishr C dX11_isOf_2 ?_
  refine s_iconst C (1 : Int32) dX11_isOf_3 (by decide) ?_
  refine s_iand C dX11_isOf_4 ?_
  refine s_iconst C (1 : Int32) dX11_isOf_5 (by decide) ?_
  refine s_icmp_ne C 13 (by decide) dX11_isOf_6 h (fun _ h => ?_) (fun _ h => ?_)
  · refine s_iconst C (1 : Int32) dX11_isOf_9 (by decide) ?_
    refine s_goto C 14 (by decide) dX11_isOf_10 ?_
    exact s_zret1 C E (by decide) dX11_isOf_14 h
  · refine s_iconst C (0 : Int32) dX11_isOf_13 (by decide) ?_
    exact s_zret1 C E (by decide) dX11_isOf_14 h
theorem ctX11_isOf {ad : Nat → Nat} {V : sg_V} {N : Nat} (hi : sg_inj Yr ad) {x0_ : Int32} {x1_ : Int32} {M : sg_M}  : ∀ res, fX11_isOf N x0_ x1_ M = some res → sg_cI Yr ad V yX11_isOf cX11_isOf 2 .boolean 0 [.int x0_, .int x1_] M res := fun res h => sg_bodyI (by decide) hi (Nat.le_of_ble_eq_true rfl) (fun X hX C E => by subst hX; exact tX11_isOf C E _ _  _ h)
def bX11_bits_4 (N : Nat)  (k4 : (Int32 × Int32 × Int32) → sg_M → Option (Int32 × sg_M)) (s : Int32 × Int32 × Int32) (M : sg_M) : Option (Int32 × sg_M) :=
  if (9 : Int32) ≤ s.2.2 then (
  some (s.2.1, M)) else (
  sg_m (s.2.1 + ((s.1 >>> (s.2.2 &&& 31)) &&& (1 : Int32))) (fun x1 : Int32 =>
  sg_m (s.2.2 + (1 : Int32)) (fun x2 : Int32 =>
  k4 (s.1, x1, x2) M)))
def gX11_bits_4 (N : Nat)  : (Int32 × Int32 × Int32) → sg_M → Option (Int32 × sg_M) := sg_lp (bX11_bits_4 N ) N
set_option maxHeartbeats 4000000 in
set_option maxRecDepth 100000 in
theorem tX11_bits_4 {ad : Nat → Nat} {X : sg_X} {N : Nat} {r : Int32 × sg_M} (C : sg_C Yr ad X cX11_bits RX11 3 0) (E : sg_eI Yr ad X cX11_bits .int r)  : ∀ (s : Int32 × Int32 × Int32) (M : sg_M), gX11_bits_4 N s M = some r → sg_T Yr ad X 3 4 [(0, .int (s.1)), (1, .int (s.2.1)), (2, .int (s.2.2))] [] M := by
  have key : ∀ n : Nat, ∀ (s : Int32 × Int32 × Int32) (M : sg_M), sg_lp (bX11_bits_4 N) n s M = some r → sg_T Yr ad X 3 4 [(0, .int (s.1)), (1, .int (s.2.1)), (2, .int (s.2.2))] [] M := by
    intro n
    induction n with
    | zero => intro s M h; cases h
    | succ n ih =>
      intro s M h 
      have h : bX11_bits_4 N (sg_lp (bX11_bits_4 N) n) s M = some r := h
      generalize sg_lp (bX11_bits_4 N) n = k4 at h ih
      have hk4 := ih
      unfold bX11_bits_4 at h
      refine i_iload_n C dX11_bits_4 2 rfl ?_
      refine s_bipush C (9 : Int32) dX11_bits_5 (by decide) ?_
      refine s_icmp_ge C 24 (by decide) dX11_bits_7 h (fun _ h => ?_) (fun _ h => ?_)
      · refine i_iload_n C dX11_bits_24 1 rfl ?_
        exact s_iret C E dX11_bits_25 h
      · refine i_iload_n C dX11_bits_10 1 rfl ?_
        refine i_iload_n C dX11_bits_11 0 rfl ?_
        refine i_iload_n C dX11_bits_12 2 rfl ?_
        refine s_ishr C dX11_bits_13 ?_
        refine s_iconst C (1 : Int32) dX11_bits_14 (by decide) ?_
        refine s_iand C dX11_bits_15 ?_
        refine s_iadd C dX11_bits_16 ?_
        refine z_gi h (fun x1 h => ?_)
        refine i_istore_n (lv9 := [(1, _), (0, _), (2, _)]) C 1 dX11_bits_17 rfl (by decide) rfl ?_
        refine z_iinc (n := 1) (c9 := (1 : Int32)) (by decide) h (fun x2 hx h => ?_)
        refine i_iinc (lv9 := [(2, _), (1, _), (0, _)]) C dX11_bits_18 2 rfl hx (by decide) rfl ?_
        refine s_goto C 4 (by decide) dX11_bits_21 ?_
        exact sg_T.to (hk4 _ _ h ) [2, 1, 0] rfl
  exact key N
def fX11_bits (N : Nat) (x0_ : Int32) (M : sg_M) : Option (Int32 × sg_M) :=
  sg_m (0 : Int32) (fun x3 : Int32 =>
  sg_m (0 : Int32) (fun x4 : Int32 =>
  gX11_bits_4 N (x0_, x3, x4) M))
set_option maxHeartbeats 4000000 in
set_option maxRecDepth 100000 in
theorem tX11_bits {ad : Nat → Nat} {X : sg_X} {N : Nat} {r : Int32 × sg_M} (C : sg_C Yr ad X cX11_bits RX11 3 0) (E : sg_eI Yr ad X cX11_bits .int r) : ∀ (x0_ : Int32) (M : sg_M), fX11_bits N x0_ M = some r → sg_T Yr ad X 3 0 [(0, .int x0_)] [] M := by
  intro x0_ M  h
  unfold fX11_bits at h
  refine s_iconst C (0 : Int32) dX11_bits_0 (by decide) ?_
  refine z_gi h (fun x3 h => ?_)
  refine i_istore_n (lv9 := [(1, _), (0, _)]) C 1 dX11_bits_1 rfl (by decide) rfl ?_
  refine s_iconst C (0 : Int32) dX11_bits_2 (by decide) ?_
  refine z_gi h (fun x4 h => ?_)
  refine i_istore_n (lv9 := [(2, _), (1, _), (0, _)]) C 2 dX11_bits_3 rfl (by decide) rfl ?_
  exact sg_T.to (tX11_bits_4 C E _ _ h ) [2, 1, 0] rfl
theorem ctX11_bits {ad : Nat → Nat} {V : sg_V} {N : Nat} (hi : sg_inj Yr ad) {x0_ : Int32} {M : sg_M}  : ∀ res, fX11_bits N x0_ M = some res → sg_cI Yr ad V yX11_bits cX11_bits 3 .int 0 [.int x0_] M res := fun res h => sg_bodyI (by decide) hi (Nat.le_of_ble_eq_true rfl) (fun X hX C E => by subst hX; exact tX11_bits C E _  _ h)
def bX11_common_12 (N : Nat)  (k12 : (Int64 × Int64) → sg_M → Option (Int64 × sg_M)) (s : Int64 × Int64) (M : sg_M) : Option (Int64 × sg_M) :=
  if (lg_cmp s.2 (0 : Int64)) = 0 then (
  some (s.1, M)) else (
  if s.2 = 0 then none else
  sg_m (s.1 - s.1 / s.2 * s.2) (fun x1 : Int64 =>
  sg_m s.2 (fun x2 : Int64 =>
  sg_m x1 (fun x3 : Int64 =>
  k12 (x2, x3) M))))
def gX11_common_12 (N : Nat)  : (Int64 × Int64) → sg_M → Option (Int64 × sg_M) := sg_lp (bX11_common_12 N ) N
set_option maxHeartbeats 4000000 in
set_option maxRecDepth 100000 in
theorem tX11_common_12 {ad : Nat → Nat} {X : sg_X} {N : Nat} {r : Int64 × sg_M} (C : sg_C Yr ad X cX11_common RX11 10 1) (E : sg_eL Yr ad X cX11_common r)  : ∀ (s : Int64 × Int64) (M : sg_M), gX11_common_12 N s M = some r → sg_T Yr ad X 10 12 [(4, .long (s.1)), (6, .long (s.2))] [] M := by
  have key : ∀ n : Nat, ∀ (s : Int64 × Int64) (M : sg_M), sg_lp (bX11_common_12 N) n s M = some r → sg_T Yr ad X 10 12 [(4, .long (s.1)), (6, .long (s.2))] [] M := by
    intro n
    induction n with
    | zero => intro s M h; cases h
    | succ n ih =>
      intro s M h 
      have h : bX11_common_12 N (sg_lp (bX11_common_12 N) n) s M = some r := h
      generalize sg_lp (bX11_common_12 N) n = k12 at h ih
      have hk12 := ih
      unfold bX11_common_12 at h
      refine i_lload C dX11_common_12 1 rfl ?_
      refine s_lconst C (0 : Int64) dX11_common_14 (by decide) ?_
      refine s_lcmp C dX11_common_15 ?_
      refine s_if_eq C 37 (by decide) dX11_common_16 h (fun _ h => ?_) (fun _ h => ?_)
      · refine i_lload C dX11_common_37 0 rfl ?_
        exact s_lret C E dX11_common_39 h
      · refine i_lload C dX11_common_19 0 rfl ?_
        refine i_lload C dX11_common_21 1 rfl ?_
        refine s_lrem C dX11_common_23 h (fun h => ?_)
        refine z_gl h (fun x1 h => ?_)
        refine i_lstore (lv9 := [(8, _), (4, _), (6, _)]) C dX11_common_24 (by decide) rfl ?_
        refine i_lload C dX11_common_26 2 rfl ?_
        refine z_gl h (fun x2 h => ?_)
        refine i_lstore (lv9 := [(4, _), (8, _), (6, _)]) C dX11_common_28 (by decide) rfl ?_
        refine i_lload C dX11_common_30 1 rfl ?_
        refine z_gl h (fun x3 h => ?_)
        refine i_lstore (lv9 := [(6, _), (4, _), (8, _)]) C dX11_common_32 (by decide) rfl ?_
        refine s_goto C 12 (by decide) dX11_common_34 ?_
        exact sg_T.to (hk12 _ _ h ) [1, 0] rfl
  exact key N
def fX11_common (N : Nat) (x0_ : Int64) (x2_ : Int64) (M : sg_M) : Option (Int64 × sg_M) :=
  sg_m (if 0 < x0_ then x0_ else -x0_) (fun x4 : Int64 =>
  sg_m (if 0 < x2_ then x2_ else -x2_) (fun x5 : Int64 =>
  gX11_common_12 N (x4, x5) M))
set_option maxHeartbeats 4000000 in
set_option maxRecDepth 100000 in
theorem tX11_common {ad : Nat → Nat} {X : sg_X} {N : Nat} {r : Int64 × sg_M} (C : sg_C Yr ad X cX11_common RX11 10 1) (E : sg_eL Yr ad X cX11_common r) : ∀ (x0_ : Int64) (x2_ : Int64) (M : sg_M), fX11_common N x0_ x2_ M = some r → sg_T Yr ad X 10 0 [(0, .long x0_), (2, .long x2_)] [] M := by
  intro x0_ x2_ M  h
  unfold fX11_common at h
  refine i_lload_n C dX11_common_0 0 rfl ?_
  refine s_mabsl C (by decide) mabsl_X11_75 mabsl_1 math_2 mabsl_3 (Nat.le_of_ble_eq_true rfl) dX11_common_1 ?_
  refine z_gl h (fun x4 h => ?_)
  refine i_lstore (lv9 := [(4, _), (0, _), (2, _)]) C dX11_common_4 (by decide) rfl ?_
  refine i_lload_n C dX11_common_6 2 rfl ?_
  refine s_mabsl C (by decide) mabsl_X11_75 mabsl_1 math_2 mabsl_3 (Nat.le_of_ble_eq_true rfl) dX11_common_7 ?_
  refine z_gl h (fun x5 h => ?_)
  refine i_lstore (lv9 := [(6, _), (4, _), (0, _), (2, _)]) C dX11_common_10 (by decide) rfl ?_
  exact sg_T.to (tX11_common_12 C E _ _ h ) [1, 0] rfl
theorem ctX11_common {ad : Nat → Nat} {V : sg_V} {N : Nat} (hi : sg_inj Yr ad) {x0_ : Int64} {x2_ : Int64} {M : sg_M}  : ∀ res, fX11_common N x0_ x2_ M = some res → sg_cL Yr ad V yX11_common cX11_common 10 1 [.long x0_, .long x2_] M res := fun res h => sg_bodyL (by decide) hi (Nat.le_of_ble_eq_true rfl) (fun X hX C E => by subst hX; exact tX11_common C E _ _  _ h)
def fX11_part (N : Nat) (x0_ : Int64) (x2_ : Int64) (x4_ : Int32) (M : sg_M) : Option (Int64 × sg_M) :=
  sg_b (fX11_common N x0_ x2_ M) (fun (x2 : Int64) (M1 : sg_M) =>
  sg_m x2 (fun x3 : Int64 =>
  if x4_ = 0 then (
  if x3 = 0 then none else
  some ((x0_ / x3), M1)) else (
  if x3 = 0 then none else
  some ((x2_ / x3), M1))))
set_option maxHeartbeats 4000000 in
set_option maxRecDepth 100000 in
theorem tX11_part {ad : Nat → Nat} {X : sg_X} {N : Nat} {r : Int64 × sg_M} (C : sg_C Yr ad X cX11_part RX11 7 2) (E : sg_eL Yr ad X cX11_part r) : ∀ (x0_ : Int64) (x2_ : Int64) (x4_ : Int32) (M : sg_M), fX11_part N x0_ x2_ x4_ M = some r → sg_T Yr ad X 7 0 [(0, .long x0_), (2, .long x2_), (4, .int x4_)] [] M := by
  intro x0_ x2_ x4_ M  h
  unfold fX11_part at h
  refine i_lload_n C dX11_part_0 0 rfl ?_
  refine i_lload_n C dX11_part_1 1 rfl ?_
  refine s_scL C [_, _] smX11_common lkX11_81 (by decide) rfl rfl (Nat.le_of_ble_eq_true rfl) dX11_part_2 (ctX11_common C.inj ) h (fun x2 M1 h => ?_)
  refine z_gl h (fun x3 h => ?_)
  refine i_lstore (lv9 := [(5, _), (0, _), (2, _), (4, _)]) C dX11_part_5 (by decide) rfl ?_
  refine i_iload C dX11_part_7 3 rfl ?_
  refine s_if_ne C 19 (by decide) dX11_part_9 h (fun _ h => ?_) (fun _ h => ?_)
  · refine i_lload_n C dX11_part_12 1 rfl ?_
    refine i_lload C dX11_part_13 0 rfl ?_
    refine s_ldiv C dX11_part_15 h (fun h => ?_)
    refine s_goto C 23 (by decide) dX11_part_16 ?_
    exact s_lret C E dX11_part_23 h
  · refine i_lload_n C dX11_part_19 2 rfl ?_
    refine i_lload C dX11_part_20 0 rfl ?_
    refine s_ldiv C dX11_part_22 h (fun h => ?_)
    exact s_lret C E dX11_part_23 h
theorem ctX11_part {ad : Nat → Nat} {V : sg_V} {N : Nat} (hi : sg_inj Yr ad) {x0_ : Int64} {x2_ : Int64} {x4_ : Int32} {M : sg_M}  : ∀ res, fX11_part N x0_ x2_ x4_ M = some res → sg_cL Yr ad V yX11_part cX11_part 7 2 [.long x0_, .long x2_, .int x4_] M res := fun res h => sg_bodyL (by decide) hi (Nat.le_of_ble_eq_true rfl) (fun X hX C E => by subst hX; exact tX11_part C E _ _ _  _ h)
def gX11_compares_82 (N : Nat)  (x16_ : Int32) (x17_ : Int64) (x19_ : Int64) (M : sg_M) : Option (Int32 × sg_M) :=
  if (lg_cmp x17_ x19_) = 0 then (
  some ((0 : Int32), M)) else (
  if (lg_cmp x17_ (0 : Int64)) = 0 then (
  some ((-x16_), M)) else (
  some (x16_, M)))
set_option maxHeartbeats 4000000 in
set_option maxRecDepth 100000 in
theorem tX11_compares_82 {ad : Nat → Nat} {X : sg_X} {N : Nat} {r : Int32 × sg_M} (C : sg_C Yr ad X cX11_compares RX11 21 0) (E : sg_eI Yr ad X cX11_compares .int r)  : ∀ (x16_ : Int32) (x17_ : Int64) (x19_ : Int64) (M : sg_M), gX11_compares_82 N x16_ x17_ x19_ M = some r → sg_T Yr ad X 21 82 [(16, .int x16_), (17, .long x17_), (19, .long x19_)] [] M := by
  intro x16_ x17_ x19_ M h 
  unfold gX11_compares_82 at h
  refine i_lload C dX11_compares_82 1 rfl ?_
  refine i_lload C dX11_compares_84 2 rfl ?_
  refine s_lcmp C dX11_compares_86 ?_
  refine s_if_ne C 94 (by decide) dX11_compares_87 h (fun _ h => ?_) (fun _ h => ?_)
  · refine s_iconst C (0 : Int32) dX11_compares_90 (by decide) ?_
    refine s_goto C 109 (by decide) dX11_compares_91 ?_
    exact s_iret C E dX11_compares_109 h
  · refine i_lload C dX11_compares_94 1 rfl ?_
    refine s_lconst C (0 : Int64) dX11_compares_96 (by decide) ?_
    refine s_lcmp C dX11_compares_97 ?_
    refine s_if_ne C 107 (by decide) dX11_compares_98 h (fun _ h => ?_) (fun _ h => ?_)
    · refine i_iload C dX11_compares_101 0 rfl ?_
      refine s_ineg C dX11_compares_103 ?_
      refine s_goto C 109 (by decide) dX11_compares_104 ?_
      exact s_iret C E dX11_compares_109 h
    · refine i_iload C dX11_compares_107 0 rfl ?_
      exact s_iret C E dX11_compares_109 h
def bX11_compares_17 (N : Nat)  (k17 : (Int64 × Int64 × Int64 × Int64 × Int32) → sg_M → Option (Int32 × sg_M)) (s : Int64 × Int64 × Int64 × Int64 × Int32) (M : sg_M) : Option (Int32 × sg_M) :=
  if s.2.1 = 0 then none else
  if s.2.2.2.1 = 0 then none else
  if (lg_cmp (s.1 / s.2.1) (s.2.2.1 / s.2.2.2.1)) = 0 then (
  if s.2.1 = 0 then none else
  sg_m (s.1 - s.1 / s.2.1 * s.2.1) (fun x1 : Int64 =>
  if s.2.2.2.1 = 0 then none else
  sg_m (s.2.2.1 - s.2.2.1 / s.2.2.2.1 * s.2.2.2.1) (fun x2 : Int64 =>
  if (lg_cmp x1 (0 : Int64)) = 0 then (
  gX11_compares_82 N s.2.2.2.2 x1 x2 M) else (
  if (lg_cmp x2 (0 : Int64)) = 0 then (
  gX11_compares_82 N s.2.2.2.2 x1 x2 M) else (
  sg_m s.2.1 (fun x3 : Int64 =>
  sg_m x1 (fun x4 : Int64 =>
  sg_m s.2.2.2.1 (fun x5 : Int64 =>
  sg_m x2 (fun x6 : Int64 =>
  sg_m (-s.2.2.2.2) (fun x7 : Int32 =>
  k17 (x3, x4, x5, x6, x7) M)))))))))) else (
  if s.2.1 = 0 then none else
  if s.2.2.2.1 = 0 then none else
  if 0 ≤ (lg_cmp (s.1 / s.2.1) (s.2.2.1 / s.2.2.2.1)) then (
  some (s.2.2.2.2, M)) else (
  some ((-s.2.2.2.2), M)))
def gX11_compares_17 (N : Nat)  : (Int64 × Int64 × Int64 × Int64 × Int32) → sg_M → Option (Int32 × sg_M) := sg_lp (bX11_compares_17 N ) N
set_option maxHeartbeats 4000000 in
set_option maxRecDepth 100000 in
theorem tX11_compares_17 {ad : Nat → Nat} {X : sg_X} {N : Nat} {r : Int32 × sg_M} (C : sg_C Yr ad X cX11_compares RX11 21 0) (E : sg_eI Yr ad X cX11_compares .int r)  : ∀ (s : Int64 × Int64 × Int64 × Int64 × Int32) (M : sg_M), gX11_compares_17 N s M = some r → sg_T Yr ad X 21 17 [(8, .long (s.1)), (10, .long (s.2.1)), (12, .long (s.2.2.1)), (14, .long (s.2.2.2.1)), (16, .int (s.2.2.2.2))] [] M := by
  have key : ∀ n : Nat, ∀ (s : Int64 × Int64 × Int64 × Int64 × Int32) (M : sg_M), sg_lp (bX11_compares_17 N) n s M = some r → sg_T Yr ad X 21 17 [(8, .long (s.1)), (10, .long (s.2.1)), (12, .long (s.2.2.1)), (14, .long (s.2.2.2.1)), (16, .int (s.2.2.2.2))] [] M := by
    intro n
    induction n with
    | zero => intro s M h; cases h
    | succ n ih =>
      intro s M h 
      have h : bX11_compares_17 N (sg_lp (bX11_compares_17 N) n) s M = some r := h
      generalize sg_lp (bX11_compares_17 N) n = k17 at h ih
      have hk17 := ih
      unfold bX11_compares_17 at h
      refine i_lload C dX11_compares_17 0 rfl ?_
      refine i_lload C dX11_compares_19 1 rfl ?_
      refine s_ldiv C dX11_compares_21 h (fun h => ?_)
      refine i_lload C dX11_compares_22 2 rfl ?_
      refine i_lload C dX11_compares_24 3 rfl ?_
      refine s_ldiv C dX11_compares_26 h (fun h => ?_)
      refine s_lcmp C dX11_compares_27 ?_
      refine s_if_eq C 54 (by decide) dX11_compares_28 h (fun _ h => ?_) (fun _ h => ?_)
      · refine i_lload C dX11_compares_54 0 rfl ?_
        refine i_lload C dX11_compares_56 1 rfl ?_
        refine s_lrem C dX11_compares_58 h (fun h => ?_)
        refine z_gl h (fun x1 h => ?_)
        refine i_lstore (lv9 := [(17, _), (8, _), (10, _), (12, _), (14, _), (16, _)]) C dX11_compares_59 (by decide) rfl ?_
        refine i_lload C dX11_compares_61 3 rfl ?_
        refine i_lload C dX11_compares_63 4 rfl ?_
        refine s_lrem C dX11_compares_65 h (fun h => ?_)
        refine z_gl h (fun x2 h => ?_)
        refine i_lstore (lv9 := [(19, _), (17, _), (8, _), (10, _), (12, _), (14, _), (16, _)]) C dX11_compares_66 (by decide) rfl ?_
        refine i_lload C dX11_compares_68 1 rfl ?_
        refine s_lconst C (0 : Int64) dX11_compares_70 (by decide) ?_
        refine s_lcmp C dX11_compares_71 ?_
        refine s_if_eq C 82 (by decide) dX11_compares_72 h (fun _ h => ?_) (fun _ h => ?_)
        · exact sg_T.to (tX11_compares_82 C E _ _ _ _ h ) [6, 1, 0] rfl
        · refine i_lload C dX11_compares_75 0 rfl ?_
          refine s_lconst C (0 : Int64) dX11_compares_77 (by decide) ?_
          refine s_lcmp C dX11_compares_78 ?_
          refine s_if_ne C 110 (by decide) dX11_compares_79 h (fun _ h => ?_) (fun _ h => ?_)
          · exact sg_T.to (tX11_compares_82 C E _ _ _ _ h ) [6, 1, 0] rfl
          · refine i_lload C dX11_compares_110 3 rfl ?_
            refine z_gl h (fun x3 h => ?_)
            refine i_lstore (lv9 := [(8, _), (19, _), (17, _), (10, _), (12, _), (14, _), (16, _)]) C dX11_compares_112 (by decide) rfl ?_
            refine i_lload C dX11_compares_114 2 rfl ?_
            refine z_gl h (fun x4 h => ?_)
            refine i_lstore (lv9 := [(10, _), (8, _), (19, _), (17, _), (12, _), (14, _), (16, _)]) C dX11_compares_116 (by decide) rfl ?_
            refine i_lload C dX11_compares_118 5 rfl ?_
            refine z_gl h (fun x5 h => ?_)
            refine i_lstore (lv9 := [(12, _), (10, _), (8, _), (19, _), (17, _), (14, _), (16, _)]) C dX11_compares_120 (by decide) rfl ?_
            refine i_lload C dX11_compares_122 3 rfl ?_
            refine z_gl h (fun x6 h => ?_)
            refine i_lstore (lv9 := [(14, _), (12, _), (10, _), (8, _), (19, _), (17, _), (16, _)]) C dX11_compares_124 (by decide) rfl ?_
            refine i_iload C dX11_compares_126 6 rfl ?_
            refine s_ineg C dX11_compares_128 ?_
            refine z_gi h (fun x7 h => ?_)
            refine i_istore (lv9 := [(16, _), (14, _), (12, _), (10, _), (8, _), (19, _), (17, _)]) C dX11_compares_129 (by decide) rfl ?_
            refine s_goto C 17 (by decide) dX11_compares_131 ?_
            exact sg_T.to (hk17 _ _ h ) [4, 3, 2, 1, 0] rfl
      · refine i_lload C dX11_compares_31 0 rfl ?_
        refine i_lload C dX11_compares_33 1 rfl ?_
        refine s_ldiv C dX11_compares_35 h (fun h => ?_)
        refine i_lload C dX11_compares_36 2 rfl ?_
        refine i_lload C dX11_compares_38 3 rfl ?_
        refine s_ldiv C dX11_compares_40 h (fun h => ?_)
        refine s_lcmp C dX11_compares_41 ?_
        refine s_if_ge C 51 (by decide) dX11_compares_42 h (fun _ h => ?_) (fun _ h => ?_)
        · refine i_iload C dX11_compares_51 4 rfl ?_
          exact s_iret C E dX11_compares_53 h
        · refine i_iload C dX11_compares_45 4 rfl ?_
          refine s_ineg C dX11_compares_47 ?_
          refine s_goto C 53 (by decide) dX11_compares_48 ?_
          exact s_iret C E dX11_compares_53 h
  exact key N
def fX11_compares (N : Nat) (x0_ : Int64) (x2_ : Int64) (x4_ : Int64) (x6_ : Int64) (M : sg_M) : Option (Int32 × sg_M) :=
  sg_m x0_ (fun x8 : Int64 =>
  sg_m x2_ (fun x9 : Int64 =>
  sg_m x4_ (fun x10 : Int64 =>
  sg_m x6_ (fun x11 : Int64 =>
  sg_m (1 : Int32) (fun x12 : Int32 =>
  gX11_compares_17 N (x8, x9, x10, x11, x12) M)))))
set_option maxHeartbeats 4000000 in
set_option maxRecDepth 100000 in
theorem tX11_compares {ad : Nat → Nat} {X : sg_X} {N : Nat} {r : Int32 × sg_M} (C : sg_C Yr ad X cX11_compares RX11 21 0) (E : sg_eI Yr ad X cX11_compares .int r) : ∀ (x0_ : Int64) (x2_ : Int64) (x4_ : Int64) (x6_ : Int64) (M : sg_M), fX11_compares N x0_ x2_ x4_ x6_ M = some r → sg_T Yr ad X 21 0 [(0, .long x0_), (2, .long x2_), (4, .long x4_), (6, .long x6_)] [] M := by
  intro x0_ x2_ x4_ x6_ M  h
  unfold fX11_compares at h
  refine i_lload_n C dX11_compares_0 0 rfl ?_
  refine z_gl h (fun x8 h => ?_)
  refine i_lstore (lv9 := [(8, _), (0, _), (2, _), (4, _), (6, _)]) C dX11_compares_1 (by decide) rfl ?_
  refine i_lload_n C dX11_compares_3 2 rfl ?_
  refine z_gl h (fun x9 h => ?_)
  refine i_lstore (lv9 := [(10, _), (8, _), (0, _), (2, _), (4, _), (6, _)]) C dX11_compares_4 (by decide) rfl ?_
  refine i_lload C dX11_compares_6 4 rfl ?_
  refine z_gl h (fun x10 h => ?_)
  refine i_lstore (lv9 := [(12, _), (10, _), (8, _), (0, _), (2, _), (4, _), (6, _)]) C dX11_compares_8 (by decide) rfl ?_
  refine i_lload C dX11_compares_10 6 rfl ?_
  refine z_gl h (fun x11 h => ?_)
  refine i_lstore (lv9 := [(14, _), (12, _), (10, _), (8, _), (0, _), (2, _), (4, _), (6, _)]) C dX11_compares_12 (by decide) rfl ?_
  refine s_iconst C (1 : Int32) dX11_compares_14 (by decide) ?_
  refine z_gi h (fun x12 h => ?_)
  refine i_istore (lv9 := [(16, _), (14, _), (12, _), (10, _), (8, _), (0, _), (2, _), (4, _), (6, _)]) C dX11_compares_15 (by decide) rfl ?_
  exact sg_T.to (tX11_compares_17 C E _ _ h ) [4, 3, 2, 1, 0] rfl
theorem ctX11_compares {ad : Nat → Nat} {V : sg_V} {N : Nat} (hi : sg_inj Yr ad) {x0_ : Int64} {x2_ : Int64} {x4_ : Int64} {x6_ : Int64} {M : sg_M}  : ∀ res, fX11_compares N x0_ x2_ x4_ x6_ M = some res → sg_cI Yr ad V yX11_compares cX11_compares 21 .int 0 [.long x0_, .long x2_, .long x4_, .long x6_] M res := fun res h => sg_bodyI (by decide) hi (Nat.le_of_ble_eq_true rfl) (fun X hX C E => by subst hX; exact tX11_compares C E _ _ _ _  _ h)
def bX11_image_64 (N : Nat)  (k64 : (Nat × Int32 × Int32 × Int32) → sg_M → Option (Int32 × sg_M)) (s : Nat × Int32 × Int32 × Int32) (M : sg_M) : Option (Int32 × sg_M) :=
  if (840 : Int32) ≤ s.2.2.2 then (
  if sg_ib s.2.1 (Yr.2.2.1 (Yr.2.2.2 s.1 6)) = true then
  sg_m (sg_uI M (Yr.2.2.2 s.1 6) (s.2.1).toNatClampNeg (vp_nar .boolean (1 : Int32))) (fun M1 : sg_M =>
  some ((0 : Int32), M1))
  else none) else (
  if sg_ib s.2.2.2 (Yr.2.2.1 (Yr.2.2.2 s.1 3)) = true then
  if sg_ib (((s.2.2.1 + (40 : Int32)) + (1 : Int32)) + s.2.2.2) (Yr.2.2.1 (Yr.2.2.2 s.1 5)) = true then
  sg_m (sg_uI M (Yr.2.2.2 s.1 5) ((((s.2.2.1 + (40 : Int32)) + (1 : Int32)) + s.2.2.2)).toNatClampNeg (M.1 (Yr.2.2.2 s.1 3) (s.2.2.2).toNatClampNeg)) (fun M2 : sg_M =>
  sg_m (s.2.2.2 + (1 : Int32)) (fun x3 : Int32 =>
  k64 (s.1, s.2.1, s.2.2.1, x3) M2))
  else none
  else none)
def gX11_image_64 (N : Nat)  : (Nat × Int32 × Int32 × Int32) → sg_M → Option (Int32 × sg_M) := sg_lp (bX11_image_64 N ) N
set_option maxHeartbeats 4000000 in
set_option maxRecDepth 100000 in
theorem tX11_image_64 {ad : Nat → Nat} {X : sg_X} {N : Nat} {r : Int32 × sg_M} (C : sg_C Yr ad X cX11_image RX11 4 1) (E : sg_eI Yr ad X cX11_image .int r)  : ∀ (s : Nat × Int32 × Int32 × Int32) (M : sg_M), gX11_image_64 N s M = some r → sg_K Yr s.1 11 → sg_T Yr ad X 4 64 [(0, .ref (ad (s.1))), (1, .int (s.2.1)), (2, .int (s.2.2.1)), (3, .int (s.2.2.2))] [] M := by
  have key : ∀ n : Nat, ∀ (s : Nat × Int32 × Int32 × Int32) (M : sg_M), sg_lp (bX11_image_64 N) n s M = some r → sg_K Yr s.1 11 → sg_T Yr ad X 4 64 [(0, .ref (ad (s.1))), (1, .int (s.2.1)), (2, .int (s.2.2.1)), (3, .int (s.2.2.2))] [] M := by
    intro n
    induction n with
    | zero => intro s M h; cases h
    | succ n ih =>
      intro s M h hq0
      have h : bX11_image_64 N (sg_lp (bX11_image_64 N) n) s M = some r := h
      generalize sg_lp (bX11_image_64 N) n = k64 at h ih
      have hk64 := ih
      unfold bX11_image_64 at h
      refine i_iload_n C dX11_image_64 3 rfl ?_
      refine s_sipush C (840 : Int32) dX11_image_65 (by decide) ?_
      refine s_icmp_ge C 96 (by decide) dX11_image_68 h (fun _ h => ?_) (fun _ h => ?_)
      · refine i_aload_n C dX11_image_96 0 rfl ?_
        refine gf11_22 C hq0 dX11_image_97 ?_
        refine i_iload_n C dX11_image_100 1 rfl ?_
        refine s_iconst C (1 : Int32) dX11_image_101 (by decide) ?_
        refine s_zast C (ky11_6 hq0) dX11_image_102 h (fun h => ?_)
        refine z_gM h (fun M1 h => ?_)
        refine s_iconst C (0 : Int32) dX11_image_103 (by decide) ?_
        exact s_iret C E dX11_image_104 h
      · refine i_aload_n C dX11_image_71 0 rfl ?_
        refine gf11_19 C hq0 dX11_image_72 ?_
        refine i_iload_n C dX11_image_75 2 rfl ?_
        refine s_bipush C (40 : Int32) dX11_image_76 (by decide) ?_
        refine s_iadd C dX11_image_78 ?_
        refine s_iconst C (1 : Int32) dX11_image_79 (by decide) ?_
        refine s_iadd C dX11_image_80 ?_
        refine i_iload_n C dX11_image_81 3 rfl ?_
        refine s_iadd C dX11_image_82 ?_
        refine i_aload_n C dX11_image_83 0 rfl ?_
        refine gf11_16 C hq0 dX11_image_84 ?_
        refine i_iload_n C dX11_image_87 3 rfl ?_
        refine s_iald C (ky11_3 hq0) dX11_image_88 h (fun h => ?_)
        refine s_iast C (ky11_5 hq0) dX11_image_89 h (fun h => ?_)
        refine z_gM h (fun M2 h => ?_)
        refine z_iinc (n := 1) (c9 := (1 : Int32)) (by decide) h (fun x3 hx h => ?_)
        refine i_iinc (lv9 := [(3, _), (0, _), (1, _), (2, _)]) C dX11_image_90 3 rfl hx (by decide) rfl ?_
        refine s_goto C 64 (by decide) dX11_image_93 ?_
        exact sg_T.to (hk64 _ _ h hq0) [1, 2, 3, 0] rfl
  exact key N
def bX11_image_23 (N : Nat)  (k23 : (Nat × Int32 × Int32 × Int32) → sg_M → Option (Int32 × sg_M)) (s : Nat × Int32 × Int32 × Int32) (M : sg_M) : Option (Int32 × sg_M) :=
  if (40 : Int32) ≤ s.2.2.2 then (
  if sg_ib (s.2.2.1 + (40 : Int32)) (Yr.2.2.1 (Yr.2.2.2 s.1 5)) = true then
  sg_m (sg_uI M (Yr.2.2.2 s.1 5) ((s.2.2.1 + (40 : Int32))).toNatClampNeg (M.1 s.1 4)) (fun M4 : sg_M =>
  sg_m (0 : Int32) (fun x5 : Int32 =>
  gX11_image_64 N (s.1, s.2.1, s.2.2.1, x5) M4))
  else none) else (
  if sg_ib s.2.2.2 (Yr.2.2.1 (Yr.2.2.2 s.1 1)) = true then
  if sg_ib (s.2.2.1 + s.2.2.2) (Yr.2.2.1 (Yr.2.2.2 s.1 5)) = true then
  sg_m (sg_uI M (Yr.2.2.2 s.1 5) ((s.2.2.1 + s.2.2.2)).toNatClampNeg (M.1 (Yr.2.2.2 s.1 1) (s.2.2.2).toNatClampNeg)) (fun M6 : sg_M =>
  sg_m (s.2.2.2 + (1 : Int32)) (fun x7 : Int32 =>
  k23 (s.1, s.2.1, s.2.2.1, x7) M6))
  else none
  else none)
def gX11_image_23 (N : Nat)  : (Nat × Int32 × Int32 × Int32) → sg_M → Option (Int32 × sg_M) := sg_lp (bX11_image_23 N ) N
set_option maxHeartbeats 4000000 in
set_option maxRecDepth 100000 in
theorem tX11_image_23 {ad : Nat → Nat} {X : sg_X} {N : Nat} {r : Int32 × sg_M} (C : sg_C Yr ad X cX11_image RX11 4 1) (E : sg_eI Yr ad X cX11_image .int r)  : ∀ (s : Nat × Int32 × Int32 × Int32) (M : sg_M), gX11_image_23 N s M = some r → sg_K Yr s.1 11 → sg_T Yr ad X 4 23 [(0, .ref (ad (s.1))), (1, .int (s.2.1)), (2, .int (s.2.2.1)), (3, .int (s.2.2.2))] [] M := by
  have key : ∀ n : Nat, ∀ (s : Nat × Int32 × Int32 × Int32) (M : sg_M), sg_lp (bX11_image_23 N) n s M = some r → sg_K Yr s.1 11 → sg_T Yr ad X 4 23 [(0, .ref (ad (s.1))), (1, .int (s.2.1)), (2, .int (s.2.2.1)), (3, .int (s.2.2.2))] [] M := by
    intro n
    induction n with
    | zero => intro s M h; cases h
    | succ n ih =>
      intro s M h hq0
      have h : bX11_image_23 N (sg_lp (bX11_image_23 N) n) s M = some r := h
      generalize sg_lp (bX11_image_23 N) n = k23 at h ih
      have hk23 := ih
      unfold bX11_image_23 at h
      refine i_iload_n C dX11_image_23 3 rfl ?_
      refine s_bipush C (40 : Int32) dX11_image_24 (by decide) ?_
      refine s_icmp_ge C 49 (by decide) dX11_image_26 h (fun _ h => ?_) (fun _ h => ?_)
      · refine i_aload_n C dX11_image_49 0 rfl ?_
        refine gf11_19 C hq0 dX11_image_50 ?_
        refine i_iload_n C dX11_image_53 2 rfl ?_
        refine s_bipush C (40 : Int32) dX11_image_54 (by decide) ?_
        refine s_iadd C dX11_image_56 ?_
        refine i_aload_n C dX11_image_57 0 rfl ?_
        refine gf11_91 C hq0 dX11_image_58 ?_
        refine s_iast C (ky11_5 hq0) dX11_image_61 h (fun h => ?_)
        refine z_gM h (fun M4 h => ?_)
        refine s_iconst C (0 : Int32) dX11_image_62 (by decide) ?_
        refine z_gi h (fun x5 h => ?_)
        refine i_istore_n (lv9 := [(3, _), (0, _), (1, _), (2, _)]) C 3 dX11_image_63 rfl (by decide) rfl ?_
        exact sg_T.to (tX11_image_64 C E _ _ h hq0) [1, 2, 3, 0] rfl
      · refine i_aload_n C dX11_image_29 0 rfl ?_
        refine gf11_19 C hq0 dX11_image_30 ?_
        refine i_iload_n C dX11_image_33 2 rfl ?_
        refine i_iload_n C dX11_image_34 3 rfl ?_
        refine s_iadd C dX11_image_35 ?_
        refine i_aload_n C dX11_image_36 0 rfl ?_
        refine gf11_9 C hq0 dX11_image_37 ?_
        refine i_iload_n C dX11_image_40 3 rfl ?_
        refine s_iald C (ky11_1 hq0) dX11_image_41 h (fun h => ?_)
        refine s_iast C (ky11_5 hq0) dX11_image_42 h (fun h => ?_)
        refine z_gM h (fun M6 h => ?_)
        refine z_iinc (n := 1) (c9 := (1 : Int32)) (by decide) h (fun x7 hx h => ?_)
        refine i_iinc (lv9 := [(3, _), (0, _), (1, _), (2, _)]) C dX11_image_43 3 rfl hx (by decide) rfl ?_
        refine s_goto C 23 (by decide) dX11_image_46 ?_
        exact sg_T.to (hk23 _ _ h hq0) [1, 2, 3, 0] rfl
  exact key N
def fX11_image (N : Nat) (a0_ : Nat) (x1_ : Int32) (M : sg_M) : Option (Int32 × sg_M) :=
  sg_b (fX11_in N (x1_).toInt64 (0 : Int64) (2 : Int64) M) (fun (x9 : Int32) (M8 : sg_M) =>
  if x9 = 0 then (
  some ((-2 : Int32), M8)) else (
  sg_m ((881 : Int32) * x1_) (fun x10 : Int32 =>
  sg_m (0 : Int32) (fun x11 : Int32 =>
  gX11_image_23 N (a0_, x1_, x10, x11) M8))))
set_option maxHeartbeats 4000000 in
set_option maxRecDepth 100000 in
theorem tX11_image {ad : Nat → Nat} {X : sg_X} {N : Nat} {r : Int32 × sg_M} (C : sg_C Yr ad X cX11_image RX11 4 1) (E : sg_eI Yr ad X cX11_image .int r) : ∀ (a0_ : Nat) (x1_ : Int32) (M : sg_M), sg_K Yr a0_ 11 → fX11_image N a0_ x1_ M = some r → sg_T Yr ad X 4 0 [(0, .ref (ad a0_)), (1, .int x1_)] [] M := by
  intro a0_ x1_ M hq0 h
  unfold fX11_image at h
  refine i_iload_n C dX11_image_0 1 rfl ?_
  refine s_i2l C dX11_image_1 ?_
  refine s_lconst C (0 : Int64) dX11_image_2 (by decide) ?_
  refine s_ldc2 C (2 : Int64) kl_X11_85 dX11_image_3 ?_
  refine s_scI C [_, _, _] smX11_in lkX11_87 (by decide) rfl rfl (Nat.le_of_ble_eq_true rfl) dX11_image_6 (ctX11_in C.inj ) h (fun x9 M8 h => ?_)
  refine s_if_ne C 15 (by decide) dX11_image_9 h (fun _ h => ?_) (fun _ h => ?_)
  · refine s_bipush C (-2 : Int32) dX11_image_12 (by decide) ?_
    exact s_iret C E dX11_image_14 h
  · refine s_sipush C (881 : Int32) dX11_image_15 (by decide) ?_
    refine i_iload_n C dX11_image_18 1 rfl ?_
    refine s_imul C dX11_image_19 ?_
    refine z_gi h (fun x10 h => ?_)
    refine i_istore_n (lv9 := [(2, _), (0, _), (1, _)]) C 2 dX11_image_20 rfl (by decide) rfl ?_
    refine s_iconst C (0 : Int32) dX11_image_21 (by decide) ?_
    refine z_gi h (fun x11 h => ?_)
    refine i_istore_n (lv9 := [(3, _), (2, _), (0, _), (1, _)]) C 3 dX11_image_22 rfl (by decide) rfl ?_
    exact sg_T.to (tX11_image_23 C E _ _ h hq0) [2, 3, 1, 0] rfl
theorem ctX11_image {ad : Nat → Nat} {V : sg_V} {N : Nat} (hi : sg_inj Yr ad) {a0_ : Nat} {x1_ : Int32} {M : sg_M} (hq0 : sg_K Yr a0_ 11) : ∀ res, fX11_image N a0_ x1_ M = some res → sg_cI Yr ad V yX11_image cX11_image 4 .int 1 [.ref (ad a0_), .int x1_] M res := fun res h => sg_bodyI (by decide) hi (Nat.le_of_ble_eq_true rfl) (fun X hX C E => by subst hX; exact tX11_image C E _ _  _ hq0 h)
def bX11_back_76 (N : Nat)  (k76 : (Nat × Int32 × Int32) → sg_M → Option (Int32 × sg_M)) (s : Nat × Int32 × Int32) (M : sg_M) : Option (Int32 × sg_M) :=
  if (840 : Int32) ≤ s.2.2 then (
  some ((0 : Int32), M)) else (
  if sg_ib (((s.2.1 + (40 : Int32)) + (1 : Int32)) + s.2.2) (Yr.2.2.1 (Yr.2.2.2 s.1 5)) = true then
  if sg_ib s.2.2 (Yr.2.2.1 (Yr.2.2.2 s.1 3)) = true then
  sg_m (sg_uI M (Yr.2.2.2 s.1 3) (s.2.2).toNatClampNeg (M.1 (Yr.2.2.2 s.1 5) ((((s.2.1 + (40 : Int32)) + (1 : Int32)) + s.2.2)).toNatClampNeg)) (fun M1 : sg_M =>
  sg_m (s.2.2 + (1 : Int32)) (fun x2 : Int32 =>
  k76 (s.1, s.2.1, x2) M1))
  else none
  else none)
def gX11_back_76 (N : Nat)  : (Nat × Int32 × Int32) → sg_M → Option (Int32 × sg_M) := sg_lp (bX11_back_76 N ) N
set_option maxHeartbeats 4000000 in
set_option maxRecDepth 100000 in
theorem tX11_back_76 {ad : Nat → Nat} {X : sg_X} {N : Nat} {r : Int32 × sg_M} (C : sg_C Yr ad X cX11_back RX11 4 1) (E : sg_eI Yr ad X cX11_back .int r)  : ∀ (s : Nat × Int32 × Int32) (M : sg_M), gX11_back_76 N s M = some r → sg_K Yr s.1 11 → sg_T Yr ad X 4 76 [(0, .ref (ad (s.1))), (2, .int (s.2.1)), (3, .int (s.2.2))] [] M := by
  have key : ∀ n : Nat, ∀ (s : Nat × Int32 × Int32) (M : sg_M), sg_lp (bX11_back_76 N) n s M = some r → sg_K Yr s.1 11 → sg_T Yr ad X 4 76 [(0, .ref (ad (s.1))), (2, .int (s.2.1)), (3, .int (s.2.2))] [] M := by
    intro n
    induction n with
    | zero => intro s M h; cases h
    | succ n ih =>
      intro s M h hq0
      have h : bX11_back_76 N (sg_lp (bX11_back_76 N) n) s M = some r := h
      generalize sg_lp (bX11_back_76 N) n = k76 at h ih
      have hk76 := ih
      unfold bX11_back_76 at h
      refine i_iload_n C dX11_back_76 2 rfl ?_
      refine s_sipush C (840 : Int32) dX11_back_77 (by decide) ?_
      refine s_icmp_ge C 108 (by decide) dX11_back_80 h (fun _ h => ?_) (fun _ h => ?_)
      · refine s_iconst C (0 : Int32) dX11_back_108 (by decide) ?_
        exact s_iret C E dX11_back_109 h
      · refine i_aload_n C dX11_back_83 0 rfl ?_
        refine gf11_16 C hq0 dX11_back_84 ?_
        refine i_iload_n C dX11_back_87 2 rfl ?_
        refine i_aload_n C dX11_back_88 0 rfl ?_
        refine gf11_19 C hq0 dX11_back_89 ?_
        refine i_iload_n C dX11_back_92 1 rfl ?_
        refine s_bipush C (40 : Int32) dX11_back_93 (by decide) ?_
        refine s_iadd C dX11_back_95 ?_
        refine s_iconst C (1 : Int32) dX11_back_96 (by decide) ?_
        refine s_iadd C dX11_back_97 ?_
        refine i_iload_n C dX11_back_98 2 rfl ?_
        refine s_iadd C dX11_back_99 ?_
        refine s_iald C (ky11_5 hq0) dX11_back_100 h (fun h => ?_)
        refine s_iast C (ky11_3 hq0) dX11_back_101 h (fun h => ?_)
        refine z_gM h (fun M1 h => ?_)
        refine z_iinc (n := 1) (c9 := (1 : Int32)) (by decide) h (fun x2 hx h => ?_)
        refine i_iinc (lv9 := [(3, _), (0, _), (2, _)]) C dX11_back_102 2 rfl hx (by decide) rfl ?_
        refine s_goto C 76 (by decide) dX11_back_105 ?_
        exact sg_T.to (hk76 _ _ h hq0) [1, 2, 0] rfl
  exact key N
def bX11_back_35 (N : Nat)  (k35 : (Nat × Int32 × Int32) → sg_M → Option (Int32 × sg_M)) (s : Nat × Int32 × Int32) (M : sg_M) : Option (Int32 × sg_M) :=
  if (40 : Int32) ≤ s.2.2 then (
  if sg_ib (s.2.1 + (40 : Int32)) (Yr.2.2.1 (Yr.2.2.2 s.1 5)) = true then
  sg_m (sg_uI M s.1 4 (M.1 (Yr.2.2.2 s.1 5) ((s.2.1 + (40 : Int32))).toNatClampNeg)) (fun M3 : sg_M =>
  sg_m (0 : Int32) (fun x4 : Int32 =>
  gX11_back_76 N (s.1, s.2.1, x4) M3))
  else none) else (
  if sg_ib (s.2.1 + s.2.2) (Yr.2.2.1 (Yr.2.2.2 s.1 5)) = true then
  if sg_ib s.2.2 (Yr.2.2.1 (Yr.2.2.2 s.1 1)) = true then
  sg_m (sg_uI M (Yr.2.2.2 s.1 1) (s.2.2).toNatClampNeg (M.1 (Yr.2.2.2 s.1 5) ((s.2.1 + s.2.2)).toNatClampNeg)) (fun M5 : sg_M =>
  sg_m (s.2.2 + (1 : Int32)) (fun x6 : Int32 =>
  k35 (s.1, s.2.1, x6) M5))
  else none
  else none)
def gX11_back_35 (N : Nat)  : (Nat × Int32 × Int32) → sg_M → Option (Int32 × sg_M) := sg_lp (bX11_back_35 N ) N
set_option maxHeartbeats 4000000 in
set_option maxRecDepth 100000 in
theorem tX11_back_35 {ad : Nat → Nat} {X : sg_X} {N : Nat} {r : Int32 × sg_M} (C : sg_C Yr ad X cX11_back RX11 4 1) (E : sg_eI Yr ad X cX11_back .int r)  : ∀ (s : Nat × Int32 × Int32) (M : sg_M), gX11_back_35 N s M = some r → sg_K Yr s.1 11 → sg_T Yr ad X 4 35 [(0, .ref (ad (s.1))), (2, .int (s.2.1)), (3, .int (s.2.2))] [] M := by
  have key : ∀ n : Nat, ∀ (s : Nat × Int32 × Int32) (M : sg_M), sg_lp (bX11_back_35 N) n s M = some r → sg_K Yr s.1 11 → sg_T Yr ad X 4 35 [(0, .ref (ad (s.1))), (2, .int (s.2.1)), (3, .int (s.2.2))] [] M := by
    intro n
    induction n with
    | zero => intro s M h; cases h
    | succ n ih =>
      intro s M h hq0
      have h : bX11_back_35 N (sg_lp (bX11_back_35 N) n) s M = some r := h
      generalize sg_lp (bX11_back_35 N) n = k35 at h ih
      have hk35 := ih
      unfold bX11_back_35 at h
      refine i_iload_n C dX11_back_35 2 rfl ?_
      refine s_bipush C (40 : Int32) dX11_back_36 (by decide) ?_
      refine s_icmp_ge C 61 (by decide) dX11_back_38 h (fun _ h => ?_) (fun _ h => ?_)
      · refine i_aload_n C dX11_back_61 0 rfl ?_
        refine i_aload_n C dX11_back_62 0 rfl ?_
        refine gf11_19 C hq0 dX11_back_63 ?_
        refine i_iload_n C dX11_back_66 1 rfl ?_
        refine s_bipush C (40 : Int32) dX11_back_67 (by decide) ?_
        refine s_iadd C dX11_back_69 ?_
        refine s_iald C (ky11_5 hq0) dX11_back_70 h (fun h => ?_)
        refine pf11_91 C hq0 dX11_back_71 ?_
        refine z_gM h (fun M3 h => ?_)
        refine s_iconst C (0 : Int32) dX11_back_74 (by decide) ?_
        refine z_gi h (fun x4 h => ?_)
        refine i_istore_n (lv9 := [(3, _), (0, _), (2, _)]) C 3 dX11_back_75 rfl (by decide) rfl ?_
        exact sg_T.to (tX11_back_76 C E _ _ h hq0) [1, 2, 0] rfl
      · refine i_aload_n C dX11_back_41 0 rfl ?_
        refine gf11_9 C hq0 dX11_back_42 ?_
        refine i_iload_n C dX11_back_45 2 rfl ?_
        refine i_aload_n C dX11_back_46 0 rfl ?_
        refine gf11_19 C hq0 dX11_back_47 ?_
        refine i_iload_n C dX11_back_50 1 rfl ?_
        refine i_iload_n C dX11_back_51 2 rfl ?_
        refine s_iadd C dX11_back_52 ?_
        refine s_iald C (ky11_5 hq0) dX11_back_53 h (fun h => ?_)
        refine s_iast C (ky11_1 hq0) dX11_back_54 h (fun h => ?_)
        refine z_gM h (fun M5 h => ?_)
        refine z_iinc (n := 1) (c9 := (1 : Int32)) (by decide) h (fun x6 hx h => ?_)
        refine i_iinc (lv9 := [(3, _), (0, _), (2, _)]) C dX11_back_55 2 rfl hx (by decide) rfl ?_
        refine s_goto C 35 (by decide) dX11_back_58 ?_
        exact sg_T.to (hk35 _ _ h hq0) [1, 2, 0] rfl
  exact key N
def fX11_back (N : Nat) (a0_ : Nat) (x1_ : Int32) (M : sg_M) : Option (Int32 × sg_M) :=
  sg_b (fX11_in N (x1_).toInt64 (0 : Int64) (2 : Int64) M) (fun (x8 : Int32) (M7 : sg_M) =>
  if x8 = 0 then (
  some ((-2 : Int32), M7)) else (
  if sg_ib x1_ (Yr.2.2.1 (Yr.2.2.2 a0_ 6)) = true then
  if (M7.1 (Yr.2.2.2 a0_ 6) (x1_).toNatClampNeg) = 0 then (
  some ((-6 : Int32), M7)) else (
  sg_m ((881 : Int32) * x1_) (fun x9 : Int32 =>
  sg_m (0 : Int32) (fun x10 : Int32 =>
  gX11_back_35 N (a0_, x9, x10) M7)))
  else none))
set_option maxHeartbeats 4000000 in
set_option maxRecDepth 100000 in
theorem tX11_back {ad : Nat → Nat} {X : sg_X} {N : Nat} {r : Int32 × sg_M} (C : sg_C Yr ad X cX11_back RX11 4 1) (E : sg_eI Yr ad X cX11_back .int r) : ∀ (a0_ : Nat) (x1_ : Int32) (M : sg_M), sg_K Yr a0_ 11 → fX11_back N a0_ x1_ M = some r → sg_T Yr ad X 4 0 [(0, .ref (ad a0_)), (1, .int x1_)] [] M := by
  intro a0_ x1_ M hq0 h
  unfold fX11_back at h
  refine i_iload_n C dX11_back_0 1 rfl ?_
  refine s_i2l C dX11_back_1 ?_
  refine s_lconst C (0 : Int64) dX11_back_2 (by decide) ?_
  refine s_ldc2 C (2 : Int64) kl_X11_85 dX11_back_3 ?_
  refine s_scI C [_, _, _] smX11_in lkX11_87 (by decide) rfl rfl (Nat.le_of_ble_eq_true rfl) dX11_back_6 (ctX11_in C.inj ) h (fun x8 M7 h => ?_)
  refine s_if_ne C 15 (by decide) dX11_back_9 h (fun _ h => ?_) (fun _ h => ?_)
  · refine s_bipush C (-2 : Int32) dX11_back_12 (by decide) ?_
    exact s_iret C E dX11_back_14 h
  · refine i_aload_n C dX11_back_15 0 rfl ?_
    refine gf11_22 C hq0 dX11_back_16 ?_
    refine i_iload_n C dX11_back_19 1 rfl ?_
    refine s_zald C (ky11_6 hq0) dX11_back_20 h (fun h => ?_)
    refine s_if_ne C 27 (by decide) dX11_back_21 h (fun _ h => ?_) (fun _ h => ?_)
    · refine s_bipush C (-6 : Int32) dX11_back_24 (by decide) ?_
      exact s_iret C E dX11_back_26 h
    · refine s_sipush C (881 : Int32) dX11_back_27 (by decide) ?_
      refine i_iload_n C dX11_back_30 1 rfl ?_
      refine s_imul C dX11_back_31 ?_
      refine z_gi h (fun x9 h => ?_)
      refine i_istore_n (lv9 := [(2, _), (0, _), (1, _)]) C 2 dX11_back_32 rfl (by decide) rfl ?_
      refine s_iconst C (0 : Int32) dX11_back_33 (by decide) ?_
      refine z_gi h (fun x10 h => ?_)
      refine i_istore_n (lv9 := [(3, _), (2, _), (0, _), (1, _)]) C 3 dX11_back_34 rfl (by decide) rfl ?_
      exact sg_T.to (tX11_back_35 C E _ _ h hq0) [2, 1, 0] rfl
theorem ctX11_back {ad : Nat → Nat} {V : sg_V} {N : Nat} (hi : sg_inj Yr ad) {a0_ : Nat} {x1_ : Int32} {M : sg_M} (hq0 : sg_K Yr a0_ 11) : ∀ res, fX11_back N a0_ x1_ M = some res → sg_cI Yr ad V yX11_back cX11_back 4 .int 1 [.ref (ad a0_), .int x1_] M res := fun res h => sg_bodyI (by decide) hi (Nat.le_of_ble_eq_true rfl) (fun X hX C E => by subst hX; exact tX11_back C E _ _  _ hq0 h)
def fX11_isGrid (N : Nat) (a0_ : Nat) (M : sg_M) : Option (Int32 × sg_M) :=
  if sg_ib (4 : Int32) (Yr.2.2.1 (Yr.2.2.2 a0_ 1)) = true then
  if (M.1 (Yr.2.2.2 a0_ 1) ((4 : Int32)).toNatClampNeg) ≤ 0 then (
  some ((0 : Int32), M)) else (
  some ((1 : Int32), M))
  else none
set_option maxHeartbeats 4000000 in
set_option maxRecDepth 100000 in
theorem tX11_isGrid {ad : Nat → Nat} {X : sg_X} {N : Nat} {r : Int32 × sg_M} (C : sg_C Yr ad X cX11_isGrid RX11 1 0) (E : sg_eI Yr ad X cX11_isGrid .boolean r) : ∀ (a0_ : Nat) (M : sg_M), sg_K Yr a0_ 11 → fX11_isGrid N a0_ M = some r → sg_T Yr ad X 1 0 [(0, .ref (ad a0_))] [] M := by
  intro a0_ M hq0 h
  unfold fX11_isGrid at h
  refine i_aload_n C dX11_isGrid_0 0 rfl ?_
  refine gf11_9 C hq0 dX11_isGrid_1 ?_
  refine s_iconst C (4 : Int32) dX11_isGrid_4 (by decide) ?_
  refine s_iald C (ky11_1 hq0) dX11_isGrid_5 h (fun h => ?_)
  refine s_if_le C 13 (by decide) dX11_isGrid_6 h (fun _ h => ?_) (fun _ h => ?_)
  · refine s_iconst C (0 : Int32) dX11_isGrid_13 (by decide) ?_
    exact s_zret1 C E (by decide) dX11_isGrid_14 h
  · refine s_iconst C (1 : Int32) dX11_isGrid_9 (by decide) ?_
    refine s_goto C 14 (by decide) dX11_isGrid_10 ?_
    exact s_zret1 C E (by decide) dX11_isGrid_14 h
theorem ctX11_isGrid {ad : Nat → Nat} {V : sg_V} {N : Nat} (hi : sg_inj Yr ad) {a0_ : Nat} {M : sg_M} (hq0 : sg_K Yr a0_ 11) : ∀ res, fX11_isGrid N a0_ M = some res → sg_cI Yr ad V yX11_isGrid cX11_isGrid 1 .boolean 0 [.ref (ad a0_)] M res := fun res h => sg_bodyI (by decide) hi (Nat.le_of_ble_eq_true rfl) (fun X hX C E => by subst hX; exact tX11_isGrid C E _  _ hq0 h)
def fX11_nodesIn (N : Nat) (a0_ : Nat) (M : sg_M) : Option (Int32 × sg_M) :=
  if sg_ib (0 : Int32) (Yr.2.2.1 a0_) = true then
  if sg_ib (1 : Int32) (Yr.2.2.1 a0_) = true then
  some (((M.1 a0_ ((0 : Int32)).toNatClampNeg) * (M.1 a0_ ((1 : Int32)).toNatClampNeg)), M)
  else none
  else none
set_option maxHeartbeats 4000000 in
set_option maxRecDepth 100000 in
theorem tX11_nodesIn {ad : Nat → Nat} {X : sg_X} {N : Nat} {r : Int32 × sg_M} (C : sg_C Yr ad X cX11_nodesIn RX11 1 0) (E : sg_eI Yr ad X cX11_nodesIn .int r) : ∀ (a0_ : Nat) (M : sg_M), sg_K Yr a0_ 13 → fX11_nodesIn N a0_ M = some r → sg_T Yr ad X 1 0 [(0, .ref (ad a0_))] [] M := by
  intro a0_ M hq0 h
  unfold fX11_nodesIn at h
  refine i_aload_n C dX11_nodesIn_0 0 rfl ?_
  refine s_iconst C (0 : Int32) dX11_nodesIn_1 (by decide) ?_
  refine s_iald C hq0 dX11_nodesIn_2 h (fun h => ?_)
  refine i_aload_n C dX11_nodesIn_3 0 rfl ?_
  refine s_iconst C (1 : Int32) dX11_nodesIn_4 (by decide) ?_
  refine s_iald C hq0 dX11_nodesIn_5 h (fun h => ?_)
  refine s_imul C dX11_nodesIn_6 ?_
  exact s_iret C E dX11_nodesIn_7 h
theorem ctX11_nodesIn {ad : Nat → Nat} {V : sg_V} {N : Nat} (hi : sg_inj Yr ad) {a0_ : Nat} {M : sg_M} (hq0 : sg_K Yr a0_ 13) : ∀ res, fX11_nodesIn N a0_ M = some res → sg_cI Yr ad V yX11_nodesIn cX11_nodesIn 1 .int 0 [.ref (ad a0_)] M res := fun res h => sg_bodyI (by decide) hi (Nat.le_of_ble_eq_true rfl) (fun X hX C E => by subst hX; exact tX11_nodesIn C E _  _ hq0 h)
def fX11_nodes (N : Nat) (a0_ : Nat) (M : sg_M) : Option (Int32 × sg_M) :=
  sg_b (fX11_nodesIn N (Yr.2.2.2 a0_ 1) M) (fun (x2 : Int32) (M1 : sg_M) =>
  some (x2, M1))
set_option maxHeartbeats 4000000 in
set_option maxRecDepth 100000 in
theorem tX11_nodes {ad : Nat → Nat} {X : sg_X} {N : Nat} {r : Int32 × sg_M} (C : sg_C Yr ad X cX11_nodes RX11 1 1) (E : sg_eI Yr ad X cX11_nodes .int r) : ∀ (a0_ : Nat) (M : sg_M), sg_K Yr a0_ 11 → fX11_nodes N a0_ M = some r → sg_T Yr ad X 1 0 [(0, .ref (ad a0_))] [] M := by
  intro a0_ M hq0 h
  unfold fX11_nodes at h
  refine i_aload_n C dX11_nodes_0 0 rfl ?_
  refine gf11_9 C hq0 dX11_nodes_1 ?_
  refine s_scI C [_] smX11_nodesIn lkX11_94 (by decide) rfl rfl (Nat.le_of_ble_eq_true rfl) dX11_nodes_4 (ctX11_nodesIn C.inj (ky11_1 hq0)) h (fun x2 M1 h => ?_)
  exact s_iret C E dX11_nodes_7 h
theorem ctX11_nodes {ad : Nat → Nat} {V : sg_V} {N : Nat} (hi : sg_inj Yr ad) {a0_ : Nat} {M : sg_M} (hq0 : sg_K Yr a0_ 11) : ∀ res, fX11_nodes N a0_ M = some res → sg_cI Yr ad V yX11_nodes cX11_nodes 1 .int 1 [.ref (ad a0_)] M res := fun res h => sg_bodyI (by decide) hi (Nat.le_of_ble_eq_true rfl) (fun X hX C E => by subst hX; exact tX11_nodes C E _  _ hq0 h)
def fX11_isNode (N : Nat) (a0_ : Nat) (x1_ : Int32) (M : sg_M) : Option (Int32 × sg_M) :=
  sg_b (fX11_nodes N a0_ M) (fun (x2 : Int32) (M1 : sg_M) =>
  sg_b (fX11_in N (x1_).toInt64 (0 : Int64) ((x2 - (1 : Int32))).toInt64 M1) (fun (x4 : Int32) (M3 : sg_M) =>
  if sg_bz x4 = true then some (x4, M3) else none))
set_option maxHeartbeats 4000000 in
set_option maxRecDepth 100000 in
theorem tX11_isNode {ad : Nat → Nat} {X : sg_X} {N : Nat} {r : Int32 × sg_M} (C : sg_C Yr ad X cX11_isNode RX11 2 2) (E : sg_eI Yr ad X cX11_isNode .boolean r) : ∀ (a0_ : Nat) (x1_ : Int32) (M : sg_M), sg_K Yr a0_ 11 → fX11_isNode N a0_ x1_ M = some r → sg_T Yr ad X 2 0 [(0, .ref (ad a0_)), (1, .int x1_)] [] M := by
  intro a0_ x1_ M hq0 h
  unfold fX11_isNode at h
  refine i_iload_n C dX11_isNode_0 1 rfl ?_
  refine s_i2l C dX11_isNode_1 ?_
  refine s_lconst C (0 : Int64) dX11_isNode_2 (by decide) ?_
  refine i_aload_n C dX11_isNode_3 0 rfl ?_
  refine s_vcI C [] vmX11_nodes lkX11_98 rfl rfl (by decide) hq0 (by decide) rfl rfl (Nat.le_of_ble_eq_true rfl) dX11_isNode_4 (ctX11_nodes C.inj hq0) h (fun x2 M1 h => ?_)
  refine s_iconst C (1 : Int32) dX11_isNode_7 (by decide) ?_
  refine s_isub C dX11_isNode_8 ?_
  refine s_i2l C dX11_isNode_9 ?_
  refine s_scI C [_, _, _] smX11_in lkX11_87 (by decide) rfl rfl (Nat.le_of_ble_eq_true rfl) dX11_isNode_10 (ctX11_in C.inj ) h (fun x4 M3 h => ?_)
  exact s_zret C E dX11_isNode_13 h
theorem ctX11_isNode {ad : Nat → Nat} {V : sg_V} {N : Nat} (hi : sg_inj Yr ad) {a0_ : Nat} {x1_ : Int32} {M : sg_M} (hq0 : sg_K Yr a0_ 11) : ∀ res, fX11_isNode N a0_ x1_ M = some res → sg_cI Yr ad V yX11_isNode cX11_isNode 2 .boolean 2 [.ref (ad a0_), .int x1_] M res := fun res h => sg_bodyI (by decide) hi (Nat.le_of_ble_eq_true rfl) (fun X hX C E => by subst hX; exact tX11_isNode C E _ _  _ hq0 h)
def fX11_addsStrap (N : Nat) (a0_ : Nat) (x1_ : Int32) (x2_ : Int32) (M : sg_M) : Option (sg_M) :=
  if sg_ib ((2 : Int32) * (M.1 a0_ 8)) (Yr.2.2.1 (Yr.2.2.2 a0_ 7)) = true then
  sg_m (sg_uI M (Yr.2.2.2 a0_ 7) (((2 : Int32) * (M.1 a0_ 8))).toNatClampNeg x1_) (fun M1 : sg_M =>
  if sg_ib (((2 : Int32) * (M1.1 a0_ 8)) + (1 : Int32)) (Yr.2.2.1 (Yr.2.2.2 a0_ 7)) = true then
  sg_m (sg_uI M1 (Yr.2.2.2 a0_ 7) ((((2 : Int32) * (M1.1 a0_ 8)) + (1 : Int32))).toNatClampNeg x2_) (fun M2 : sg_M =>
  sg_m (sg_uI M2 a0_ 8 ((M2.1 a0_ 8) + (1 : Int32))) (fun M3 : sg_M =>
  some M3))
  else none)
  else none
set_option maxHeartbeats 4000000 in
set_option maxRecDepth 100000 in
theorem tX11_addsStrap {ad : Nat → Nat} {X : sg_X} {N : Nat} {r : sg_M} (C : sg_C Yr ad X cX11_addsStrap RX11 3 0) (E : sg_eV Yr ad X cX11_addsStrap r) : ∀ (a0_ : Nat) (x1_ : Int32) (x2_ : Int32) (M : sg_M), sg_K Yr a0_ 11 → fX11_addsStrap N a0_ x1_ x2_ M = some r → sg_T Yr ad X 3 0 [(0, .ref (ad a0_)), (1, .int x1_), (2, .int x2_)] [] M := by
  intro a0_ x1_ x2_ M hq0 h
  unfold fX11_addsStrap at h
  refine i_aload_n C dX11_addsStrap_0 0 rfl ?_
  refine gf11_26 C hq0 dX11_addsStrap_1 ?_
  refine s_iconst C (2 : Int32) dX11_addsStrap_4 (by decide) ?_
  refine i_aload_n C dX11_addsStrap_5 0 rfl ?_
  refine gf11_102 C hq0 dX11_addsStrap_6 ?_
  refine s_imul C dX11_addsStrap_9 ?_
  refine i_iload_n C dX11_addsStrap_10 1 rfl ?_
  refine s_iast C (ky11_7 hq0) dX11_addsStrap_11 h (fun h => ?_)
  refine z_gM h (fun M1 h => ?_)
  refine i_aload_n C dX11_addsStrap_12 0 rfl ?_
  refine gf11_26 C hq0 dX11_addsStrap_13 ?_
  refine s_iconst C (2 : Int32) dX11_addsStrap_16 (by decide) ?_
  refine i_aload_n C dX11_addsStrap_17 0 rfl ?_
  refine gf11_102 C hq0 dX11_addsStrap_18 ?_
  refine s_imul C dX11_addsStrap_21 ?_
  refine s_iconst C (1 : Int32) dX11_addsStrap_22 (by decide) ?_
  refine s_iadd C dX11_addsStrap_23 ?_
  refine i_iload_n C dX11_addsStrap_24 2 rfl ?_
  refine s_iast C (ky11_7 hq0) dX11_addsStrap_25 h (fun h => ?_)
  refine z_gM h (fun M2 h => ?_)
  refine i_aload_n C dX11_addsStrap_26 0 rfl ?_
  refine s_dup C dX11_addsStrap_27 rfl ?_
  refine gf11_102 C hq0 dX11_addsStrap_28 ?_
  refine s_iconst C (1 : Int32) dX11_addsStrap_31 (by decide) ?_
  refine s_iadd C dX11_addsStrap_32 ?_
  refine pf11_102 C hq0 dX11_addsStrap_33 ?_
  refine z_gM h (fun M3 h => ?_)
  exact s_vret C E dX11_addsStrap_36 h
theorem ctX11_addsStrap {ad : Nat → Nat} {V : sg_V} {N : Nat} (hi : sg_inj Yr ad) {a0_ : Nat} {x1_ : Int32} {x2_ : Int32} {M : sg_M} (hq0 : sg_K Yr a0_ 11) : ∀ res, fX11_addsStrap N a0_ x1_ x2_ M = some res → sg_cV Yr ad V yX11_addsStrap cX11_addsStrap 3 0 [.ref (ad a0_), .int x1_, .int x2_] M res := fun res h => sg_bodyV (by decide) hi (Nat.le_of_ble_eq_true rfl) (fun X hX C E => by subst hX; exact tX11_addsStrap C E _ _ _  _ hq0 h)
def gX11_laysStraps_31 (N : Nat) (k7 : (Nat × Int32 × Int32 × Int32) → sg_M → Option (sg_M)) (a0_ : Nat) (x1_ : Int32) (x2_ : Int32) (x3_ : Int32) (M : sg_M) : Option (sg_M) :=
  if x1_ = 0 then none else
  if (x2_ - (1 : Int32)) ≤ (x3_ / x1_) then (
  sg_m (x3_ + (1 : Int32)) (fun x1 : Int32 =>
  k7 (a0_, x1_, x2_, x1) M)) else (
  sg_bv (fX11_addsStrap N a0_ x3_ (x3_ + x1_) M) (fun M2 : sg_M =>
  sg_m (x3_ + (1 : Int32)) (fun x3 : Int32 =>
  k7 (a0_, x1_, x2_, x3) M2)))
set_option maxHeartbeats 4000000 in
set_option maxRecDepth 100000 in
theorem tX11_laysStraps_31 {ad : Nat → Nat} {X : sg_X} {N : Nat} {r : sg_M} (C : sg_C Yr ad X cX11_laysStraps RX11 4 1) (E : sg_eV Yr ad X cX11_laysStraps r) {k7 : (Nat × Int32 × Int32 × Int32) → sg_M → Option (sg_M)} (hk7 : ∀ (s : Nat × Int32 × Int32 × Int32) (M : sg_M), k7 s M = some r → sg_K Yr s.1 11 → sg_T Yr ad X 4 7 [(0, .ref (ad (s.1))), (1, .int (s.2.1)), (2, .int (s.2.2.1)), (3, .int (s.2.2.2))] [] M) : ∀ (a0_ : Nat) (x1_ : Int32) (x2_ : Int32) (x3_ : Int32) (M : sg_M), gX11_laysStraps_31 N k7 a0_ x1_ x2_ x3_ M = some r → sg_K Yr a0_ 11 → sg_T Yr ad X 4 31 [(0, .ref (ad a0_)), (1, .int x1_), (2, .int x2_), (3, .int x3_)] [] M := by
  intro a0_ x1_ x2_ x3_ M h hq0
  unfold gX11_laysStraps_31 at h
  refine i_iload_n C dX11_laysStraps_31 3 rfl ?_
  refine i_iload_n C dX11_laysStraps_32 1 rfl ?_
  refine s_idiv C dX11_laysStraps_33 h (fun h => ?_)
  refine i_iload_n C dX11_laysStraps_34 2 rfl ?_
  refine s_iconst C (1 : Int32) dX11_laysStraps_35 (by decide) ?_
  refine s_isub C dX11_laysStraps_36 ?_
  refine s_icmp_ge C 48 (by decide) dX11_laysStraps_37 h (fun _ h => ?_) (fun _ h => ?_)
  · refine z_iinc (n := 1) (c9 := (1 : Int32)) (by decide) h (fun x1 hx h => ?_)
    refine i_iinc (lv9 := [(3, _), (0, _), (1, _), (2, _)]) C dX11_laysStraps_48 3 rfl hx (by decide) rfl ?_
    refine s_goto C 7 (by decide) dX11_laysStraps_51 ?_
    exact sg_T.to (hk7 _ _ h hq0) [1, 2, 3, 0] rfl
  · refine i_aload_n C dX11_laysStraps_40 0 rfl ?_
    refine i_iload_n C dX11_laysStraps_41 3 rfl ?_
    refine i_iload_n C dX11_laysStraps_42 3 rfl ?_
    refine i_iload_n C dX11_laysStraps_43 1 rfl ?_
    refine s_iadd C dX11_laysStraps_44 ?_
    refine s_vcV C [_, _] vmX11_addsStrap lkX11_105 rfl rfl (by decide) hq0 (by decide) rfl rfl (Nat.le_of_ble_eq_true rfl) dX11_laysStraps_45 (ctX11_addsStrap C.inj hq0) h (fun M2 h => ?_)
    refine z_iinc (n := 1) (c9 := (1 : Int32)) (by decide) h (fun x3 hx h => ?_)
    refine i_iinc (lv9 := [(3, _), (0, _), (1, _), (2, _)]) C dX11_laysStraps_48 3 rfl hx (by decide) rfl ?_
    refine s_goto C 7 (by decide) dX11_laysStraps_51 ?_
    exact sg_T.to (hk7 _ _ h hq0) [1, 2, 3, 0] rfl
def bX11_laysStraps_7 (N : Nat)  (k7 : (Nat × Int32 × Int32 × Int32) → sg_M → Option (sg_M)) (s : Nat × Int32 × Int32 × Int32) (M : sg_M) : Option (sg_M) :=
  if (s.2.1 * s.2.2.1) ≤ s.2.2.2 then (
  some M) else (
  if s.2.1 = 0 then none else
  if (s.2.1 - (1 : Int32)) ≤ (s.2.2.2 - s.2.2.2 / s.2.1 * s.2.1) then (
  gX11_laysStraps_31 N k7 s.1 s.2.1 s.2.2.1 s.2.2.2 M) else (
  sg_bv (fX11_addsStrap N s.1 s.2.2.2 (s.2.2.2 + (1 : Int32)) M) (fun M4 : sg_M =>
  gX11_laysStraps_31 N k7 s.1 s.2.1 s.2.2.1 s.2.2.2 M4)))
def gX11_laysStraps_7 (N : Nat)  : (Nat × Int32 × Int32 × Int32) → sg_M → Option (sg_M) := sg_lp (bX11_laysStraps_7 N ) N
set_option maxHeartbeats 4000000 in
set_option maxRecDepth 100000 in
theorem tX11_laysStraps_7 {ad : Nat → Nat} {X : sg_X} {N : Nat} {r : sg_M} (C : sg_C Yr ad X cX11_laysStraps RX11 4 1) (E : sg_eV Yr ad X cX11_laysStraps r)  : ∀ (s : Nat × Int32 × Int32 × Int32) (M : sg_M), gX11_laysStraps_7 N s M = some r → sg_K Yr s.1 11 → sg_T Yr ad X 4 7 [(0, .ref (ad (s.1))), (1, .int (s.2.1)), (2, .int (s.2.2.1)), (3, .int (s.2.2.2))] [] M := by
  have key : ∀ n : Nat, ∀ (s : Nat × Int32 × Int32 × Int32) (M : sg_M), sg_lp (bX11_laysStraps_7 N) n s M = some r → sg_K Yr s.1 11 → sg_T Yr ad X 4 7 [(0, .ref (ad (s.1))), (1, .int (s.2.1)), (2, .int (s.2.2.1)), (3, .int (s.2.2.2))] [] M := by
    intro n
    induction n with
    | zero => intro s M h; cases h
    | succ n ih =>
      intro s M h hq0
      have h : bX11_laysStraps_7 N (sg_lp (bX11_laysStraps_7 N) n) s M = some r := h
      generalize sg_lp (bX11_laysStraps_7 N) n = k7 at h ih
      have hk7 := ih
      unfold bX11_laysStraps_7 at h
      refine i_iload_n C dX11_laysStraps_7 3 rfl ?_
      refine i_iload_n C dX11_laysStraps_8 1 rfl ?_
      refine i_iload_n C dX11_laysStraps_9 2 rfl ?_
      refine s_imul C dX11_laysStraps_10 ?_
      refine s_icmp_ge C 54 (by decide) dX11_laysStraps_11 h (fun _ h => ?_) (fun _ h => ?_)
      · exact s_vret C E dX11_laysStraps_54 h
      · refine i_iload_n C dX11_laysStraps_14 3 rfl ?_
        refine i_iload_n C dX11_laysStraps_15 1 rfl ?_
        refine s_irem C dX11_laysStraps_16 h (fun h => ?_)
        refine i_iload_n C dX11_laysStraps_17 1 rfl ?_
        refine s_iconst C (1 : Int32) dX11_laysStraps_18 (by decide) ?_
        refine s_isub C dX11_laysStraps_19 ?_
        refine s_icmp_ge C 31 (by decide) dX11_laysStraps_20 h (fun _ h => ?_) (fun _ h => ?_)
        · exact sg_T.to (tX11_laysStraps_31 C E hk7 _ _ _ _ _ h hq0) [0, 1, 2, 3] rfl
        · refine i_aload_n C dX11_laysStraps_23 0 rfl ?_
          refine i_iload_n C dX11_laysStraps_24 3 rfl ?_
          refine i_iload_n C dX11_laysStraps_25 3 rfl ?_
          refine s_iconst C (1 : Int32) dX11_laysStraps_26 (by decide) ?_
          refine s_iadd C dX11_laysStraps_27 ?_
          refine s_vcV C [_, _] vmX11_addsStrap lkX11_105 rfl rfl (by decide) hq0 (by decide) rfl rfl (Nat.le_of_ble_eq_true rfl) dX11_laysStraps_28 (ctX11_addsStrap C.inj hq0) h (fun M4 h => ?_)
          exact sg_T.to (tX11_laysStraps_31 C E hk7 _ _ _ _ _ h hq0) [0, 1, 2, 3] rfl
  exact key N
def fX11_laysStraps (N : Nat) (a0_ : Nat) (x1_ : Int32) (x2_ : Int32) (M : sg_M) : Option (sg_M) :=
  sg_m (sg_uI M a0_ 8 (0 : Int32)) (fun M5 : sg_M =>
  sg_m (0 : Int32) (fun x6 : Int32 =>
  gX11_laysStraps_7 N (a0_, x1_, x2_, x6) M5))
set_option maxHeartbeats 4000000 in
set_option maxRecDepth 100000 in
theorem tX11_laysStraps {ad : Nat → Nat} {X : sg_X} {N : Nat} {r : sg_M} (C : sg_C Yr ad X cX11_laysStraps RX11 4 1) (E : sg_eV Yr ad X cX11_laysStraps r) : ∀ (a0_ : Nat) (x1_ : Int32) (x2_ : Int32) (M : sg_M), sg_K Yr a0_ 11 → fX11_laysStraps N a0_ x1_ x2_ M = some r → sg_T Yr ad X 4 0 [(0, .ref (ad a0_)), (1, .int x1_), (2, .int x2_)] [] M := by
  intro a0_ x1_ x2_ M hq0 h
  unfold fX11_laysStraps at h
  refine i_aload_n C dX11_laysStraps_0 0 rfl ?_
  refine s_iconst C (0 : Int32) dX11_laysStraps_1 (by decide) ?_
  refine pf11_102 C hq0 dX11_laysStraps_2 ?_
  refine z_gM h (fun M5 h => ?_)
  refine s_iconst C (0 : Int32) dX11_laysStraps_5 (by decide) ?_
  refine z_gi h (fun x6 h => ?_)
  refine i_istore_n (lv9 := [(3, _), (0, _), (1, _), (2, _)]) C 3 dX11_laysStraps_6 rfl (by decide) rfl ?_
  exact sg_T.to (tX11_laysStraps_7 C E _ _ h hq0) [1, 2, 3, 0] rfl
theorem ctX11_laysStraps {ad : Nat → Nat} {V : sg_V} {N : Nat} (hi : sg_inj Yr ad) {a0_ : Nat} {x1_ : Int32} {x2_ : Int32} {M : sg_M} (hq0 : sg_K Yr a0_ 11) : ∀ res, fX11_laysStraps N a0_ x1_ x2_ M = some res → sg_cV Yr ad V yX11_laysStraps cX11_laysStraps 4 1 [.ref (ad a0_), .int x1_, .int x2_] M res := fun res h => sg_bodyV (by decide) hi (Nat.le_of_ble_eq_true rfl) (fun X hX C E => by subst hX; exact tX11_laysStraps C E _ _ _  _ hq0 h)
def fX11_straps (N : Nat) (a0_ : Nat) (M : sg_M) : Option (Int32 × sg_M) :=
  sg_b (fX11_isGrid N a0_ M) (fun (x2 : Int32) (M1 : sg_M) =>
  if x2 = 0 then (
  some ((0 : Int32), M1)) else (
  if sg_ib (0 : Int32) (Yr.2.2.1 (Yr.2.2.2 a0_ 1)) = true then
  if sg_ib (1 : Int32) (Yr.2.2.1 (Yr.2.2.2 a0_ 1)) = true then
  sg_bv (fX11_laysStraps N a0_ (M1.1 (Yr.2.2.2 a0_ 1) ((0 : Int32)).toNatClampNeg) (M1.1 (Yr.2.2.2 a0_ 1) ((1 : Int32)).toNatClampNeg) M1) (fun M3 : sg_M =>
  some ((M3.1 a0_ 8), M3))
  else none
  else none))
set_option maxHeartbeats 4000000 in
set_option maxRecDepth 100000 in
theorem tX11_straps {ad : Nat → Nat} {X : sg_X} {N : Nat} {r : Int32 × sg_M} (C : sg_C Yr ad X cX11_straps RX11 1 2) (E : sg_eI Yr ad X cX11_straps .int r) : ∀ (a0_ : Nat) (M : sg_M), sg_K Yr a0_ 11 → fX11_straps N a0_ M = some r → sg_T Yr ad X 1 0 [(0, .ref (ad a0_))] [] M := by
  intro a0_ M hq0 h
  unfold fX11_straps at h
  refine i_aload_n C dX11_straps_0 0 rfl ?_
  refine s_vcI C [] vmX11_isGrid lkX11_109 rfl rfl (by decide) hq0 (by decide) rfl rfl (Nat.le_of_ble_eq_true rfl) dX11_straps_1 (ctX11_isGrid C.inj hq0) h (fun x2 M1 h => ?_)
  refine s_if_ne C 9 (by decide) dX11_straps_4 h (fun _ h => ?_) (fun _ h => ?_)
  · refine s_iconst C (0 : Int32) dX11_straps_7 (by decide) ?_
    exact s_iret C E dX11_straps_8 h
  · refine i_aload_n C dX11_straps_9 0 rfl ?_
    refine i_aload_n C dX11_straps_10 0 rfl ?_
    refine gf11_9 C hq0 dX11_straps_11 ?_
    refine s_iconst C (0 : Int32) dX11_straps_14 (by decide) ?_
    refine s_iald C (ky11_1 hq0) dX11_straps_15 h (fun h => ?_)
    refine i_aload_n C dX11_straps_16 0 rfl ?_
    refine gf11_9 C hq0 dX11_straps_17 ?_
    refine s_iconst C (1 : Int32) dX11_straps_20 (by decide) ?_
    refine s_iald C (ky11_1 hq0) dX11_straps_21 h (fun h => ?_)
    refine s_vcV C [_, _] vmX11_laysStraps lkX11_113 rfl rfl (by decide) hq0 (by decide) rfl rfl (Nat.le_of_ble_eq_true rfl) dX11_straps_22 (ctX11_laysStraps C.inj hq0) h (fun M3 h => ?_)
    refine i_aload_n C dX11_straps_25 0 rfl ?_
    refine gf11_102 C hq0 dX11_straps_26 ?_
    exact s_iret C E dX11_straps_29 h
theorem ctX11_straps {ad : Nat → Nat} {V : sg_V} {N : Nat} (hi : sg_inj Yr ad) {a0_ : Nat} {M : sg_M} (hq0 : sg_K Yr a0_ 11) : ∀ res, fX11_straps N a0_ M = some res → sg_cI Yr ad V yX11_straps cX11_straps 1 .int 2 [.ref (ad a0_)] M res := fun res h => sg_bodyI (by decide) hi (Nat.le_of_ble_eq_true rfl) (fun X hX C E => by subst hX; exact tX11_straps C E _  _ hq0 h)
def fX11_isStrap (N : Nat) (a0_ : Nat) (x1_ : Int32) (M : sg_M) : Option (Int32 × sg_M) :=
  sg_b (fX11_straps N a0_ M) (fun (x2 : Int32) (M1 : sg_M) =>
  sg_b (fX11_in N (x1_).toInt64 (0 : Int64) ((x2 - (1 : Int32))).toInt64 M1) (fun (x4 : Int32) (M3 : sg_M) =>
  if sg_bz x4 = true then some (x4, M3) else none))
set_option maxHeartbeats 4000000 in
set_option maxRecDepth 100000 in
theorem tX11_isStrap {ad : Nat → Nat} {X : sg_X} {N : Nat} {r : Int32 × sg_M} (C : sg_C Yr ad X cX11_isStrap RX11 2 3) (E : sg_eI Yr ad X cX11_isStrap .boolean r) : ∀ (a0_ : Nat) (x1_ : Int32) (M : sg_M), sg_K Yr a0_ 11 → fX11_isStrap N a0_ x1_ M = some r → sg_T Yr ad X 2 0 [(0, .ref (ad a0_)), (1, .int x1_)] [] M := by
  intro a0_ x1_ M hq0 h
  unfold fX11_isStrap at h
  refine i_iload_n C dX11_isStrap_0 1 rfl ?_
  refine s_i2l C dX11_isStrap_1 ?_
  refine s_lconst C (0 : Int64) dX11_isStrap_2 (by decide) ?_
  refine i_aload_n C dX11_isStrap_3 0 rfl ?_
  refine s_vcI C [] vmX11_straps lkX11_116 rfl rfl (by decide) hq0 (by decide) rfl rfl (Nat.le_of_ble_eq_true rfl) dX11_isStrap_4 (ctX11_straps C.inj hq0) h (fun x2 M1 h => ?_)
  refine s_iconst C (1 : Int32) dX11_isStrap_7 (by decide) ?_
  refine s_isub C dX11_isStrap_8 ?_
  refine s_i2l C dX11_isStrap_9 ?_
  refine s_scI C [_, _, _] smX11_in lkX11_87 (by decide) rfl rfl (Nat.le_of_ble_eq_true rfl) dX11_isStrap_10 (ctX11_in C.inj ) h (fun x4 M3 h => ?_)
  exact s_zret C E dX11_isStrap_13 h
theorem ctX11_isStrap {ad : Nat → Nat} {V : sg_V} {N : Nat} (hi : sg_inj Yr ad) {a0_ : Nat} {x1_ : Int32} {M : sg_M} (hq0 : sg_K Yr a0_ 11) : ∀ res, fX11_isStrap N a0_ x1_ M = some res → sg_cI Yr ad V yX11_isStrap cX11_isStrap 2 .boolean 3 [.ref (ad a0_), .int x1_] M res := fun res h => sg_bodyI (by decide) hi (Nat.le_of_ble_eq_true rfl) (fun X hX C E => by subst hX; exact tX11_isStrap C E _ _  _ hq0 h)
def bX11_strapOf_2 (N : Nat)  (k2 : (Nat × Int32 × Int32 × Int32) → sg_M → Option (Int32 × sg_M)) (s : Nat × Int32 × Int32 × Int32) (M : sg_M) : Option (Int32 × sg_M) :=
  if (M.1 s.1 8) ≤ s.2.2.2 then (
  some ((-1 : Int32), M)) else (
  if sg_ib ((2 : Int32) * s.2.2.2) (Yr.2.2.1 (Yr.2.2.2 s.1 7)) = true then
  if (M.1 (Yr.2.2.2 s.1 7) (((2 : Int32) * s.2.2.2)).toNatClampNeg) = (if s.2.2.1 < s.2.1 then s.2.2.1 else s.2.1) then (
  if sg_ib (((2 : Int32) * s.2.2.2) + (1 : Int32)) (Yr.2.2.1 (Yr.2.2.2 s.1 7)) = true then
  if (M.1 (Yr.2.2.2 s.1 7) ((((2 : Int32) * s.2.2.2) + (1 : Int32))).toNatClampNeg) = (if s.2.1 < s.2.2.1 then s.2.2.1 else s.2.1) then (
  some (s.2.2.2, M)) else (
  sg_m (s.2.2.2 + (1 : Int32)) (fun x1 : Int32 =>
  k2 (s.1, s.2.1, s.2.2.1, x1) M))
  else none) else (
  sg_m (s.2.2.2 + (1 : Int32)) (fun x2 : Int32 =>
  k2 (s.1, s.2.1, s.2.2.1, x2) M))
  else none)
def gX11_strapOf_2 (N : Nat)  : (Nat × Int32 × Int32 × Int32) → sg_M → Option (Int32 × sg_M) := sg_lp (bX11_strapOf_2 N ) N
set_option maxHeartbeats 4000000 in
set_option maxRecDepth 100000 in
theorem tX11_strapOf_2 {ad : Nat → Nat} {X : sg_X} {N : Nat} {r : Int32 × sg_M} (C : sg_C Yr ad X cX11_strapOf RX11 4 1) (E : sg_eI Yr ad X cX11_strapOf .int r)  : ∀ (s : Nat × Int32 × Int32 × Int32) (M : sg_M), gX11_strapOf_2 N s M = some r → sg_K Yr s.1 11 → sg_T Yr ad X 4 2 [(0, .ref (ad (s.1))), (1, .int (s.2.1)), (2, .int (s.2.2.1)), (3, .int (s.2.2.2))] [] M := by
  have key : ∀ n : Nat, ∀ (s : Nat × Int32 × Int32 × Int32) (M : sg_M), sg_lp (bX11_strapOf_2 N) n s M = some r → sg_K Yr s.1 11 → sg_T Yr ad X 4 2 [(0, .ref (ad (s.1))), (1, .int (s.2.1)), (2, .int (s.2.2.1)), (3, .int (s.2.2.2))] [] M := by
    intro n
    induction n with
    | zero => intro s M h; cases h
    | succ n ih =>
      intro s M h hq0
      have h : bX11_strapOf_2 N (sg_lp (bX11_strapOf_2 N) n) s M = some r := h
      generalize sg_lp (bX11_strapOf_2 N) n = k2 at h ih
      have hk2 := ih
      unfold bX11_strapOf_2 at h
      refine i_iload_n C dX11_strapOf_2 3 rfl ?_
      refine i_aload_n C dX11_strapOf_3 0 rfl ?_
      refine gf11_102 C hq0 dX11_strapOf_4 ?_
      refine s_icmp_ge C 52 (by decide) dX11_strapOf_7 h (fun _ h => ?_) (fun _ h => ?_)
      · refine s_iconst C (-1 : Int32) dX11_strapOf_52 (by decide) ?_
        exact s_iret C E dX11_strapOf_53 h
      · refine i_aload_n C dX11_strapOf_10 0 rfl ?_
        refine gf11_26 C hq0 dX11_strapOf_11 ?_
        refine s_iconst C (2 : Int32) dX11_strapOf_14 (by decide) ?_
        refine i_iload_n C dX11_strapOf_15 3 rfl ?_
        refine s_imul C dX11_strapOf_16 ?_
        refine s_iald C (ky11_7 hq0) dX11_strapOf_17 h (fun h => ?_)
        refine i_iload_n C dX11_strapOf_18 1 rfl ?_
        refine i_iload_n C dX11_strapOf_19 2 rfl ?_
        refine s_mmin C (by decide) mmin_X11_119 mmin_1 math_2 mmin_3 (Nat.le_of_ble_eq_true rfl) dX11_strapOf_20 ?_
        refine s_icmp_ne C 46 (by decide) dX11_strapOf_23 h (fun _ h => ?_) (fun _ h => ?_)
        · refine i_aload_n C dX11_strapOf_26 0 rfl ?_
          refine gf11_26 C hq0 dX11_strapOf_27 ?_
          refine s_iconst C (2 : Int32) dX11_strapOf_30 (by decide) ?_
          refine i_iload_n C dX11_strapOf_31 3 rfl ?_
          refine s_imul C dX11_strapOf_32 ?_
          refine s_iconst C (1 : Int32) dX11_strapOf_33 (by decide) ?_
          refine s_iadd C dX11_strapOf_34 ?_
          refine s_iald C (ky11_7 hq0) dX11_strapOf_35 h (fun h => ?_)
          refine i_iload_n C dX11_strapOf_36 1 rfl ?_
          refine i_iload_n C dX11_strapOf_37 2 rfl ?_
          refine s_mmax C (by decide) mmax_X11_123 mmax_1 math_2 mmax_3 (Nat.le_of_ble_eq_true rfl) dX11_strapOf_38 ?_
          refine s_icmp_ne C 46 (by decide) dX11_strapOf_41 h (fun _ h => ?_) (fun _ h => ?_)
          · refine i_iload_n C dX11_strapOf_44 3 rfl ?_
            exact s_iret C E dX11_strapOf_45 h
          · refine z_iinc (n := 1) (c9 := (1 : Int32)) (by decide) h (fun x1 hx h => ?_)
            refine i_iinc (lv9 := [(3, _), (0, _), (1, _), (2, _)]) C dX11_strapOf_46 3 rfl hx (by decide) rfl ?_
            refine s_goto C 2 (by decide) dX11_strapOf_49 ?_
            exact sg_T.to (hk2 _ _ h hq0) [1, 2, 3, 0] rfl
        · refine z_iinc (n := 1) (c9 := (1 : Int32)) (by decide) h (fun x2 hx h => ?_)
          refine i_iinc (lv9 := [(3, _), (0, _), (1, _), (2, _)]) C dX11_strapOf_46 3 rfl hx (by decide) rfl ?_
          refine s_goto C 2 (by decide) dX11_strapOf_49 ?_
          exact sg_T.to (hk2 _ _ h hq0) [1, 2, 3, 0] rfl
  exact key N
def fX11_strapOf (N : Nat) (a0_ : Nat) (x1_ : Int32) (x2_ : Int32) (M : sg_M) : Option (Int32 × sg_M) :=
  sg_m (0 : Int32) (fun x3 : Int32 =>
  gX11_strapOf_2 N (a0_, x1_, x2_, x3) M)
set_option maxHeartbeats 4000000 in
set_option maxRecDepth 100000 in
theorem tX11_strapOf {ad : Nat → Nat} {X : sg_X} {N : Nat} {r : Int32 × sg_M} (C : sg_C Yr ad X cX11_strapOf RX11 4 1) (E : sg_eI Yr ad X cX11_strapOf .int r) : ∀ (a0_ : Nat) (x1_ : Int32) (x2_ : Int32) (M : sg_M), sg_K Yr a0_ 11 → fX11_strapOf N a0_ x1_ x2_ M = some r → sg_T Yr ad X 4 0 [(0, .ref (ad a0_)), (1, .int x1_), (2, .int x2_)] [] M := by
  intro a0_ x1_ x2_ M hq0 h
  unfold fX11_strapOf at h
  refine s_iconst C (0 : Int32) dX11_strapOf_0 (by decide) ?_
  refine z_gi h (fun x3 h => ?_)
  refine i_istore_n (lv9 := [(3, _), (0, _), (1, _), (2, _)]) C 3 dX11_strapOf_1 rfl (by decide) rfl ?_
  exact sg_T.to (tX11_strapOf_2 C E _ _ h hq0) [1, 2, 3, 0] rfl
theorem ctX11_strapOf {ad : Nat → Nat} {V : sg_V} {N : Nat} (hi : sg_inj Yr ad) {a0_ : Nat} {x1_ : Int32} {x2_ : Int32} {M : sg_M} (hq0 : sg_K Yr a0_ 11) : ∀ res, fX11_strapOf N a0_ x1_ x2_ M = some res → sg_cI Yr ad V yX11_strapOf cX11_strapOf 4 .int 1 [.ref (ad a0_), .int x1_, .int x2_] M res := fun res h => sg_bodyI (by decide) hi (Nat.le_of_ble_eq_true rfl) (fun X hX C E => by subst hX; exact tX11_strapOf C E _ _ _  _ hq0 h)
def bX11_feed_55 (N : Nat)  (k55 : (Nat × Int32) → sg_M → Option (Int32 × sg_M)) (s : Nat × Int32) (M : sg_M) : Option (Int32 × sg_M) :=
  if (20 : Int32) ≤ s.2 then (
  sg_m (sg_uI M s.1 10 ((M.1 s.1 10) + (20 : Int32))) (fun M1 : sg_M =>
  some ((M1.1 s.1 10), M1))) else (
  if (4 : Int32) = 0 then none else
  if sg_ib (s.2 / (4 : Int32)) (Yr.2.2.1 (Yr.2.2.2 s.1 11)) = true then
  if (4 : Int32) = 0 then none else
  if sg_ib ((M.1 s.1 10) + s.2) (Yr.2.2.1 (Yr.2.2.2 s.1 9)) = true then
  sg_m (sg_uI M (Yr.2.2.2 s.1 9) (((M.1 s.1 10) + s.2)).toNatClampNeg (vp_nar .byte (((M.1 (Yr.2.2.2 s.1 11) ((s.2 / (4 : Int32))).toNatClampNeg) >>> (((24 : Int32) - ((8 : Int32) * (s.2 - s.2 / (4 : Int32) * (4 : Int32)))) &&& 31))).toInt8.toInt32)) (fun M2 : sg_M =>
  sg_m (s.2 + (1 : Int32)) (fun x3 : Int32 =>
  k55 (s.1, x3) M2))
  else none
  else none)
def gX11_feed_55 (N : Nat)  : (Nat × Int32) → sg_M → Option (Int32 × sg_M) := sg_lp (bX11_feed_55 N ) N
set_option maxHeartbeats 4000000 in
set_option maxRecDepth 100000 in
theorem tX11_feed_55 {ad : Nat → Nat} {X : sg_X} {N : Nat} {r : Int32 × sg_M} (C : sg_C Yr ad X cX11_feed RX11 7 0) (E : sg_eI Yr ad X cX11_feed .int r)  : ∀ (s : Nat × Int32) (M : sg_M), gX11_feed_55 N s M = some r → sg_K Yr s.1 11 → sg_T Yr ad X 7 55 [(0, .ref (ad (s.1))), (6, .int (s.2))] [] M := by
  have key : ∀ n : Nat, ∀ (s : Nat × Int32) (M : sg_M), sg_lp (bX11_feed_55 N) n s M = some r → sg_K Yr s.1 11 → sg_T Yr ad X 7 55 [(0, .ref (ad (s.1))), (6, .int (s.2))] [] M := by
    intro n
    induction n with
    | zero => intro s M h; cases h
    | succ n ih =>
      intro s M h hq0
      have h : bX11_feed_55 N (sg_lp (bX11_feed_55 N) n) s M = some r := h
      generalize sg_lp (bX11_feed_55 N) n = k55 at h ih
      have hk55 := ih
      unfold bX11_feed_55 at h
      refine i_iload C dX11_feed_55 1 rfl ?_
      refine s_bipush C (20 : Int32) dX11_feed_57 (by decide) ?_
      refine s_icmp_ge C 101 (by decide) dX11_feed_59 h (fun _ h => ?_) (fun _ h => ?_)
      · refine i_aload_n C dX11_feed_101 0 rfl ?_
        refine s_dup C dX11_feed_102 rfl ?_
        refine gf11_126 C hq0 dX11_feed_103 ?_
        refine s_bipush C (20 : Int32) dX11_feed_106 (by decide) ?_
        refine s_iadd C dX11_feed_108 ?_
        refine pf11_126 C hq0 dX11_feed_109 ?_
        refine z_gM h (fun M1 h => ?_)
        refine i_aload_n C dX11_feed_112 0 rfl ?_
        refine gf11_126 C hq0 dX11_feed_113 ?_
        exact s_iret C E dX11_feed_116 h
      · refine i_aload_n C dX11_feed_62 0 rfl ?_
        refine gf11_29 C hq0 dX11_feed_63 ?_
        refine i_aload_n C dX11_feed_66 0 rfl ?_
        refine gf11_126 C hq0 dX11_feed_67 ?_
        refine i_iload C dX11_feed_70 1 rfl ?_
        refine s_iadd C dX11_feed_72 ?_
        refine i_aload_n C dX11_feed_73 0 rfl ?_
        refine gf11_33 C hq0 dX11_feed_74 ?_
        refine i_iload C dX11_feed_77 1 rfl ?_
        refine s_iconst C (4 : Int32) dX11_feed_79 (by decide) ?_
        refine s_idiv C dX11_feed_80 h (fun h => ?_)
        refine s_iald C (ky11_11 hq0) dX11_feed_81 h (fun h => ?_)
        refine s_bipush C (24 : Int32) dX11_feed_82 (by decide) ?_
        refine s_bipush C (8 : Int32) dX11_feed_84 (by decide) ?_
        refine i_iload C dX11_feed_86 1 rfl ?_
        refine s_iconst C (4 : Int32) dX11_feed_88 (by decide) ?_
        refine s_irem C dX11_feed_89 h (fun h => ?_)
        refine s_imul C dX11_feed_90 ?_
        refine s_isub C dX11_feed_91 ?_
        refine s_ishr C dX11_feed_92 ?_
        refine s_i2b C dX11_feed_93 ?_
        refine s_bast C (ky11_9 hq0) dX11_feed_94 h (fun h => ?_)
        refine z_gM h (fun M2 h => ?_)
        refine z_iinc (n := 1) (c9 := (1 : Int32)) (by decide) h (fun x3 hx h => ?_)
        refine i_iinc (lv9 := [(6, _), (0, _)]) C dX11_feed_95 1 rfl hx (by decide) rfl ?_
        refine s_goto C 55 (by decide) dX11_feed_98 ?_
        exact sg_T.to (hk55 _ _ h hq0) [1, 0] rfl
  exact key N
def fX11_feed (N : Nat) (a0_ : Nat) (x1_ : Int32) (x2_ : Int32) (x3_ : Int32) (x4_ : Int32) (x5_ : Int32) (M : sg_M) : Option (Int32 × sg_M) :=
  if ((M.1 a0_ 10) + (20 : Int32)) ≤ (700 : Int32) then (
  if sg_ib (0 : Int32) (Yr.2.2.1 (Yr.2.2.2 a0_ 11)) = true then
  sg_m (sg_uI M (Yr.2.2.2 a0_ 11) ((0 : Int32)).toNatClampNeg x1_) (fun M4 : sg_M =>
  if sg_ib (1 : Int32) (Yr.2.2.1 (Yr.2.2.2 a0_ 11)) = true then
  sg_m (sg_uI M4 (Yr.2.2.2 a0_ 11) ((1 : Int32)).toNatClampNeg x2_) (fun M5 : sg_M =>
  if sg_ib (2 : Int32) (Yr.2.2.1 (Yr.2.2.2 a0_ 11)) = true then
  sg_m (sg_uI M5 (Yr.2.2.2 a0_ 11) ((2 : Int32)).toNatClampNeg x3_) (fun M6 : sg_M =>
  if sg_ib (3 : Int32) (Yr.2.2.1 (Yr.2.2.2 a0_ 11)) = true then
  sg_m (sg_uI M6 (Yr.2.2.2 a0_ 11) ((3 : Int32)).toNatClampNeg x4_) (fun M7 : sg_M =>
  if sg_ib (4 : Int32) (Yr.2.2.1 (Yr.2.2.2 a0_ 11)) = true then
  sg_m (sg_uI M7 (Yr.2.2.2 a0_ 11) ((4 : Int32)).toNatClampNeg x5_) (fun M8 : sg_M =>
  sg_m (0 : Int32) (fun x9 : Int32 =>
  gX11_feed_55 N (a0_, x9) M8))
  else none)
  else none)
  else none)
  else none)
  else none) else (
  some ((-1 : Int32), M))
set_option maxHeartbeats 4000000 in
set_option maxRecDepth 100000 in
theorem tX11_feed {ad : Nat → Nat} {X : sg_X} {N : Nat} {r : Int32 × sg_M} (C : sg_C Yr ad X cX11_feed RX11 7 0) (E : sg_eI Yr ad X cX11_feed .int r) : ∀ (a0_ : Nat) (x1_ : Int32) (x2_ : Int32) (x3_ : Int32) (x4_ : Int32) (x5_ : Int32) (M : sg_M), sg_K Yr a0_ 11 → fX11_feed N a0_ x1_ x2_ x3_ x4_ x5_ M = some r → sg_T Yr ad X 7 0 [(0, .ref (ad a0_)), (1, .int x1_), (2, .int x2_), (3, .int x3_), (4, .int x4_), (5, .int x5_)] [] M := by
  intro a0_ x1_ x2_ x3_ x4_ x5_ M hq0 h
  unfold fX11_feed at h
  refine i_aload_n C dX11_feed_0 0 rfl ?_
  refine gf11_126 C hq0 dX11_feed_1 ?_
  refine s_bipush C (20 : Int32) dX11_feed_4 (by decide) ?_
  refine s_iadd C dX11_feed_6 ?_
  refine s_sipush C (700 : Int32) dX11_feed_7 (by decide) ?_
  refine s_icmp_le C 15 (by decide) dX11_feed_10 h (fun _ h => ?_) (fun _ h => ?_)
  · refine i_aload_n C dX11_feed_15 0 rfl ?_
    refine gf11_33 C hq0 dX11_feed_16 ?_
    refine s_iconst C (0 : Int32) dX11_feed_19 (by decide) ?_
    refine i_iload_n C dX11_feed_20 1 rfl ?_
    refine s_iast C (ky11_11 hq0) dX11_feed_21 h (fun h => ?_)
    refine z_gM h (fun M4 h => ?_)
    refine i_aload_n C dX11_feed_22 0 rfl ?_
    refine gf11_33 C hq0 dX11_feed_23 ?_
    refine s_iconst C (1 : Int32) dX11_feed_26 (by decide) ?_
    refine i_iload_n C dX11_feed_27 2 rfl ?_
    refine s_iast C (ky11_11 hq0) dX11_feed_28 h (fun h => ?_)
    refine z_gM h (fun M5 h => ?_)
    refine i_aload_n C dX11_feed_29 0 rfl ?_
    refine gf11_33 C hq0 dX11_feed_30 ?_
    refine s_iconst C (2 : Int32) dX11_feed_33 (by decide) ?_
    refine i_iload_n C dX11_feed_34 3 rfl ?_
    refine s_iast C (ky11_11 hq0) dX11_feed_35 h (fun h => ?_)
    refine z_gM h (fun M6 h => ?_)
    refine i_aload_n C dX11_feed_36 0 rfl ?_
    refine gf11_33 C hq0 dX11_feed_37 ?_
    refine s_iconst C (3 : Int32) dX11_feed_40 (by decide) ?_
    refine i_iload C dX11_feed_41 4 rfl ?_
    refine s_iast C (ky11_11 hq0) dX11_feed_43 h (fun h => ?_)
    refine z_gM h (fun M7 h => ?_)
    refine i_aload_n C dX11_feed_44 0 rfl ?_
    refine gf11_33 C hq0 dX11_feed_45 ?_
    refine s_iconst C (4 : Int32) dX11_feed_48 (by decide) ?_
    refine i_iload C dX11_feed_49 5 rfl ?_
    refine s_iast C (ky11_11 hq0) dX11_feed_51 h (fun h => ?_)
    refine z_gM h (fun M8 h => ?_)
    refine s_iconst C (0 : Int32) dX11_feed_52 (by decide) ?_
    refine z_gi h (fun x9 h => ?_)
    refine i_istore (lv9 := [(6, _), (0, _), (1, _), (2, _), (3, _), (4, _), (5, _)]) C dX11_feed_53 (by decide) rfl ?_
    exact sg_T.to (tX11_feed_55 C E _ _ h hq0) [1, 0] rfl
  · refine s_iconst C (-1 : Int32) dX11_feed_13 (by decide) ?_
    exact s_iret C E dX11_feed_14 h
theorem ctX11_feed {ad : Nat → Nat} {V : sg_V} {N : Nat} (hi : sg_inj Yr ad) {a0_ : Nat} {x1_ : Int32} {x2_ : Int32} {x3_ : Int32} {x4_ : Int32} {x5_ : Int32} {M : sg_M} (hq0 : sg_K Yr a0_ 11) : ∀ res, fX11_feed N a0_ x1_ x2_ x3_ x4_ x5_ M = some res → sg_cI Yr ad V yX11_feed cX11_feed 7 .int 0 [.ref (ad a0_), .int x1_, .int x2_, .int x3_, .int x4_, .int x5_] M res := fun res h => sg_bodyI (by decide) hi (Nat.le_of_ble_eq_true rfl) (fun X hX C E => by subst hX; exact tX11_feed C E _ _ _ _ _ _  _ hq0 h)
def fX11_end (N : Nat) (a0_ : Nat) (x1_ : Int32) (M : sg_M) : Option (Int32 × sg_M) :=
  sg_b (fX11_in N (x1_).toInt64 (0 : Int64) ((M.1 a0_ 10)).toInt64 M) (fun (x2 : Int32) (M1 : sg_M) =>
  if x2 = 0 then (
  some ((-1 : Int32), M1)) else (
  sg_m (sg_uI M1 a0_ 10 x1_) (fun M3 : sg_M =>
  some (x1_, M3))))
set_option maxHeartbeats 4000000 in
set_option maxRecDepth 100000 in
theorem tX11_end {ad : Nat → Nat} {X : sg_X} {N : Nat} {r : Int32 × sg_M} (C : sg_C Yr ad X cX11_end RX11 2 1) (E : sg_eI Yr ad X cX11_end .int r) : ∀ (a0_ : Nat) (x1_ : Int32) (M : sg_M), sg_K Yr a0_ 11 → fX11_end N a0_ x1_ M = some r → sg_T Yr ad X 2 0 [(0, .ref (ad a0_)), (1, .int x1_)] [] M := by
  intro a0_ x1_ M hq0 h
  unfold fX11_end at h
  refine i_iload_n C dX11_end_0 1 rfl ?_
  refine s_i2l C dX11_end_1 ?_
  refine s_lconst C (0 : Int64) dX11_end_2 (by decide) ?_
  refine i_aload_n C dX11_end_3 0 rfl ?_
  refine gf11_126 C hq0 dX11_end_4 ?_
  refine s_i2l C dX11_end_7 ?_
  refine s_scI C [_, _, _] smX11_in lkX11_87 (by decide) rfl rfl (Nat.le_of_ble_eq_true rfl) dX11_end_8 (ctX11_in C.inj ) h (fun x2 M1 h => ?_)
  refine s_if_ne C 16 (by decide) dX11_end_11 h (fun _ h => ?_) (fun _ h => ?_)
  · refine s_iconst C (-1 : Int32) dX11_end_14 (by decide) ?_
    exact s_iret C E dX11_end_15 h
  · refine i_aload_n C dX11_end_16 0 rfl ?_
    refine i_iload_n C dX11_end_17 1 rfl ?_
    refine pf11_126 C hq0 dX11_end_18 ?_
    refine z_gM h (fun M3 h => ?_)
    refine i_iload_n C dX11_end_21 1 rfl ?_
    exact s_iret C E dX11_end_22 h
theorem ctX11_end {ad : Nat → Nat} {V : sg_V} {N : Nat} (hi : sg_inj Yr ad) {a0_ : Nat} {x1_ : Int32} {M : sg_M} (hq0 : sg_K Yr a0_ 11) : ∀ res, fX11_end N a0_ x1_ M = some res → sg_cI Yr ad V yX11_end cX11_end 2 .int 1 [.ref (ad a0_), .int x1_] M res := fun res h => sg_bodyI (by decide) hi (Nat.le_of_ble_eq_true rfl) (fun X hX C E => by subst hX; exact tX11_end C E _ _  _ hq0 h)
def fX11_see (N : Nat) (a0_ : Nat) (x1_ : Int32) (M : sg_M) : Option (Int32 × sg_M) :=
  if (M.1 a0_ 12) ≤ x1_ then (
  some ((-1 : Int32), M)) else (
  if sg_ib x1_ (Yr.2.2.1 (Yr.2.2.2 a0_ 9)) = true then
  some (((M.1 (Yr.2.2.2 a0_ 9) (x1_).toNatClampNeg) &&& (255 : Int32)), M)
  else none)
set_option maxHeartbeats 4000000 in
set_option maxRecDepth 100000 in
theorem tX11_see {ad : Nat → Nat} {X : sg_X} {N : Nat} {r : Int32 × sg_M} (C : sg_C Yr ad X cX11_see RX11 2 0) (E : sg_eI Yr ad X cX11_see .int r) : ∀ (a0_ : Nat) (x1_ : Int32) (M : sg_M), sg_K Yr a0_ 11 → fX11_see N a0_ x1_ M = some r → sg_T Yr ad X 2 0 [(0, .ref (ad a0_)), (1, .int x1_)] [] M := by
  intro a0_ x1_ M hq0 h
  unfold fX11_see at h
  refine i_iload_n C dX11_see_0 1 rfl ?_
  refine i_aload_n C dX11_see_1 0 rfl ?_
  refine gf11_129 C hq0 dX11_see_2 ?_
  refine s_icmp_ge C 21 (by decide) dX11_see_5 h (fun _ h => ?_) (fun _ h => ?_)
  · refine s_iconst C (-1 : Int32) dX11_see_21 (by decide) ?_
    exact s_iret C E dX11_see_22 h
  · refine i_aload_n C dX11_see_8 0 rfl ?_
    refine gf11_29 C hq0 dX11_see_9 ?_
    refine i_iload_n C dX11_see_12 1 rfl ?_
    refine s_bald C (ky11_9 hq0) dX11_see_13 h (fun h => ?_)
    refine s_sipush C (255 : Int32) dX11_see_14 (by decide) ?_
    refine s_iand C dX11_see_17 ?_
    refine s_goto C 22 (by decide) dX11_see_18 ?_
    exact s_iret C E dX11_see_22 h
theorem ctX11_see {ad : Nat → Nat} {V : sg_V} {N : Nat} (hi : sg_inj Yr ad) {a0_ : Nat} {x1_ : Int32} {M : sg_M} (hq0 : sg_K Yr a0_ 11) : ∀ res, fX11_see N a0_ x1_ M = some res → sg_cI Yr ad V yX11_see cX11_see 2 .int 0 [.ref (ad a0_), .int x1_] M res := fun res h => sg_bodyI (by decide) hi (Nat.le_of_ble_eq_true rfl) (fun X hX C E => by subst hX; exact tX11_see C E _ _  _ hq0 h)
def bX11_advance_144 (N : Nat)  (k144 : Nat → sg_M → Option (sg_M)) (s : Nat) (M : sg_M) : Option (sg_M) :=
  sg_b (fX11_see N s (M.1 s 13) M) (fun (x2 : Int32) (M1 : sg_M) =>
  sg_b (fX11_in N (x2).toInt64 (48 : Int64) (57 : Int64) M1) (fun (x4 : Int32) (M3 : sg_M) =>
  if x4 = 0 then (
  sg_m (sg_uI M3 s 15 (2 : Int32)) (fun M5 : sg_M =>
  some M5)) else (
  sg_b (fX11_see N s (M3.1 s 13) M3) (fun (x7 : Int32) (M6 : sg_M) =>
  sg_m (sg_uI M6 s 16 (if ((((10 : Int32) * (M3.1 s 16)) + x7) - (48 : Int32)) < (99999 : Int32) then ((((10 : Int32) * (M3.1 s 16)) + x7) - (48 : Int32)) else (99999 : Int32))) (fun M8 : sg_M =>
  sg_m (sg_uI M8 s 13 ((M8.1 s 13) + (1 : Int32))) (fun M9 : sg_M =>
  k144 (s) M9))))))
def gX11_advance_144 (N : Nat)  : Nat → sg_M → Option (sg_M) := sg_lp (bX11_advance_144 N ) N
set_option maxHeartbeats 4000000 in
set_option maxRecDepth 100000 in
theorem tX11_advance_144 {ad : Nat → Nat} {X : sg_X} {N : Nat} {r : sg_M} (C : sg_C Yr ad X cX11_advance RX11 2 1) (E : sg_eV Yr ad X cX11_advance r)  : ∀ (s : Nat) (M : sg_M), gX11_advance_144 N s M = some r → sg_K Yr s 11 → sg_T Yr ad X 2 144 [(0, .ref (ad s))] [] M := by
  have key : ∀ n : Nat, ∀ (s : Nat) (M : sg_M), sg_lp (bX11_advance_144 N) n s M = some r → sg_K Yr s 11 → sg_T Yr ad X 2 144 [(0, .ref (ad s))] [] M := by
    intro n
    induction n with
    | zero => intro s M h; cases h
    | succ n ih =>
      intro s M h hq0
      have h : bX11_advance_144 N (sg_lp (bX11_advance_144 N) n) s M = some r := h
      generalize sg_lp (bX11_advance_144 N) n = k144 at h ih
      have hk144 := ih
      unfold bX11_advance_144 at h
      refine i_aload_n C dX11_advance_144 0 rfl ?_
      refine i_aload_n C dX11_advance_145 0 rfl ?_
      refine gf11_132 C hq0 dX11_advance_146 ?_
      refine s_vcI C [_] vmX11_see lkX11_135 rfl rfl (by decide) hq0 (by decide) rfl rfl (Nat.le_of_ble_eq_true rfl) dX11_advance_149 (ctX11_see C.inj hq0) h (fun x2 M1 h => ?_)
      refine s_i2l C dX11_advance_152 ?_
      refine s_ldc2 C (48 : Int64) kl_X11_149 dX11_advance_153 ?_
      refine s_ldc2 C (57 : Int64) kl_X11_151 dX11_advance_156 ?_
      refine s_scI C [_, _, _] smX11_in lkX11_87 (by decide) rfl rfl (Nat.le_of_ble_eq_true rfl) dX11_advance_159 (ctX11_in C.inj ) h (fun x4 M3 h => ?_)
      refine s_if_eq C 206 (by decide) dX11_advance_162 h (fun _ h => ?_) (fun _ h => ?_)
      · refine i_aload_n C dX11_advance_206 0 rfl ?_
        refine s_iconst C (2 : Int32) dX11_advance_207 (by decide) ?_
        refine pf11_142 C hq0 dX11_advance_208 ?_
        refine z_gM h (fun M5 h => ?_)
        refine s_goto C 239 (by decide) dX11_advance_211 ?_
        exact s_vret C E dX11_advance_239 h
      · refine i_aload_n C dX11_advance_165 0 rfl ?_
        refine s_ldc C (99999 : Int32) kc_X11_156 dX11_advance_166 ?_
        refine s_bipush C (10 : Int32) dX11_advance_168 (by decide) ?_
        refine i_aload_n C dX11_advance_170 0 rfl ?_
        refine gf11_153 C hq0 dX11_advance_171 ?_
        refine s_imul C dX11_advance_174 ?_
        refine i_aload_n C dX11_advance_175 0 rfl ?_
        refine i_aload_n C dX11_advance_176 0 rfl ?_
        refine gf11_132 C hq0 dX11_advance_177 ?_
        refine s_vcI C [_] vmX11_see lkX11_135 rfl rfl (by decide) hq0 (by decide) rfl rfl (Nat.le_of_ble_eq_true rfl) dX11_advance_180 (ctX11_see C.inj hq0) h (fun x7 M6 h => ?_)
        refine s_iadd C dX11_advance_183 ?_
        refine s_bipush C (48 : Int32) dX11_advance_184 (by decide) ?_
        refine s_isub C dX11_advance_186 ?_
        refine s_mmin C (by decide) mmin_X11_119 mmin_1 math_2 mmin_3 (Nat.le_of_ble_eq_true rfl) dX11_advance_187 ?_
        refine pf11_153 C hq0 dX11_advance_190 ?_
        refine z_gM h (fun M8 h => ?_)
        refine i_aload_n C dX11_advance_193 0 rfl ?_
        refine s_dup C dX11_advance_194 rfl ?_
        refine gf11_132 C hq0 dX11_advance_195 ?_
        refine s_iconst C (1 : Int32) dX11_advance_198 (by decide) ?_
        refine s_iadd C dX11_advance_199 ?_
        refine pf11_132 C hq0 dX11_advance_200 ?_
        refine z_gM h (fun M9 h => ?_)
        refine s_goto C 144 (by decide) dX11_advance_203 ?_
        exact sg_T.to (hk144 _ _ h hq0) [0] rfl
  exact key N
def bX11_advance_83 (N : Nat)  (k83 : Nat → sg_M → Option (sg_M)) (s : Nat) (M : sg_M) : Option (sg_M) :=
  sg_b (fX11_see N s (M.1 s 13) M) (fun (x11 : Int32) (M10 : sg_M) =>
  sg_b (fX11_in N (x11).toInt64 (97 : Int64) (122 : Int64) M10) (fun (x13 : Int32) (M12 : sg_M) =>
  if x13 = 0 then (
  sg_m (sg_uI M12 s 15 (1 : Int32)) (fun M14 : sg_M =>
  some M14)) else (
  sg_m (sg_uI M12 s 13 ((M12.1 s 13) + (1 : Int32))) (fun M15 : sg_M =>
  k83 (s) M15))))
def gX11_advance_83 (N : Nat)  : Nat → sg_M → Option (sg_M) := sg_lp (bX11_advance_83 N ) N
set_option maxHeartbeats 4000000 in
set_option maxRecDepth 100000 in
theorem tX11_advance_83 {ad : Nat → Nat} {X : sg_X} {N : Nat} {r : sg_M} (C : sg_C Yr ad X cX11_advance RX11 2 1) (E : sg_eV Yr ad X cX11_advance r)  : ∀ (s : Nat) (M : sg_M), gX11_advance_83 N s M = some r → sg_K Yr s 11 → sg_T Yr ad X 2 83 [(0, .ref (ad s))] [] M := by
  have key : ∀ n : Nat, ∀ (s : Nat) (M : sg_M), sg_lp (bX11_advance_83 N) n s M = some r → sg_K Yr s 11 → sg_T Yr ad X 2 83 [(0, .ref (ad s))] [] M := by
    intro n
    induction n with
    | zero => intro s M h; cases h
    | succ n ih =>
      intro s M h hq0
      have h : bX11_advance_83 N (sg_lp (bX11_advance_83 N) n) s M = some r := h
      generalize sg_lp (bX11_advance_83 N) n = k83 at h ih
      have hk83 := ih
      unfold bX11_advance_83 at h
      refine i_aload_n C dX11_advance_83 0 rfl ?_
      refine i_aload_n C dX11_advance_84 0 rfl ?_
      refine gf11_132 C hq0 dX11_advance_85 ?_
      refine s_vcI C [_] vmX11_see lkX11_135 rfl rfl (by decide) hq0 (by decide) rfl rfl (Nat.le_of_ble_eq_true rfl) dX11_advance_88 (ctX11_see C.inj hq0) h (fun x11 M10 h => ?_)
      refine s_i2l C dX11_advance_91 ?_
      refine s_ldc2 C (97 : Int64) kl_X11_145 dX11_advance_92 ?_
      refine s_ldc2 C (122 : Int64) kl_X11_147 dX11_advance_95 ?_
      refine s_scI C [_, _, _] smX11_in lkX11_87 (by decide) rfl rfl (Nat.le_of_ble_eq_true rfl) dX11_advance_98 (ctX11_in C.inj ) h (fun x13 M12 h => ?_)
      refine s_if_eq C 117 (by decide) dX11_advance_101 h (fun _ h => ?_) (fun _ h => ?_)
      · refine i_aload_n C dX11_advance_117 0 rfl ?_
        refine s_iconst C (1 : Int32) dX11_advance_118 (by decide) ?_
        refine pf11_142 C hq0 dX11_advance_119 ?_
        refine z_gM h (fun M14 h => ?_)
        refine s_goto C 239 (by decide) dX11_advance_122 ?_
        exact s_vret C E dX11_advance_239 h
      · refine i_aload_n C dX11_advance_104 0 rfl ?_
        refine s_dup C dX11_advance_105 rfl ?_
        refine gf11_132 C hq0 dX11_advance_106 ?_
        refine s_iconst C (1 : Int32) dX11_advance_109 (by decide) ?_
        refine s_iadd C dX11_advance_110 ?_
        refine pf11_132 C hq0 dX11_advance_111 ?_
        refine z_gM h (fun M15 h => ?_)
        refine s_goto C 83 (by decide) dX11_advance_114 ?_
        exact sg_T.to (hk83 _ _ h hq0) [0] rfl
  exact key N
def gX11_advance_26 (N : Nat) (k0 : Nat → sg_M → Option (sg_M)) (a0_ : Nat) (M : sg_M) : Option (sg_M) :=
  sg_m (sg_uI M a0_ 13 ((M.1 a0_ 13) + (1 : Int32))) (fun M16 : sg_M =>
  k0 (a0_) M16)
set_option maxHeartbeats 4000000 in
set_option maxRecDepth 100000 in
theorem tX11_advance_26 {ad : Nat → Nat} {X : sg_X} {N : Nat} {r : sg_M} (C : sg_C Yr ad X cX11_advance RX11 2 1) (E : sg_eV Yr ad X cX11_advance r) {k0 : Nat → sg_M → Option (sg_M)} (hk0 : ∀ (s : Nat) (M : sg_M), k0 s M = some r → sg_K Yr s 11 → sg_T Yr ad X 2 0 [(0, .ref (ad s))] [] M) : ∀ (a0_ : Nat) (M : sg_M), gX11_advance_26 N k0 a0_ M = some r → sg_K Yr a0_ 11 → sg_T Yr ad X 2 26 [(0, .ref (ad a0_))] [] M := by
  intro a0_ M h hq0
  unfold gX11_advance_26 at h
  refine i_aload_n C dX11_advance_26 0 rfl ?_
  refine s_dup C dX11_advance_27 rfl ?_
  refine gf11_132 C hq0 dX11_advance_28 ?_
  refine s_iconst C (1 : Int32) dX11_advance_31 (by decide) ?_
  refine s_iadd C dX11_advance_32 ?_
  refine pf11_132 C hq0 dX11_advance_33 ?_
  refine z_gM h (fun M16 h => ?_)
  refine s_goto C 0 (by decide) dX11_advance_36 ?_
  exact sg_T.to (hk0 _ _ h hq0) [0] rfl
def bX11_advance_0 (N : Nat)  (k0 : Nat → sg_M → Option (sg_M)) (s : Nat) (M : sg_M) : Option (sg_M) :=
  sg_b (fX11_see N s (M.1 s 13) M) (fun (x18 : Int32) (M17 : sg_M) =>
  if x18 = (32 : Int32) then (
  gX11_advance_26 N k0 s M17) else (
  sg_b (fX11_see N s (M17.1 s 13) M17) (fun (x20 : Int32) (M19 : sg_M) =>
  if x20 = (10 : Int32) then (
  gX11_advance_26 N k0 s M19) else (
  sg_m (sg_uI M19 s 14 (M19.1 s 13)) (fun M21 : sg_M =>
  sg_b (fX11_see N s (M21.1 s 13) M21) (fun (x23 : Int32) (M22 : sg_M) =>
  sg_m x23 (fun x24 : Int32 =>
  if x24 = (-1 : Int32) then (
  sg_m (sg_uI M22 s 15 (0 : Int32)) (fun M25 : sg_M =>
  some M25)) else (
  sg_b (fX11_in N (x24).toInt64 (97 : Int64) (122 : Int64) M22) (fun (x27 : Int32) (M26 : sg_M) =>
  if x27 = 0 then (
  sg_b (fX11_in N (x24).toInt64 (48 : Int64) (57 : Int64) M26) (fun (x29 : Int32) (M28 : sg_M) =>
  if x29 = 0 then (
  if x24 = (59 : Int32) then (
  sg_m (sg_uI M28 s 15 (3 : Int32)) (fun M30 : sg_M =>
  sg_m (sg_uI M30 s 13 ((M30.1 s 13) + (1 : Int32))) (fun M31 : sg_M =>
  some M31))) else (
  sg_m (sg_uI M28 s 15 (4 : Int32)) (fun M32 : sg_M =>
  sg_m (sg_uI M32 s 13 ((M32.1 s 13) + (1 : Int32))) (fun M33 : sg_M =>
  some M33)))) else (
  sg_m (sg_uI M28 s 16 (0 : Int32)) (fun M34 : sg_M =>
  gX11_advance_144 N (s) M34)))) else (
  gX11_advance_83 N (s) M26))))))))))
def gX11_advance_0 (N : Nat)  : Nat → sg_M → Option (sg_M) := sg_lp (bX11_advance_0 N ) N
set_option maxHeartbeats 4000000 in
set_option maxRecDepth 100000 in
theorem tX11_advance_0 {ad : Nat → Nat} {X : sg_X} {N : Nat} {r : sg_M} (C : sg_C Yr ad X cX11_advance RX11 2 1) (E : sg_eV Yr ad X cX11_advance r)  : ∀ (s : Nat) (M : sg_M), gX11_advance_0 N s M = some r → sg_K Yr s 11 → sg_T Yr ad X 2 0 [(0, .ref (ad s))] [] M := by
  have key : ∀ n : Nat, ∀ (s : Nat) (M : sg_M), sg_lp (bX11_advance_0 N) n s M = some r → sg_K Yr s 11 → sg_T Yr ad X 2 0 [(0, .ref (ad s))] [] M := by
    intro n
    induction n with
    | zero => intro s M h; cases h
    | succ n ih =>
      intro s M h hq0
      have h : bX11_advance_0 N (sg_lp (bX11_advance_0 N) n) s M = some r := h
      generalize sg_lp (bX11_advance_0 N) n = k0 at h ih
      have hk0 := ih
      unfold bX11_advance_0 at h
      refine i_aload_n C dX11_advance_0 0 rfl ?_
      refine i_aload_n C dX11_advance_1 0 rfl ?_
      refine gf11_132 C hq0 dX11_advance_2 ?_
      refine s_vcI C [_] vmX11_see lkX11_135 rfl rfl (by decide) hq0 (by decide) rfl rfl (Nat.le_of_ble_eq_true rfl) dX11_advance_5 (ctX11_see C.inj hq0) h (fun x18 M17 h => ?_)
      refine s_bipush C (32 : Int32) dX11_advance_8 (by decide) ?_
      refine s_icmp_eq C 26 (by decide) dX11_advance_10 h (fun _ h => ?_) (fun _ h => ?_)
      · exact sg_T.to (tX11_advance_26 C E hk0 _ _ h hq0) [0] rfl
      · refine i_aload_n C dX11_advance_13 0 rfl ?_
        refine i_aload_n C dX11_advance_14 0 rfl ?_
        refine gf11_132 C hq0 dX11_advance_15 ?_
        refine s_vcI C [_] vmX11_see lkX11_135 rfl rfl (by decide) hq0 (by decide) rfl rfl (Nat.le_of_ble_eq_true rfl) dX11_advance_18 (ctX11_see C.inj hq0) h (fun x20 M19 h => ?_)
        refine s_bipush C (10 : Int32) dX11_advance_21 (by decide) ?_
        refine s_icmp_ne C 39 (by decide) dX11_advance_23 h (fun _ h => ?_) (fun _ h => ?_)
        · exact sg_T.to (tX11_advance_26 C E hk0 _ _ h hq0) [0] rfl
        · refine i_aload_n C dX11_advance_39 0 rfl ?_
          refine i_aload_n C dX11_advance_40 0 rfl ?_
          refine gf11_132 C hq0 dX11_advance_41 ?_
          refine pf11_139 C hq0 dX11_advance_44 ?_
          refine z_gM h (fun M21 h => ?_)
          refine i_aload_n C dX11_advance_47 0 rfl ?_
          refine i_aload_n C dX11_advance_48 0 rfl ?_
          refine gf11_132 C hq0 dX11_advance_49 ?_
          refine s_vcI C [_] vmX11_see lkX11_135 rfl rfl (by decide) hq0 (by decide) rfl rfl (Nat.le_of_ble_eq_true rfl) dX11_advance_52 (ctX11_see C.inj hq0) h (fun x23 M22 h => ?_)
          refine z_gi h (fun x24 h => ?_)
          refine i_istore_n (lv9 := [(1, _), (0, _)]) C 1 dX11_advance_55 rfl (by decide) rfl ?_
          refine i_iload_n C dX11_advance_56 0 rfl ?_
          refine s_iconst C (-1 : Int32) dX11_advance_57 (by decide) ?_
          refine s_icmp_ne C 69 (by decide) dX11_advance_58 h (fun _ h => ?_) (fun _ h => ?_)
          · refine i_aload_n C dX11_advance_61 1 rfl ?_
            refine s_iconst C (0 : Int32) dX11_advance_62 (by decide) ?_
            refine pf11_142 C hq0 dX11_advance_63 ?_
            refine z_gM h (fun M25 h => ?_)
            refine s_goto C 239 (by decide) dX11_advance_66 ?_
            exact s_vret C E dX11_advance_239 h
          · refine i_iload_n C dX11_advance_69 0 rfl ?_
            refine s_i2l C dX11_advance_70 ?_
            refine s_ldc2 C (97 : Int64) kl_X11_145 dX11_advance_71 ?_
            refine s_ldc2 C (122 : Int64) kl_X11_147 dX11_advance_74 ?_
            refine s_scI C [_, _, _] smX11_in lkX11_87 (by decide) rfl rfl (Nat.le_of_ble_eq_true rfl) dX11_advance_77 (ctX11_in C.inj ) h (fun x27 M26 h => ?_)
            refine s_if_eq C 125 (by decide) dX11_advance_80 h (fun _ h => ?_) (fun _ h => ?_)
            · refine i_iload_n C dX11_advance_125 0 rfl ?_
              refine s_i2l C dX11_advance_126 ?_
              refine s_ldc2 C (48 : Int64) kl_X11_149 dX11_advance_127 ?_
              refine s_ldc2 C (57 : Int64) kl_X11_151 dX11_advance_130 ?_
              refine s_scI C [_, _, _] smX11_in lkX11_87 (by decide) rfl rfl (Nat.le_of_ble_eq_true rfl) dX11_advance_133 (ctX11_in C.inj ) h (fun x29 M28 h => ?_)
              refine s_if_eq C 214 (by decide) dX11_advance_136 h (fun _ h => ?_) (fun _ h => ?_)
              · refine i_aload_n C dX11_advance_214 1 rfl ?_
                refine i_iload_n C dX11_advance_215 0 rfl ?_
                refine s_bipush C (59 : Int32) dX11_advance_216 (by decide) ?_
                refine s_icmp_ne C 225 (by decide) dX11_advance_218 h (fun _ h => ?_) (fun _ h => ?_)
                · refine s_iconst C (3 : Int32) dX11_advance_221 (by decide) ?_
                  refine s_goto C 226 (by decide) dX11_advance_222 ?_
                  refine pf11_142 C hq0 dX11_advance_226 ?_
                  refine z_gM h (fun M30 h => ?_)
                  refine i_aload_n C dX11_advance_229 1 rfl ?_
                  refine s_dup C dX11_advance_230 rfl ?_
                  refine gf11_132 C hq0 dX11_advance_231 ?_
                  refine s_iconst C (1 : Int32) dX11_advance_234 (by decide) ?_
                  refine s_iadd C dX11_advance_235 ?_
                  refine pf11_132 C hq0 dX11_advance_236 ?_
                  refine z_gM h (fun M31 h => ?_)
                  exact s_vret C E dX11_advance_239 h
                · refine s_iconst C (4 : Int32) dX11_advance_225 (by decide) ?_
                  refine pf11_142 C hq0 dX11_advance_226 ?_
                  refine z_gM h (fun M32 h => ?_)
                  refine i_aload_n C dX11_advance_229 1 rfl ?_
                  refine s_dup C dX11_advance_230 rfl ?_
                  refine gf11_132 C hq0 dX11_advance_231 ?_
                  refine s_iconst C (1 : Int32) dX11_advance_234 (by decide) ?_
                  refine s_iadd C dX11_advance_235 ?_
                  refine pf11_132 C hq0 dX11_advance_236 ?_
                  refine z_gM h (fun M33 h => ?_)
                  exact s_vret C E dX11_advance_239 h
              · refine i_aload_n C dX11_advance_139 1 rfl ?_
                refine s_iconst C (0 : Int32) dX11_advance_140 (by decide) ?_
                refine pf11_153 C hq0 dX11_advance_141 ?_
                refine z_gM h (fun M34 h => ?_)
                exact sg_T.to (tX11_advance_144 C E _ _ h hq0) [1] rfl
            · exact sg_T.to (tX11_advance_83 C E _ _ h hq0) [1] rfl
  exact key N
def fX11_advance (N : Nat) (a0_ : Nat) (M : sg_M) : Option (sg_M) :=
  gX11_advance_0 N (a0_) M
set_option maxHeartbeats 4000000 in
set_option maxRecDepth 100000 in
theorem tX11_advance {ad : Nat → Nat} {X : sg_X} {N : Nat} {r : sg_M} (C : sg_C Yr ad X cX11_advance RX11 2 1) (E : sg_eV Yr ad X cX11_advance r) : ∀ (a0_ : Nat) (M : sg_M), sg_K Yr a0_ 11 → fX11_advance N a0_ M = some r → sg_T Yr ad X 2 0 [(0, .ref (ad a0_))] [] M := by
  intro a0_ M hq0 h
  unfold fX11_advance at h
  exact sg_T.to (tX11_advance_0 C E _ _ h hq0) [0] rfl
theorem ctX11_advance {ad : Nat → Nat} {V : sg_V} {N : Nat} (hi : sg_inj Yr ad) {a0_ : Nat} {M : sg_M} (hq0 : sg_K Yr a0_ 11) : ∀ res, fX11_advance N a0_ M = some res → sg_cV Yr ad V yX11_advance cX11_advance 2 1 [.ref (ad a0_)] M res := fun res h => sg_bodyV (by decide) hi (Nat.le_of_ble_eq_true rfl) (fun X hX C E => by subst hX; exact tX11_advance C E _  _ hq0 h)
def fX11_good (N : Nat) (a0_ : Nat) (M : sg_M) : Option (Int32 × sg_M) :=
  if (M.1 a0_ 17) = 0 then (
  some ((1 : Int32), M)) else (
  some ((0 : Int32), M))
set_option maxHeartbeats 4000000 in
set_option maxRecDepth 100000 in
theorem tX11_good {ad : Nat → Nat} {X : sg_X} {N : Nat} {r : Int32 × sg_M} (C : sg_C Yr ad X cX11_good RX11 1 0) (E : sg_eI Yr ad X cX11_good .boolean r) : ∀ (a0_ : Nat) (M : sg_M), sg_K Yr a0_ 11 → fX11_good N a0_ M = some r → sg_T Yr ad X 1 0 [(0, .ref (ad a0_))] [] M := by
  intro a0_ M hq0 h
  unfold fX11_good at h
  refine i_aload_n C dX11_good_0 0 rfl ?_
  refine gf11_157 C hq0 dX11_good_1 ?_
  refine s_if_ne C 11 (by decide) dX11_good_4 h (fun _ h => ?_) (fun _ h => ?_)
  · refine s_iconst C (1 : Int32) dX11_good_7 (by decide) ?_
    refine s_goto C 12 (by decide) dX11_good_8 ?_
    exact s_zret1 C E (by decide) dX11_good_12 h
  · refine s_iconst C (0 : Int32) dX11_good_11 (by decide) ?_
    exact s_zret1 C E (by decide) dX11_good_12 h
theorem ctX11_good {ad : Nat → Nat} {V : sg_V} {N : Nat} (hi : sg_inj Yr ad) {a0_ : Nat} {M : sg_M} (hq0 : sg_K Yr a0_ 11) : ∀ res, fX11_good N a0_ M = some res → sg_cI Yr ad V yX11_good cX11_good 1 .boolean 0 [.ref (ad a0_)] M res := fun res h => sg_bodyI (by decide) hi (Nat.le_of_ble_eq_true rfl) (fun X hX C E => by subst hX; exact tX11_good C E _  _ hq0 h)
def fX11_errs (N : Nat) (a0_ : Nat) (x1_ : Int32) (M : sg_M) : Option (sg_M) :=
  sg_b (fX11_good N a0_ M) (fun (x2 : Int32) (M1 : sg_M) =>
  if x2 = 0 then (
  some M1) else (
  sg_m (sg_uI M1 a0_ 17 x1_) (fun M3 : sg_M =>
  sg_m (sg_uI M3 a0_ 18 (M3.1 a0_ 14)) (fun M4 : sg_M =>
  some M4))))
set_option maxHeartbeats 4000000 in
set_option maxRecDepth 100000 in
theorem tX11_errs {ad : Nat → Nat} {X : sg_X} {N : Nat} {r : sg_M} (C : sg_C Yr ad X cX11_errs RX11 2 1) (E : sg_eV Yr ad X cX11_errs r) : ∀ (a0_ : Nat) (x1_ : Int32) (M : sg_M), sg_K Yr a0_ 11 → fX11_errs N a0_ x1_ M = some r → sg_T Yr ad X 2 0 [(0, .ref (ad a0_)), (1, .int x1_)] [] M := by
  intro a0_ x1_ M hq0 h
  unfold fX11_errs at h
  refine i_aload_n C dX11_errs_0 0 rfl ?_
  refine s_vcI C [] vmX11_good lkX11_160 rfl rfl (by decide) hq0 (by decide) rfl rfl (Nat.le_of_ble_eq_true rfl) dX11_errs_1 (ctX11_good C.inj hq0) h (fun x2 M1 h => ?_)
  refine s_if_ne C 8 (by decide) dX11_errs_4 h (fun _ h => ?_) (fun _ h => ?_)
  · exact s_vret C E dX11_errs_7 h
  · refine i_aload_n C dX11_errs_8 0 rfl ?_
    refine i_iload_n C dX11_errs_9 1 rfl ?_
    refine pf11_157 C hq0 dX11_errs_10 ?_
    refine z_gM h (fun M3 h => ?_)
    refine i_aload_n C dX11_errs_13 0 rfl ?_
    refine i_aload_n C dX11_errs_14 0 rfl ?_
    refine gf11_139 C hq0 dX11_errs_15 ?_
    refine pf11_36 C hq0 dX11_errs_18 ?_
    refine z_gM h (fun M4 h => ?_)
    exact s_vret C E dX11_errs_21 h
theorem ctX11_errs {ad : Nat → Nat} {V : sg_V} {N : Nat} (hi : sg_inj Yr ad) {a0_ : Nat} {x1_ : Int32} {M : sg_M} (hq0 : sg_K Yr a0_ 11) : ∀ res, fX11_errs N a0_ x1_ M = some res → sg_cV Yr ad V yX11_errs cX11_errs 2 1 [.ref (ad a0_), .int x1_] M res := fun res h => sg_bodyV (by decide) hi (Nat.le_of_ble_eq_true rfl) (fun X hX C E => by subst hX; exact tX11_errs C E _ _  _ hq0 h)
def bX11_is_39 (N : Nat)  (k39 : (Nat × Nat × Int32 × Int32) → sg_M → Option (Int32 × sg_M)) (s : Nat × Nat × Int32 × Int32) (M : sg_M) : Option (Int32 × sg_M) :=
  if (Int32.ofNat (sg_len.getD s.2.1 0)) ≤ s.2.2.2 then (
  if sg_bz s.2.2.1 = true then some (s.2.2.1, M) else none) else (
  if s.2.2.1 = 0 then (
  if sg_bz s.2.2.1 = true then some (s.2.2.1, M) else none) else (
  if sg_ib ((M.1 s.1 14) + s.2.2.2) (Yr.2.2.1 (Yr.2.2.2 s.1 9)) = true then
  if sg_ib s.2.2.2 (sg_len.getD s.2.1 0) = true then
  if (M.1 (Yr.2.2.2 s.1 9) (((M.1 s.1 14) + s.2.2.2)).toNatClampNeg) = ((sg_byt.getD s.2.1 []).getD (s.2.2.2).toNatClampNeg 0) then (
  sg_m (1 : Int32) (fun x3 : Int32 =>
  sg_m (s.2.2.2 + (1 : Int32)) (fun x4 : Int32 =>
  k39 (s.1, s.2.1, x3, x4) M))) else (
  sg_m (0 : Int32) (fun x5 : Int32 =>
  sg_m (s.2.2.2 + (1 : Int32)) (fun x6 : Int32 =>
  k39 (s.1, s.2.1, x5, x6) M)))
  else none
  else none))
def gX11_is_39 (N : Nat)  : (Nat × Nat × Int32 × Int32) → sg_M → Option (Int32 × sg_M) := sg_lp (bX11_is_39 N ) N
set_option maxHeartbeats 4000000 in
set_option maxRecDepth 100000 in
theorem tX11_is_39 {ad : Nat → Nat} {X : sg_X} {N : Nat} {r : Int32 × sg_M} (C : sg_C Yr ad X cX11_is RX11 4 4) (E : sg_eI Yr ad X cX11_is .boolean r)  : ∀ (s : Nat × Nat × Int32 × Int32) (M : sg_M), gX11_is_39 N s M = some r → sg_K Yr s.1 11 → s.2.1 < 16 → sg_T Yr ad X 4 39 [(0, .ref (ad (s.1))), (1, .ref (sg_z X.1 (s.2.1))), (2, .int (s.2.2.1)), (3, .int (s.2.2.2))] [] M := by
  have key : ∀ n : Nat, ∀ (s : Nat × Nat × Int32 × Int32) (M : sg_M), sg_lp (bX11_is_39 N) n s M = some r → sg_K Yr s.1 11 → s.2.1 < 16 → sg_T Yr ad X 4 39 [(0, .ref (ad (s.1))), (1, .ref (sg_z X.1 (s.2.1))), (2, .int (s.2.2.1)), (3, .int (s.2.2.2))] [] M := by
    intro n
    induction n with
    | zero => intro s M h; cases h
    | succ n ih =>
      intro s M h hq0 hq1
      have h : bX11_is_39 N (sg_lp (bX11_is_39 N) n) s M = some r := h
      generalize sg_lp (bX11_is_39 N) n = k39 at h ih
      have hk39 := ih
      unfold bX11_is_39 at h
      refine i_iload_n C dX11_is_39 3 rfl ?_
      refine i_aload_n C dX11_is_40 1 rfl ?_
      refine s_strlen C hq1 lkX11_163 (by decide) (Nat.le_of_ble_eq_true rfl) dX11_is_41 ?_
      refine s_icmp_ge C 82 (by decide) dX11_is_44 h (fun _ h => ?_) (fun _ h => ?_)
      · refine i_iload_n C dX11_is_82 2 rfl ?_
        exact s_zret C E dX11_is_83 h
      · refine i_iload_n C dX11_is_47 2 rfl ?_
        refine s_if_eq C 82 (by decide) dX11_is_48 h (fun _ h => ?_) (fun _ h => ?_)
        · refine i_iload_n C dX11_is_82 2 rfl ?_
          exact s_zret C E dX11_is_83 h
        · refine i_aload_n C dX11_is_51 0 rfl ?_
          refine gf11_29 C hq0 dX11_is_52 ?_
          refine i_aload_n C dX11_is_55 0 rfl ?_
          refine gf11_139 C hq0 dX11_is_56 ?_
          refine i_iload_n C dX11_is_59 3 rfl ?_
          refine s_iadd C dX11_is_60 ?_
          refine s_bald C (ky11_9 hq0) dX11_is_61 h (fun h => ?_)
          refine i_aload_n C dX11_is_62 1 rfl ?_
          refine i_iload_n C dX11_is_63 3 rfl ?_
          refine s_strat C hq1 lkX11_168 (by decide) (Nat.le_of_ble_eq_true rfl) dX11_is_64 h (fun h => ?_)
          refine s_icmp_ne C 74 (by decide) dX11_is_67 h (fun _ h => ?_) (fun _ h => ?_)
          · refine s_iconst C (1 : Int32) dX11_is_70 (by decide) ?_
            refine s_goto C 75 (by decide) dX11_is_71 ?_
            refine z_gi h (fun x3 h => ?_)
            refine i_istore_n (lv9 := [(2, _), (0, _), (1, _), (3, _)]) C 2 dX11_is_75 rfl (by decide) rfl ?_
            refine z_iinc (n := 1) (c9 := (1 : Int32)) (by decide) h (fun x4 hx h => ?_)
            refine i_iinc (lv9 := [(3, _), (2, _), (0, _), (1, _)]) C dX11_is_76 3 rfl hx (by decide) rfl ?_
            refine s_goto C 39 (by decide) dX11_is_79 ?_
            exact sg_T.to (hk39 _ _ h hq0 hq1) [2, 3, 1, 0] rfl
          · refine s_iconst C (0 : Int32) dX11_is_74 (by decide) ?_
            refine z_gi h (fun x5 h => ?_)
            refine i_istore_n (lv9 := [(2, _), (0, _), (1, _), (3, _)]) C 2 dX11_is_75 rfl (by decide) rfl ?_
            refine z_iinc (n := 1) (c9 := (1 : Int32)) (by decide) h (fun x6 hx h => ?_)
            refine i_iinc (lv9 := [(3, _), (2, _), (0, _), (1, _)]) C dX11_is_76 3 rfl hx (by decide) rfl ?_
            refine s_goto C 39 (by decide) dX11_is_79 ?_
            exact sg_T.to (hk39 _ _ h hq0 hq1) [2, 3, 1, 0] rfl
  exact key N
def fX11_is (N : Nat) (a0_ : Nat) (a1_ : Nat) (M : sg_M) : Option (Int32 × sg_M) :=
  sg_b (fX11_good N a0_ M) (fun (x8 : Int32) (M7 : sg_M) =>
  if x8 = 0 then (
  sg_m (0 : Int32) (fun x9 : Int32 =>
  sg_m (0 : Int32) (fun x10 : Int32 =>
  gX11_is_39 N (a0_, a1_, x9, x10) M7))) else (
  if (M7.1 a0_ 15) = (1 : Int32) then (
  if ((M7.1 a0_ 13) - (M7.1 a0_ 14)) = (Int32.ofNat (sg_len.getD a1_ 0)) then (
  sg_m (1 : Int32) (fun x12 : Int32 =>
  sg_m (0 : Int32) (fun x13 : Int32 =>
  gX11_is_39 N (a0_, a1_, x12, x13) M7))) else (
  sg_m (0 : Int32) (fun x14 : Int32 =>
  sg_m (0 : Int32) (fun x15 : Int32 =>
  gX11_is_39 N (a0_, a1_, x14, x15) M7)))) else (
  sg_m (0 : Int32) (fun x16 : Int32 =>
  sg_m (0 : Int32) (fun x17 : Int32 =>
  gX11_is_39 N (a0_, a1_, x16, x17) M7)))))
set_option maxHeartbeats 4000000 in
set_option maxRecDepth 100000 in
theorem tX11_is {ad : Nat → Nat} {X : sg_X} {N : Nat} {r : Int32 × sg_M} (C : sg_C Yr ad X cX11_is RX11 4 4) (E : sg_eI Yr ad X cX11_is .boolean r) : ∀ (a0_ : Nat) (a1_ : Nat) (M : sg_M), sg_K Yr a0_ 11 → a1_ < 16 → fX11_is N a0_ a1_ M = some r → sg_T Yr ad X 4 0 [(0, .ref (ad a0_)), (1, .ref (sg_z X.1 a1_))] [] M := by
  intro a0_ a1_ M hq0 hq1 h
  unfold fX11_is at h
  refine i_aload_n C dX11_is_0 0 rfl ?_
  refine s_vcI C [] vmX11_good lkX11_160 rfl rfl (by decide) hq0 (by decide) rfl rfl (Nat.le_of_ble_eq_true rfl) dX11_is_1 (ctX11_good C.inj hq0) h (fun x8 M7 h => ?_)
  refine s_if_eq C 35 (by decide) dX11_is_4 h (fun _ h => ?_) (fun _ h => ?_)
  · refine s_iconst C (0 : Int32) dX11_is_35 (by decide) ?_
    refine z_gi h (fun x9 h => ?_)
    refine i_istore_n (lv9 := [(2, _), (0, _), (1, _)]) C 2 dX11_is_36 rfl (by decide) rfl ?_
    refine s_iconst C (0 : Int32) dX11_is_37 (by decide) ?_
    refine z_gi h (fun x10 h => ?_)
    refine i_istore_n (lv9 := [(3, _), (2, _), (0, _), (1, _)]) C 3 dX11_is_38 rfl (by decide) rfl ?_
    exact sg_T.to (tX11_is_39 C E _ _ h hq0 hq1) [2, 3, 1, 0] rfl
  · refine i_aload_n C dX11_is_7 0 rfl ?_
    refine gf11_142 C hq0 dX11_is_8 ?_
    refine s_iconst C (1 : Int32) dX11_is_11 (by decide) ?_
    refine s_icmp_ne C 35 (by decide) dX11_is_12 h (fun _ h => ?_) (fun _ h => ?_)
    · refine i_aload_n C dX11_is_15 0 rfl ?_
      refine gf11_132 C hq0 dX11_is_16 ?_
      refine i_aload_n C dX11_is_19 0 rfl ?_
      refine gf11_139 C hq0 dX11_is_20 ?_
      refine s_isub C dX11_is_23 ?_
      refine i_aload_n C dX11_is_24 1 rfl ?_
      refine s_strlen C hq1 lkX11_163 (by decide) (Nat.le_of_ble_eq_true rfl) dX11_is_25 ?_
      refine s_icmp_ne C 35 (by decide) dX11_is_28 h (fun _ h => ?_) (fun _ h => ?_)
      · refine s_iconst C (1 : Int32) dX11_is_31 (by decide) ?_
        refine s_goto C 36 (by decide) dX11_is_32 ?_
        refine z_gi h (fun x12 h => ?_)
        refine i_istore_n (lv9 := [(2, _), (0, _), (1, _)]) C 2 dX11_is_36 rfl (by decide) rfl ?_
        refine s_iconst C (0 : Int32) dX11_is_37 (by decide) ?_
        refine z_gi h (fun x13 h => ?_)
        refine i_istore_n (lv9 := [(3, _), (2, _), (0, _), (1, _)]) C 3 dX11_is_38 rfl (by decide) rfl ?_
        exact sg_T.to (tX11_is_39 C E _ _ h hq0 hq1) [2, 3, 1, 0] rfl
      · refine s_iconst C (0 : Int32) dX11_is_35 (by decide) ?_
        refine z_gi h (fun x14 h => ?_)
        refine i_istore_n (lv9 := [(2, _), (0, _), (1, _)]) C 2 dX11_is_36 rfl (by decide) rfl ?_
        refine s_iconst C (0 : Int32) dX11_is_37 (by decide) ?_
        refine z_gi h (fun x15 h => ?_)
        refine i_istore_n (lv9 := [(3, _), (2, _), (0, _), (1, _)]) C 3 dX11_is_38 rfl (by decide) rfl ?_
        exact sg_T.to (tX11_is_39 C E _ _ h hq0 hq1) [2, 3, 1, 0] rfl
    · refine s_iconst C (0 : Int32) dX11_is_35 (by decide) ?_
      refine z_gi h (fun x16 h => ?_)
      refine i_istore_n (lv9 := [(2, _), (0, _), (1, _)]) C 2 dX11_is_36 rfl (by decide) rfl ?_
      refine s_iconst C (0 : Int32) dX11_is_37 (by decide) ?_
      refine z_gi h (fun x17 h => ?_)
      refine i_istore_n (lv9 := [(3, _), (2, _), (0, _), (1, _)]) C 3 dX11_is_38 rfl (by decide) rfl ?_
      exact sg_T.to (tX11_is_39 C E _ _ h hq0 hq1) [2, 3, 1, 0] rfl
theorem ctX11_is {ad : Nat → Nat} {V : sg_V} {N : Nat} (hi : sg_inj Yr ad) {a0_ : Nat} {a1_ : Nat} {M : sg_M} (hq0 : sg_K Yr a0_ 11) (hq1 : a1_ < 16) : ∀ res, fX11_is N a0_ a1_ M = some res → sg_cI Yr ad V yX11_is cX11_is 4 .boolean 4 [.ref (ad a0_), .ref (sg_z V a1_)] M res := fun res h => sg_bodyI (by decide) hi (Nat.le_of_ble_eq_true rfl) (fun X hX C E => by subst hX; exact tX11_is C E _ _  _ hq0 hq1 h)
def fX11_expects (N : Nat) (a0_ : Nat) (a1_ : Nat) (M : sg_M) : Option (sg_M) :=
  sg_b (fX11_is N a0_ a1_ M) (fun (x2 : Int32) (M1 : sg_M) =>
  if x2 = 0 then (
  sg_bv (fX11_errs N a0_ (1 : Int32) M1) (fun M3 : sg_M =>
  some M3)) else (
  sg_bv (fX11_advance N a0_ M1) (fun M4 : sg_M =>
  some M4)))
set_option maxHeartbeats 4000000 in
set_option maxRecDepth 100000 in
theorem tX11_expects {ad : Nat → Nat} {X : sg_X} {N : Nat} {r : sg_M} (C : sg_C Yr ad X cX11_expects RX11 2 5) (E : sg_eV Yr ad X cX11_expects r) : ∀ (a0_ : Nat) (a1_ : Nat) (M : sg_M), sg_K Yr a0_ 11 → a1_ < 16 → fX11_expects N a0_ a1_ M = some r → sg_T Yr ad X 2 0 [(0, .ref (ad a0_)), (1, .ref (sg_z X.1 a1_))] [] M := by
  intro a0_ a1_ M hq0 hq1 h
  unfold fX11_expects at h
  refine i_aload_n C dX11_expects_0 0 rfl ?_
  refine i_aload_n C dX11_expects_1 1 rfl ?_
  refine s_vcI C [_] vmX11_is lkX11_172 rfl rfl (by decide) hq0 (by decide) rfl rfl (Nat.le_of_ble_eq_true rfl) dX11_expects_2 (ctX11_is C.inj hq0 hq1) h (fun x2 M1 h => ?_)
  refine s_if_eq C 15 (by decide) dX11_expects_5 h (fun _ h => ?_) (fun _ h => ?_)
  · refine i_aload_n C dX11_expects_15 0 rfl ?_
    refine s_iconst C (1 : Int32) dX11_expects_16 (by decide) ?_
    refine s_vcV C [_] vmX11_errs lkX11_179 rfl rfl (by decide) hq0 (by decide) rfl rfl (Nat.le_of_ble_eq_true rfl) dX11_expects_17 (ctX11_errs C.inj hq0) h (fun M3 h => ?_)
    exact s_vret C E dX11_expects_20 h
  · refine i_aload_n C dX11_expects_8 0 rfl ?_
    refine s_vcV C [] vmX11_advance lkX11_176 rfl rfl (by decide) hq0 (by decide) rfl rfl (Nat.le_of_ble_eq_true rfl) dX11_expects_9 (ctX11_advance C.inj hq0) h (fun M4 h => ?_)
    refine s_goto C 20 (by decide) dX11_expects_12 ?_
    exact s_vret C E dX11_expects_20 h
theorem ctX11_expects {ad : Nat → Nat} {V : sg_V} {N : Nat} (hi : sg_inj Yr ad) {a0_ : Nat} {a1_ : Nat} {M : sg_M} (hq0 : sg_K Yr a0_ 11) (hq1 : a1_ < 16) : ∀ res, fX11_expects N a0_ a1_ M = some res → sg_cV Yr ad V yX11_expects cX11_expects 2 5 [.ref (ad a0_), .ref (sg_z V a1_)] M res := fun res h => sg_bodyV (by decide) hi (Nat.le_of_ble_eq_true rfl) (fun X hX C E => by subst hX; exact tX11_expects C E _ _  _ hq0 hq1 h)
def gX11_takes_47 (N : Nat)  (a0_ : Nat) (M : sg_M) : Option (Int32 × sg_M) :=
  sg_b (fX11_good N a0_ M) (fun (x2 : Int32) (M1 : sg_M) =>
  if x2 = 0 then (
  some ((0 : Int32), M1)) else (
  sg_m (M1.1 a0_ 16) (fun x3 : Int32 =>
  sg_bv (fX11_advance N a0_ M1) (fun M4 : sg_M =>
  some (x3, M4)))))
set_option maxHeartbeats 4000000 in
set_option maxRecDepth 100000 in
theorem tX11_takes_47 {ad : Nat → Nat} {X : sg_X} {N : Nat} {r : Int32 × sg_M} (C : sg_C Yr ad X cX11_takes RX11 4 2) (E : sg_eI Yr ad X cX11_takes .int r)  : ∀ (a0_ : Nat) (M : sg_M), gX11_takes_47 N a0_ M = some r → sg_K Yr a0_ 11 → sg_T Yr ad X 4 47 [(0, .ref (ad a0_))] [] M := by
  intro a0_ M h hq0
  unfold gX11_takes_47 at h
  refine i_aload_n C dX11_takes_47 0 rfl ?_
  refine s_vcI C [] vmX11_good lkX11_160 rfl rfl (by decide) hq0 (by decide) rfl rfl (Nat.le_of_ble_eq_true rfl) dX11_takes_48 (ctX11_good C.inj hq0) h (fun x2 M1 h => ?_)
  refine s_if_ne C 56 (by decide) dX11_takes_51 h (fun _ h => ?_) (fun _ h => ?_)
  · refine s_iconst C (0 : Int32) dX11_takes_54 (by decide) ?_
    exact s_iret C E dX11_takes_55 h
  · refine i_aload_n C dX11_takes_56 0 rfl ?_
    refine gf11_153 C hq0 dX11_takes_57 ?_
    refine z_gi h (fun x3 h => ?_)
    refine i_istore_n (lv9 := [(3, _), (0, _)]) C 3 dX11_takes_60 rfl (by decide) rfl ?_
    refine i_aload_n C dX11_takes_61 1 rfl ?_
    refine s_vcV C [] vmX11_advance lkX11_176 rfl rfl (by decide) hq0 (by decide) rfl rfl (Nat.le_of_ble_eq_true rfl) dX11_takes_62 (ctX11_advance C.inj hq0) h (fun M4 h => ?_)
    refine i_iload_n C dX11_takes_65 0 rfl ?_
    exact s_iret C E dX11_takes_66 h
def gX11_takes_20 (N : Nat)  (a0_ : Nat) (x1_ : Int32) (x2_ : Int32) (M : sg_M) : Option (Int32 × sg_M) :=
  sg_b (fX11_good N a0_ M) (fun (x6 : Int32) (M5 : sg_M) =>
  if x6 = 0 then (
  gX11_takes_47 N a0_ M5) else (
  sg_b (fX11_in N ((M5.1 a0_ 16)).toInt64 (x1_).toInt64 (x2_).toInt64 M5) (fun (x8 : Int32) (M7 : sg_M) =>
  if x8 = 0 then (
  sg_bv (fX11_errs N a0_ (2 : Int32) M7) (fun M9 : sg_M =>
  gX11_takes_47 N a0_ M9)) else (
  gX11_takes_47 N a0_ M7))))
set_option maxHeartbeats 4000000 in
set_option maxRecDepth 100000 in
theorem tX11_takes_20 {ad : Nat → Nat} {X : sg_X} {N : Nat} {r : Int32 × sg_M} (C : sg_C Yr ad X cX11_takes RX11 4 2) (E : sg_eI Yr ad X cX11_takes .int r)  : ∀ (a0_ : Nat) (x1_ : Int32) (x2_ : Int32) (M : sg_M), gX11_takes_20 N a0_ x1_ x2_ M = some r → sg_K Yr a0_ 11 → sg_T Yr ad X 4 20 [(0, .ref (ad a0_)), (1, .int x1_), (2, .int x2_)] [] M := by
  intro a0_ x1_ x2_ M h hq0
  unfold gX11_takes_20 at h
  refine i_aload_n C dX11_takes_20 0 rfl ?_
  refine s_vcI C [] vmX11_good lkX11_160 rfl rfl (by decide) hq0 (by decide) rfl rfl (Nat.le_of_ble_eq_true rfl) dX11_takes_21 (ctX11_good C.inj hq0) h (fun x6 M5 h => ?_)
  refine s_if_eq C 47 (by decide) dX11_takes_24 h (fun _ h => ?_) (fun _ h => ?_)
  · exact sg_T.to (tX11_takes_47 C E _ _ h hq0) [0] rfl
  · refine i_aload_n C dX11_takes_27 0 rfl ?_
    refine gf11_153 C hq0 dX11_takes_28 ?_
    refine s_i2l C dX11_takes_31 ?_
    refine i_iload_n C dX11_takes_32 1 rfl ?_
    refine s_i2l C dX11_takes_33 ?_
    refine i_iload_n C dX11_takes_34 2 rfl ?_
    refine s_i2l C dX11_takes_35 ?_
    refine s_scI C [_, _, _] smX11_in lkX11_87 (by decide) rfl rfl (Nat.le_of_ble_eq_true rfl) dX11_takes_36 (ctX11_in C.inj ) h (fun x8 M7 h => ?_)
    refine s_if_ne C 47 (by decide) dX11_takes_39 h (fun _ h => ?_) (fun _ h => ?_)
    · refine i_aload_n C dX11_takes_42 0 rfl ?_
      refine s_iconst C (2 : Int32) dX11_takes_43 (by decide) ?_
      refine s_vcV C [_] vmX11_errs lkX11_179 rfl rfl (by decide) hq0 (by decide) rfl rfl (Nat.le_of_ble_eq_true rfl) dX11_takes_44 (ctX11_errs C.inj hq0) h (fun M9 h => ?_)
      exact sg_T.to (tX11_takes_47 C E _ _ h hq0) [0] rfl
    · exact sg_T.to (tX11_takes_47 C E _ _ h hq0) [0] rfl
def fX11_takes (N : Nat) (a0_ : Nat) (x1_ : Int32) (x2_ : Int32) (M : sg_M) : Option (Int32 × sg_M) :=
  sg_b (fX11_good N a0_ M) (fun (x11 : Int32) (M10 : sg_M) =>
  if x11 = 0 then (
  gX11_takes_20 N a0_ x1_ x2_ M10) else (
  if (M10.1 a0_ 15) = (2 : Int32) then (
  gX11_takes_20 N a0_ x1_ x2_ M10) else (
  sg_bv (fX11_errs N a0_ (1 : Int32) M10) (fun M12 : sg_M =>
  gX11_takes_20 N a0_ x1_ x2_ M12))))
set_option maxHeartbeats 4000000 in
set_option maxRecDepth 100000 in
theorem tX11_takes {ad : Nat → Nat} {X : sg_X} {N : Nat} {r : Int32 × sg_M} (C : sg_C Yr ad X cX11_takes RX11 4 2) (E : sg_eI Yr ad X cX11_takes .int r) : ∀ (a0_ : Nat) (x1_ : Int32) (x2_ : Int32) (M : sg_M), sg_K Yr a0_ 11 → fX11_takes N a0_ x1_ x2_ M = some r → sg_T Yr ad X 4 0 [(0, .ref (ad a0_)), (1, .int x1_), (2, .int x2_)] [] M := by
  intro a0_ x1_ x2_ M hq0 h
  unfold fX11_takes at h
  refine i_aload_n C dX11_takes_0 0 rfl ?_
  refine s_vcI C [] vmX11_good lkX11_160 rfl rfl (by decide) hq0 (by decide) rfl rfl (Nat.le_of_ble_eq_true rfl) dX11_takes_1 (ctX11_good C.inj hq0) h (fun x11 M10 h => ?_)
  refine s_if_eq C 20 (by decide) dX11_takes_4 h (fun _ h => ?_) (fun _ h => ?_)
  · exact sg_T.to (tX11_takes_20 C E _ _ _ _ h hq0) [0, 1, 2] rfl
  · refine i_aload_n C dX11_takes_7 0 rfl ?_
    refine gf11_142 C hq0 dX11_takes_8 ?_
    refine s_iconst C (2 : Int32) dX11_takes_11 (by decide) ?_
    refine s_icmp_eq C 20 (by decide) dX11_takes_12 h (fun _ h => ?_) (fun _ h => ?_)
    · exact sg_T.to (tX11_takes_20 C E _ _ _ _ h hq0) [0, 1, 2] rfl
    · refine i_aload_n C dX11_takes_15 0 rfl ?_
      refine s_iconst C (1 : Int32) dX11_takes_16 (by decide) ?_
      refine s_vcV C [_] vmX11_errs lkX11_179 rfl rfl (by decide) hq0 (by decide) rfl rfl (Nat.le_of_ble_eq_true rfl) dX11_takes_17 (ctX11_errs C.inj hq0) h (fun M12 h => ?_)
      exact sg_T.to (tX11_takes_20 C E _ _ _ _ h hq0) [0, 1, 2] rfl
theorem ctX11_takes {ad : Nat → Nat} {V : sg_V} {N : Nat} (hi : sg_inj Yr ad) {a0_ : Nat} {x1_ : Int32} {x2_ : Int32} {M : sg_M} (hq0 : sg_K Yr a0_ 11) : ∀ res, fX11_takes N a0_ x1_ x2_ M = some res → sg_cI Yr ad V yX11_takes cX11_takes 4 .int 2 [.ref (ad a0_), .int x1_, .int x2_] M res := fun res h => sg_bodyI (by decide) hi (Nat.le_of_ble_eq_true rfl) (fun X hX C E => by subst hX; exact tX11_takes C E _ _ _  _ hq0 h)
def fX11_told (N : Nat) (a0_ : Nat) (a1_ : Nat) (x2_ : Int32) (x3_ : Int32) (M : sg_M) : Option (Int32 × sg_M) :=
  sg_bv (fX11_expects N a0_ a1_ M) (fun M1 : sg_M =>
  sg_b (fX11_takes N a0_ x2_ x3_ M1) (fun (x3 : Int32) (M2 : sg_M) =>
  some (x3, M2)))
set_option maxHeartbeats 4000000 in
set_option maxRecDepth 100000 in
theorem tX11_told {ad : Nat → Nat} {X : sg_X} {N : Nat} {r : Int32 × sg_M} (C : sg_C Yr ad X cX11_told RX11 4 6) (E : sg_eI Yr ad X cX11_told .int r) : ∀ (a0_ : Nat) (a1_ : Nat) (x2_ : Int32) (x3_ : Int32) (M : sg_M), sg_K Yr a0_ 11 → a1_ < 16 → fX11_told N a0_ a1_ x2_ x3_ M = some r → sg_T Yr ad X 4 0 [(0, .ref (ad a0_)), (1, .ref (sg_z X.1 a1_)), (2, .int x2_), (3, .int x3_)] [] M := by
  intro a0_ a1_ x2_ x3_ M hq0 hq1 h
  unfold fX11_told at h
  refine i_aload_n C dX11_told_0 0 rfl ?_
  refine i_aload_n C dX11_told_1 1 rfl ?_
  refine s_vcV C [_] vmX11_expects lkX11_183 rfl rfl (by decide) hq0 (by decide) rfl rfl (Nat.le_of_ble_eq_true rfl) dX11_told_2 (ctX11_expects C.inj hq0 hq1) h (fun M1 h => ?_)
  refine i_aload_n C dX11_told_5 0 rfl ?_
  refine i_iload_n C dX11_told_6 2 rfl ?_
  refine i_iload_n C dX11_told_7 3 rfl ?_
  refine s_vcI C [_, _] vmX11_takes lkX11_187 rfl rfl (by decide) hq0 (by decide) rfl rfl (Nat.le_of_ble_eq_true rfl) dX11_told_8 (ctX11_takes C.inj hq0) h (fun x3 M2 h => ?_)
  exact s_iret C E dX11_told_11 h
theorem ctX11_told {ad : Nat → Nat} {V : sg_V} {N : Nat} (hi : sg_inj Yr ad) {a0_ : Nat} {a1_ : Nat} {x2_ : Int32} {x3_ : Int32} {M : sg_M} (hq0 : sg_K Yr a0_ 11) (hq1 : a1_ < 16) : ∀ res, fX11_told N a0_ a1_ x2_ x3_ M = some res → sg_cI Yr ad V yX11_told cX11_told 4 .int 6 [.ref (ad a0_), .ref (sg_z V a1_), .int x2_, .int x3_] M res := fun res h => sg_bodyI (by decide) hi (Nat.le_of_ble_eq_true rfl) (fun X hX C E => by subst hX; exact tX11_told C E _ _ _ _  _ hq0 hq1 h)
def fX11_fault (N : Nat) (a0_ : Nat) (x1_ : Int32) (M : sg_M) : Option (Int32 × sg_M) :=
  if x1_ = 0 then (
  some ((M.1 a0_ 17), M)) else (
  if x1_ = (1 : Int32) then (
  some ((M.1 a0_ 18), M)) else (
  some ((-1 : Int32), M)))
set_option maxHeartbeats 4000000 in
set_option maxRecDepth 100000 in
theorem tX11_fault {ad : Nat → Nat} {X : sg_X} {N : Nat} {r : Int32 × sg_M} (C : sg_C Yr ad X cX11_fault RX11 2 0) (E : sg_eI Yr ad X cX11_fault .int r) : ∀ (a0_ : Nat) (x1_ : Int32) (M : sg_M), sg_K Yr a0_ 11 → fX11_fault N a0_ x1_ M = some r → sg_T Yr ad X 2 0 [(0, .ref (ad a0_)), (1, .int x1_)] [] M := by
  intro a0_ x1_ M hq0 h
  unfold fX11_fault at h
  refine i_iload_n C dX11_fault_0 1 rfl ?_
  refine s_if_ne C 11 (by decide) dX11_fault_1 h (fun _ h => ?_) (fun _ h => ?_)
  · refine i_aload_n C dX11_fault_4 0 rfl ?_
    refine gf11_157 C hq0 dX11_fault_5 ?_
    refine s_goto C 24 (by decide) dX11_fault_8 ?_
    exact s_iret C E dX11_fault_24 h
  · refine i_iload_n C dX11_fault_11 1 rfl ?_
    refine s_iconst C (1 : Int32) dX11_fault_12 (by decide) ?_
    refine s_icmp_ne C 23 (by decide) dX11_fault_13 h (fun _ h => ?_) (fun _ h => ?_)
    · refine i_aload_n C dX11_fault_16 0 rfl ?_
      refine gf11_36 C hq0 dX11_fault_17 ?_
      refine s_goto C 24 (by decide) dX11_fault_20 ?_
      exact s_iret C E dX11_fault_24 h
    · refine s_iconst C (-1 : Int32) dX11_fault_23 (by decide) ?_
      exact s_iret C E dX11_fault_24 h
theorem ctX11_fault {ad : Nat → Nat} {V : sg_V} {N : Nat} (hi : sg_inj Yr ad) {a0_ : Nat} {x1_ : Int32} {M : sg_M} (hq0 : sg_K Yr a0_ 11) : ∀ res, fX11_fault N a0_ x1_ M = some res → sg_cI Yr ad V yX11_fault cX11_fault 2 .int 0 [.ref (ad a0_), .int x1_] M res := fun res h => sg_bodyI (by decide) hi (Nat.le_of_ble_eq_true rfl) (fun X hX C E => by subst hX; exact tX11_fault C E _ _  _ hq0 h)
def bX11_readFirst_184 (N : Nat)  (k184 : (Nat × Int32) → sg_M → Option (sg_M)) (s : Nat × Int32) (M : sg_M) : Option (sg_M) :=
  if (4 : Int32) ≤ s.2 then (
  some M) else (
  if sg_ib ((24 : Int32) + s.2) (Yr.2.2.1 (Yr.2.2.2 s.1 2)) = true then
  sg_m (sg_uI M (Yr.2.2.2 s.1 2) (((24 : Int32) + s.2)).toNatClampNeg (999 : Int32)) (fun M1 : sg_M =>
  sg_m (s.2 + (1 : Int32)) (fun x2 : Int32 =>
  k184 (s.1, x2) M1))
  else none)
def gX11_readFirst_184 (N : Nat)  : (Nat × Int32) → sg_M → Option (sg_M) := sg_lp (bX11_readFirst_184 N ) N
set_option maxHeartbeats 4000000 in
set_option maxRecDepth 100000 in
theorem tX11_readFirst_184 {ad : Nat → Nat} {X : sg_X} {N : Nat} {r : sg_M} (C : sg_C Yr ad X cX11_readFirst RX11 3 7) (E : sg_eV Yr ad X cX11_readFirst r)  : ∀ (s : Nat × Int32) (M : sg_M), gX11_readFirst_184 N s M = some r → sg_K Yr s.1 11 → sg_T Yr ad X 3 184 [(0, .ref (ad (s.1))), (2, .int (s.2))] [] M := by
  have key : ∀ n : Nat, ∀ (s : Nat × Int32) (M : sg_M), sg_lp (bX11_readFirst_184 N) n s M = some r → sg_K Yr s.1 11 → sg_T Yr ad X 3 184 [(0, .ref (ad (s.1))), (2, .int (s.2))] [] M := by
    intro n
    induction n with
    | zero => intro s M h; cases h
    | succ n ih =>
      intro s M h hq0
      have h : bX11_readFirst_184 N (sg_lp (bX11_readFirst_184 N) n) s M = some r := h
      generalize sg_lp (bX11_readFirst_184 N) n = k184 at h ih
      have hk184 := ih
      unfold bX11_readFirst_184 at h
      refine i_iload_n C dX11_readFirst_184 1 rfl ?_
      refine s_iconst C (4 : Int32) dX11_readFirst_185 (by decide) ?_
      refine s_icmp_ge C 207 (by decide) dX11_readFirst_186 h (fun _ h => ?_) (fun _ h => ?_)
      · exact s_vret C E dX11_readFirst_207 h
      · refine i_aload_n C dX11_readFirst_189 0 rfl ?_
        refine gf11_13 C hq0 dX11_readFirst_190 ?_
        refine s_bipush C (24 : Int32) dX11_readFirst_193 (by decide) ?_
        refine i_iload_n C dX11_readFirst_195 1 rfl ?_
        refine s_iadd C dX11_readFirst_196 ?_
        refine s_sipush C (999 : Int32) dX11_readFirst_197 (by decide) ?_
        refine s_iast C (ky11_2 hq0) dX11_readFirst_200 h (fun h => ?_)
        refine z_gM h (fun M1 h => ?_)
        refine z_iinc (n := 1) (c9 := (1 : Int32)) (by decide) h (fun x2 hx h => ?_)
        refine i_iinc (lv9 := [(2, _), (0, _)]) C dX11_readFirst_201 1 rfl hx (by decide) rfl ?_
        refine s_goto C 184 (by decide) dX11_readFirst_204 ?_
        exact sg_T.to (hk184 _ _ h hq0) [1, 0] rfl
  exact key N
def bX11_readFirst_158 (N : Nat)  (k158 : (Nat × Int32 × Int32) → sg_M → Option (sg_M)) (s : Nat × Int32 × Int32) (M : sg_M) : Option (sg_M) :=
  if (M.1 s.1 8) ≤ s.2.2 then (
  sg_m (0 : Int32) (fun x3 : Int32 =>
  gX11_readFirst_184 N (s.1, x3) M)) else (
  if sg_ib ((28 : Int32) + s.2.2) (Yr.2.2.1 (Yr.2.2.2 s.1 2)) = true then
  sg_m (sg_uI M (Yr.2.2.2 s.1 2) (((28 : Int32) + s.2.2)).toNatClampNeg s.2.1) (fun M4 : sg_M =>
  sg_m (s.2.2 + (1 : Int32)) (fun x5 : Int32 =>
  k158 (s.1, s.2.1, x5) M4))
  else none)
def gX11_readFirst_158 (N : Nat)  : (Nat × Int32 × Int32) → sg_M → Option (sg_M) := sg_lp (bX11_readFirst_158 N ) N
set_option maxHeartbeats 4000000 in
set_option maxRecDepth 100000 in
theorem tX11_readFirst_158 {ad : Nat → Nat} {X : sg_X} {N : Nat} {r : sg_M} (C : sg_C Yr ad X cX11_readFirst RX11 3 7) (E : sg_eV Yr ad X cX11_readFirst r)  : ∀ (s : Nat × Int32 × Int32) (M : sg_M), gX11_readFirst_158 N s M = some r → sg_K Yr s.1 11 → sg_T Yr ad X 3 158 [(0, .ref (ad (s.1))), (1, .int (s.2.1)), (2, .int (s.2.2))] [] M := by
  have key : ∀ n : Nat, ∀ (s : Nat × Int32 × Int32) (M : sg_M), sg_lp (bX11_readFirst_158 N) n s M = some r → sg_K Yr s.1 11 → sg_T Yr ad X 3 158 [(0, .ref (ad (s.1))), (1, .int (s.2.1)), (2, .int (s.2.2))] [] M := by
    intro n
    induction n with
    | zero => intro s M h; cases h
    | succ n ih =>
      intro s M h hq0
      have h : bX11_readFirst_158 N (sg_lp (bX11_readFirst_158 N) n) s M = some r := h
      generalize sg_lp (bX11_readFirst_158 N) n = k158 at h ih
      have hk158 := ih
      unfold bX11_readFirst_158 at h
      refine i_iload_n C dX11_readFirst_158 2 rfl ?_
      refine i_aload_n C dX11_readFirst_159 0 rfl ?_
      refine gf11_102 C hq0 dX11_readFirst_160 ?_
      refine s_icmp_ge C 182 (by decide) dX11_readFirst_163 h (fun _ h => ?_) (fun _ h => ?_)
      · refine s_iconst C (0 : Int32) dX11_readFirst_182 (by decide) ?_
        refine z_gi h (fun x3 h => ?_)
        refine i_istore_n (lv9 := [(2, _), (0, _), (1, _)]) C 2 dX11_readFirst_183 rfl (by decide) rfl ?_
        exact sg_T.to (tX11_readFirst_184 C E _ _ h hq0) [1, 0] rfl
      · refine i_aload_n C dX11_readFirst_166 0 rfl ?_
        refine gf11_13 C hq0 dX11_readFirst_167 ?_
        refine s_bipush C (28 : Int32) dX11_readFirst_170 (by decide) ?_
        refine i_iload_n C dX11_readFirst_172 2 rfl ?_
        refine s_iadd C dX11_readFirst_173 ?_
        refine i_iload_n C dX11_readFirst_174 1 rfl ?_
        refine s_iast C (ky11_2 hq0) dX11_readFirst_175 h (fun h => ?_)
        refine z_gM h (fun M4 h => ?_)
        refine z_iinc (n := 1) (c9 := (1 : Int32)) (by decide) h (fun x5 hx h => ?_)
        refine i_iinc (lv9 := [(2, _), (0, _), (1, _)]) C dX11_readFirst_176 2 rfl hx (by decide) rfl ?_
        refine s_goto C 158 (by decide) dX11_readFirst_179 ?_
        exact sg_T.to (hk158 _ _ h hq0) [1, 2, 0] rfl
  exact key N
def gX11_readFirst_78 (N : Nat)  (a0_ : Nat) (M : sg_M) : Option (sg_M) :=
  sg_b (fX11_takes N a0_ (1 : Int32) (9 : Int32) M) (fun (x7 : Int32) (M6 : sg_M) =>
  if sg_ib (1 : Int32) (Yr.2.2.1 (Yr.2.2.2 a0_ 2)) = true then
  sg_m (sg_uI M6 (Yr.2.2.2 a0_ 2) ((1 : Int32)).toNatClampNeg x7) (fun M8 : sg_M =>
  sg_b (fX11_told N a0_ 3 (0 : Int32) (4 : Int32) M8) (fun (x10 : Int32) (M9 : sg_M) =>
  sg_m x10 (fun x11 : Int32 =>
  sg_b (fX11_told N a0_ 4 (0 : Int32) (999 : Int32) M9) (fun (x13 : Int32) (M12 : sg_M) =>
  if sg_ib (2 : Int32) (Yr.2.2.1 (Yr.2.2.2 a0_ 2)) = true then
  sg_m (sg_uI M12 (Yr.2.2.2 a0_ 2) ((2 : Int32)).toNatClampNeg x13) (fun M14 : sg_M =>
  sg_b (fX11_told N a0_ 5 (1 : Int32) (999 : Int32) M14) (fun (x16 : Int32) (M15 : sg_M) =>
  if sg_ib (3 : Int32) (Yr.2.2.1 (Yr.2.2.2 a0_ 2)) = true then
  sg_m (sg_uI M15 (Yr.2.2.2 a0_ 2) ((3 : Int32)).toNatClampNeg x16) (fun M17 : sg_M =>
  sg_b (fX11_good N a0_ M17) (fun (x19 : Int32) (M18 : sg_M) =>
  if x19 = 0 then (
  some M18) else (
  if sg_ib (0 : Int32) (Yr.2.2.1 (Yr.2.2.2 a0_ 2)) = true then
  if sg_ib (1 : Int32) (Yr.2.2.1 (Yr.2.2.2 a0_ 2)) = true then
  sg_bv (fX11_laysStraps N a0_ (M18.1 (Yr.2.2.2 a0_ 2) ((0 : Int32)).toNatClampNeg) (M18.1 (Yr.2.2.2 a0_ 2) ((1 : Int32)).toNatClampNeg) M18) (fun M20 : sg_M =>
  sg_m (0 : Int32) (fun x21 : Int32 =>
  gX11_readFirst_158 N (a0_, x11, x21) M20))
  else none
  else none)))
  else none))
  else none))))
  else none)
set_option maxHeartbeats 4000000 in
set_option maxRecDepth 100000 in
theorem tX11_readFirst_78 {ad : Nat → Nat} {X : sg_X} {N : Nat} {r : sg_M} (C : sg_C Yr ad X cX11_readFirst RX11 3 7) (E : sg_eV Yr ad X cX11_readFirst r)  : ∀ (a0_ : Nat) (M : sg_M), gX11_readFirst_78 N a0_ M = some r → sg_K Yr a0_ 11 → sg_T Yr ad X 3 78 [(0, .ref (ad a0_))] [] M := by
  intro a0_ M h hq0
  unfold gX11_readFirst_78 at h
  refine i_aload_n C dX11_readFirst_78 0 rfl ?_
  refine gf11_13 C hq0 dX11_readFirst_79 ?_
  refine s_iconst C (1 : Int32) dX11_readFirst_82 (by decide) ?_
  refine i_aload_n C dX11_readFirst_83 0 rfl ?_
  refine s_iconst C (1 : Int32) dX11_readFirst_84 (by decide) ?_
  refine s_bipush C (9 : Int32) dX11_readFirst_85 (by decide) ?_
  refine s_vcI C [_, _] vmX11_takes lkX11_187 rfl rfl (by decide) hq0 (by decide) rfl rfl (Nat.le_of_ble_eq_true rfl) dX11_readFirst_87 (ctX11_takes C.inj hq0) h (fun x7 M6 h => ?_)
  refine s_iast C (ky11_2 hq0) dX11_readFirst_90 h (fun h => ?_)
  refine z_gM h (fun M8 h => ?_)
  refine i_aload_n C dX11_readFirst_91 0 rfl ?_
  refine s_ldcS C (tx := "width") 3 (List.mem_of_getElem? (i := 19) rfl) dX11_readFirst_92 ?_
  refine s_iconst C (0 : Int32) dX11_readFirst_94 (by decide) ?_
  refine s_iconst C (4 : Int32) dX11_readFirst_95 (by decide) ?_
  refine s_vcI C [_, _, _] vmX11_told lkX11_194 rfl rfl (by decide) hq0 (by decide) rfl rfl (Nat.le_of_ble_eq_true rfl) dX11_readFirst_96 (ctX11_told C.inj hq0 (by decide)) h (fun x10 M9 h => ?_)
  refine z_gi h (fun x11 h => ?_)
  refine i_istore_n (lv9 := [(1, _), (0, _)]) C 1 dX11_readFirst_99 rfl (by decide) rfl ?_
  refine i_aload_n C dX11_readFirst_100 1 rfl ?_
  refine gf11_13 C hq0 dX11_readFirst_101 ?_
  refine s_iconst C (2 : Int32) dX11_readFirst_104 (by decide) ?_
  refine i_aload_n C dX11_readFirst_105 1 rfl ?_
  refine s_ldcS C (tx := "limit") 4 (List.mem_of_getElem? (i := 20) rfl) dX11_readFirst_106 ?_
  refine s_iconst C (0 : Int32) dX11_readFirst_108 (by decide) ?_
  refine s_sipush C (999 : Int32) dX11_readFirst_109 (by decide) ?_
  refine s_vcI C [_, _, _] vmX11_told lkX11_194 rfl rfl (by decide) hq0 (by decide) rfl rfl (Nat.le_of_ble_eq_true rfl) dX11_readFirst_112 (ctX11_told C.inj hq0 (by decide)) h (fun x13 M12 h => ?_)
  refine s_iast C (ky11_2 hq0) dX11_readFirst_115 h (fun h => ?_)
  refine z_gM h (fun M14 h => ?_)
  refine i_aload_n C dX11_readFirst_116 1 rfl ?_
  refine gf11_13 C hq0 dX11_readFirst_117 ?_
  refine s_iconst C (3 : Int32) dX11_readFirst_120 (by decide) ?_
  refine i_aload_n C dX11_readFirst_121 1 rfl ?_
  refine s_ldcS C (tx := "wear") 5 (List.mem_of_getElem? (i := 21) rfl) dX11_readFirst_122 ?_
  refine s_iconst C (1 : Int32) dX11_readFirst_124 (by decide) ?_
  refine s_sipush C (999 : Int32) dX11_readFirst_125 (by decide) ?_
  refine s_vcI C [_, _, _] vmX11_told lkX11_194 rfl rfl (by decide) hq0 (by decide) rfl rfl (Nat.le_of_ble_eq_true rfl) dX11_readFirst_128 (ctX11_told C.inj hq0 (by decide)) h (fun x16 M15 h => ?_)
  refine s_iast C (ky11_2 hq0) dX11_readFirst_131 h (fun h => ?_)
  refine z_gM h (fun M17 h => ?_)
  refine i_aload_n C dX11_readFirst_132 1 rfl ?_
  refine s_vcI C [] vmX11_good lkX11_160 rfl rfl (by decide) hq0 (by decide) rfl rfl (Nat.le_of_ble_eq_true rfl) dX11_readFirst_133 (ctX11_good C.inj hq0) h (fun x19 M18 h => ?_)
  refine s_if_ne C 140 (by decide) dX11_readFirst_136 h (fun _ h => ?_) (fun _ h => ?_)
  · exact s_vret C E dX11_readFirst_139 h
  · refine i_aload_n C dX11_readFirst_140 1 rfl ?_
    refine i_aload_n C dX11_readFirst_141 1 rfl ?_
    refine gf11_13 C hq0 dX11_readFirst_142 ?_
    refine s_iconst C (0 : Int32) dX11_readFirst_145 (by decide) ?_
    refine s_iald C (ky11_2 hq0) dX11_readFirst_146 h (fun h => ?_)
    refine i_aload_n C dX11_readFirst_147 1 rfl ?_
    refine gf11_13 C hq0 dX11_readFirst_148 ?_
    refine s_iconst C (1 : Int32) dX11_readFirst_151 (by decide) ?_
    refine s_iald C (ky11_2 hq0) dX11_readFirst_152 h (fun h => ?_)
    refine s_vcV C [_, _] vmX11_laysStraps lkX11_113 rfl rfl (by decide) hq0 (by decide) rfl rfl (Nat.le_of_ble_eq_true rfl) dX11_readFirst_153 (ctX11_laysStraps C.inj hq0) h (fun M20 h => ?_)
    refine s_iconst C (0 : Int32) dX11_readFirst_156 (by decide) ?_
    refine z_gi h (fun x21 h => ?_)
    refine i_istore_n (lv9 := [(2, _), (1, _), (0, _)]) C 2 dX11_readFirst_157 rfl (by decide) rfl ?_
    exact sg_T.to (tX11_readFirst_158 C E _ _ h hq0) [2, 1, 0] rfl
def fX11_readFirst (N : Nat) (a0_ : Nat) (M : sg_M) : Option (sg_M) :=
  sg_bv (fX11_expects N a0_ 0 M) (fun M22 : sg_M =>
  sg_b (fX11_told N a0_ 1 (1 : Int32) (9 : Int32) M22) (fun (x24 : Int32) (M23 : sg_M) =>
  if sg_ib (0 : Int32) (Yr.2.2.1 (Yr.2.2.2 a0_ 2)) = true then
  sg_m (sg_uI M23 (Yr.2.2.2 a0_ 2) ((0 : Int32)).toNatClampNeg x24) (fun M25 : sg_M =>
  sg_bv (fX11_expects N a0_ 2 M25) (fun M26 : sg_M =>
  sg_b (fX11_good N a0_ M26) (fun (x28 : Int32) (M27 : sg_M) =>
  if x28 = 0 then (
  gX11_readFirst_78 N a0_ M27) else (
  if (M27.1 a0_ 15) = (2 : Int32) then (
  sg_b (fX11_in N ((M27.1 a0_ 16)).toInt64 (1 : Int64) (9 : Int64) M27) (fun (x30 : Int32) (M29 : sg_M) =>
  if x30 = 0 then (
  gX11_readFirst_78 N a0_ M29) else (
  if sg_ib (0 : Int32) (Yr.2.2.1 (Yr.2.2.2 a0_ 2)) = true then
  if ((M29.1 (Yr.2.2.2 a0_ 2) ((0 : Int32)).toNatClampNeg) * (M29.1 a0_ 16)) ≤ (9 : Int32) then (
  gX11_readFirst_78 N a0_ M29) else (
  sg_bv (fX11_errs N a0_ (2 : Int32) M29) (fun M31 : sg_M =>
  gX11_readFirst_78 N a0_ M31))
  else none))) else (
  gX11_readFirst_78 N a0_ M27)))))
  else none))
set_option maxHeartbeats 4000000 in
set_option maxRecDepth 100000 in
theorem tX11_readFirst {ad : Nat → Nat} {X : sg_X} {N : Nat} {r : sg_M} (C : sg_C Yr ad X cX11_readFirst RX11 3 7) (E : sg_eV Yr ad X cX11_readFirst r) : ∀ (a0_ : Nat) (M : sg_M), sg_K Yr a0_ 11 → fX11_readFirst N a0_ M = some r → sg_T Yr ad X 3 0 [(0, .ref (ad a0_))] [] M := by
  intro a0_ M hq0 h
  unfold fX11_readFirst at h
  refine i_aload_n C dX11_readFirst_0 0 rfl ?_
  refine s_ldcS C (tx := "grid") 0 (List.mem_of_getElem? (i := 16) rfl) dX11_readFirst_1 ?_
  refine s_vcV C [_] vmX11_expects lkX11_183 rfl rfl (by decide) hq0 (by decide) rfl rfl (Nat.le_of_ble_eq_true rfl) dX11_readFirst_3 (ctX11_expects C.inj hq0 (by decide)) h (fun M22 h => ?_)
  refine i_aload_n C dX11_readFirst_6 0 rfl ?_
  refine gf11_13 C hq0 dX11_readFirst_7 ?_
  refine s_iconst C (0 : Int32) dX11_readFirst_10 (by decide) ?_
  refine i_aload_n C dX11_readFirst_11 0 rfl ?_
  refine s_ldcS C (tx := "columns") 1 (List.mem_of_getElem? (i := 17) rfl) dX11_readFirst_12 ?_
  refine s_iconst C (1 : Int32) dX11_readFirst_14 (by decide) ?_
  refine s_bipush C (9 : Int32) dX11_readFirst_15 (by decide) ?_
  refine s_vcI C [_, _, _] vmX11_told lkX11_194 rfl rfl (by decide) hq0 (by decide) rfl rfl (Nat.le_of_ble_eq_true rfl) dX11_readFirst_17 (ctX11_told C.inj hq0 (by decide)) h (fun x24 M23 h => ?_)
  refine s_iast C (ky11_2 hq0) dX11_readFirst_20 h (fun h => ?_)
  refine z_gM h (fun M25 h => ?_)
  refine i_aload_n C dX11_readFirst_21 0 rfl ?_
  refine s_ldcS C (tx := "rows") 2 (List.mem_of_getElem? (i := 18) rfl) dX11_readFirst_22 ?_
  refine s_vcV C [_] vmX11_expects lkX11_183 rfl rfl (by decide) hq0 (by decide) rfl rfl (Nat.le_of_ble_eq_true rfl) dX11_readFirst_24 (ctX11_expects C.inj hq0 (by decide)) h (fun M26 h => ?_)
  refine i_aload_n C dX11_readFirst_27 0 rfl ?_
  refine s_vcI C [] vmX11_good lkX11_160 rfl rfl (by decide) hq0 (by decide) rfl rfl (Nat.le_of_ble_eq_true rfl) dX11_readFirst_28 (ctX11_good C.inj hq0) h (fun x28 M27 h => ?_)
  refine s_if_eq C 78 (by decide) dX11_readFirst_31 h (fun _ h => ?_) (fun _ h => ?_)
  · exact sg_T.to (tX11_readFirst_78 C E _ _ h hq0) [0] rfl
  · refine i_aload_n C dX11_readFirst_34 0 rfl ?_
    refine gf11_142 C hq0 dX11_readFirst_35 ?_
    refine s_iconst C (2 : Int32) dX11_readFirst_38 (by decide) ?_
    refine s_icmp_ne C 78 (by decide) dX11_readFirst_39 h (fun _ h => ?_) (fun _ h => ?_)
    · refine i_aload_n C dX11_readFirst_42 0 rfl ?_
      refine gf11_153 C hq0 dX11_readFirst_43 ?_
      refine s_i2l C dX11_readFirst_46 ?_
      refine s_lconst C (1 : Int64) dX11_readFirst_47 (by decide) ?_
      refine s_ldc2 C (9 : Int64) kl_X11_200 dX11_readFirst_48 ?_
      refine s_scI C [_, _, _] smX11_in lkX11_87 (by decide) rfl rfl (Nat.le_of_ble_eq_true rfl) dX11_readFirst_51 (ctX11_in C.inj ) h (fun x30 M29 h => ?_)
      refine s_if_eq C 78 (by decide) dX11_readFirst_54 h (fun _ h => ?_) (fun _ h => ?_)
      · exact sg_T.to (tX11_readFirst_78 C E _ _ h hq0) [0] rfl
      · refine i_aload_n C dX11_readFirst_57 0 rfl ?_
        refine gf11_13 C hq0 dX11_readFirst_58 ?_
        refine s_iconst C (0 : Int32) dX11_readFirst_61 (by decide) ?_
        refine s_iald C (ky11_2 hq0) dX11_readFirst_62 h (fun h => ?_)
        refine i_aload_n C dX11_readFirst_63 0 rfl ?_
        refine gf11_153 C hq0 dX11_readFirst_64 ?_
        refine s_imul C dX11_readFirst_67 ?_
        refine s_bipush C (9 : Int32) dX11_readFirst_68 (by decide) ?_
        refine s_icmp_le C 78 (by decide) dX11_readFirst_70 h (fun _ h => ?_) (fun _ h => ?_)
        · exact sg_T.to (tX11_readFirst_78 C E _ _ h hq0) [0] rfl
        · refine i_aload_n C dX11_readFirst_73 0 rfl ?_
          refine s_iconst C (2 : Int32) dX11_readFirst_74 (by decide) ?_
          refine s_vcV C [_] vmX11_errs lkX11_179 rfl rfl (by decide) hq0 (by decide) rfl rfl (Nat.le_of_ble_eq_true rfl) dX11_readFirst_75 (ctX11_errs C.inj hq0) h (fun M31 h => ?_)
          exact sg_T.to (tX11_readFirst_78 C E _ _ h hq0) [0] rfl
    · exact sg_T.to (tX11_readFirst_78 C E _ _ h hq0) [0] rfl
theorem ctX11_readFirst {ad : Nat → Nat} {V : sg_V} {N : Nat} (hi : sg_inj Yr ad) {a0_ : Nat} {M : sg_M} (hq0 : sg_K Yr a0_ 11) : ∀ res, fX11_readFirst N a0_ M = some res → sg_cV Yr ad V yX11_readFirst cX11_readFirst 3 7 [.ref (ad a0_)] M res := fun res h => sg_bodyV (by decide) hi (Nat.le_of_ble_eq_true rfl) (fun X hX C E => by subst hX; exact tX11_readFirst C E _  _ hq0 h)
def gX11_readPlace_73 (N : Nat)  (a0_ : Nat) (x2_ : Int32) (M : sg_M) : Option (Int32 × sg_M) :=
  if sg_ib (1 : Int32) (Yr.2.2.1 (Yr.2.2.2 a0_ 2)) = true then
  sg_b (fX11_takes N a0_ (0 : Int32) ((M.1 (Yr.2.2.2 a0_ 2) ((1 : Int32)).toNatClampNeg) - (1 : Int32)) M) (fun (x2 : Int32) (M1 : sg_M) =>
  sg_m x2 (fun x3 : Int32 =>
  if sg_ib (0 : Int32) (Yr.2.2.1 (Yr.2.2.2 a0_ 2)) = true then
  some ((((M1.1 (Yr.2.2.2 a0_ 2) ((0 : Int32)).toNatClampNeg) * x3) + x2_), M1)
  else none))
  else none
set_option maxHeartbeats 4000000 in
set_option maxRecDepth 100000 in
theorem tX11_readPlace_73 {ad : Nat → Nat} {X : sg_X} {N : Nat} {r : Int32 × sg_M} (C : sg_C Yr ad X cX11_readPlace RX11 4 6) (E : sg_eI Yr ad X cX11_readPlace .int r)  : ∀ (a0_ : Nat) (x2_ : Int32) (M : sg_M), gX11_readPlace_73 N a0_ x2_ M = some r → sg_K Yr a0_ 11 → sg_T Yr ad X 4 73 [(0, .ref (ad a0_)), (2, .int x2_)] [] M := by
  intro a0_ x2_ M h hq0
  unfold gX11_readPlace_73 at h
  refine i_aload_n C dX11_readPlace_73 0 rfl ?_
  refine s_iconst C (0 : Int32) dX11_readPlace_74 (by decide) ?_
  refine i_aload_n C dX11_readPlace_75 0 rfl ?_
  refine gf11_13 C hq0 dX11_readPlace_76 ?_
  refine s_iconst C (1 : Int32) dX11_readPlace_79 (by decide) ?_
  refine s_iald C (ky11_2 hq0) dX11_readPlace_80 h (fun h => ?_)
  refine s_iconst C (1 : Int32) dX11_readPlace_81 (by decide) ?_
  refine s_isub C dX11_readPlace_82 ?_
  refine s_vcI C [_, _] vmX11_takes lkX11_187 rfl rfl (by decide) hq0 (by decide) rfl rfl (Nat.le_of_ble_eq_true rfl) dX11_readPlace_83 (ctX11_takes C.inj hq0) h (fun x2 M1 h => ?_)
  refine z_gi h (fun x3 h => ?_)
  refine i_istore_n (lv9 := [(3, _), (0, _), (2, _)]) C 3 dX11_readPlace_86 rfl (by decide) rfl ?_
  refine i_aload_n C dX11_readPlace_87 1 rfl ?_
  refine gf11_13 C hq0 dX11_readPlace_88 ?_
  refine s_iconst C (0 : Int32) dX11_readPlace_91 (by decide) ?_
  refine s_iald C (ky11_2 hq0) dX11_readPlace_92 h (fun h => ?_)
  refine i_iload_n C dX11_readPlace_93 0 rfl ?_
  refine s_imul C dX11_readPlace_94 ?_
  refine i_iload_n C dX11_readPlace_95 2 rfl ?_
  refine s_iadd C dX11_readPlace_96 ?_
  exact s_iret C E dX11_readPlace_97 h
def fX11_readPlace (N : Nat) (a0_ : Nat) (x1_ : Int32) (M : sg_M) : Option (Int32 × sg_M) :=
  sg_bv (fX11_expects N a0_ 7 M) (fun M4 : sg_M =>
  if sg_ib (0 : Int32) (Yr.2.2.1 (Yr.2.2.2 a0_ 2)) = true then
  sg_b (fX11_takes N a0_ (0 : Int32) ((M4.1 (Yr.2.2.2 a0_ 2) ((0 : Int32)).toNatClampNeg) - (1 : Int32)) M4) (fun (x6 : Int32) (M5 : sg_M) =>
  sg_m x6 (fun x7 : Int32 =>
  sg_b (fX11_good N a0_ M5) (fun (x9 : Int32) (M8 : sg_M) =>
  if x9 = 0 then (
  gX11_readPlace_73 N a0_ x7 M8) else (
  if (M8.1 a0_ 15) = (2 : Int32) then (
  if sg_ib (1 : Int32) (Yr.2.2.1 (Yr.2.2.2 a0_ 2)) = true then
  if (M8.1 (Yr.2.2.2 a0_ 2) ((1 : Int32)).toNatClampNeg) ≤ (M8.1 a0_ 16) then (
  gX11_readPlace_73 N a0_ x7 M8) else (
  if sg_ib (0 : Int32) (Yr.2.2.1 (Yr.2.2.2 a0_ 2)) = true then
  sg_b (fX11_isOf N x1_ (((M8.1 (Yr.2.2.2 a0_ 2) ((0 : Int32)).toNatClampNeg) * (M8.1 a0_ 16)) + x7) M8) (fun (x11 : Int32) (M10 : sg_M) =>
  if x11 = 0 then (
  gX11_readPlace_73 N a0_ x7 M10) else (
  sg_bv (fX11_errs N a0_ (2 : Int32) M10) (fun M12 : sg_M =>
  gX11_readPlace_73 N a0_ x7 M12)))
  else none)
  else none) else (
  gX11_readPlace_73 N a0_ x7 M8)))))
  else none)
set_option maxHeartbeats 4000000 in
set_option maxRecDepth 100000 in
theorem tX11_readPlace {ad : Nat → Nat} {X : sg_X} {N : Nat} {r : Int32 × sg_M} (C : sg_C Yr ad X cX11_readPlace RX11 4 6) (E : sg_eI Yr ad X cX11_readPlace .int r) : ∀ (a0_ : Nat) (x1_ : Int32) (M : sg_M), sg_K Yr a0_ 11 → fX11_readPlace N a0_ x1_ M = some r → sg_T Yr ad X 4 0 [(0, .ref (ad a0_)), (1, .int x1_)] [] M := by
  intro a0_ x1_ M hq0 h
  unfold fX11_readPlace at h
  refine i_aload_n C dX11_readPlace_0 0 rfl ?_
  refine s_ldcS C (tx := "at") 7 (List.mem_of_getElem? (i := 23) rfl) dX11_readPlace_1 ?_
  refine s_vcV C [_] vmX11_expects lkX11_183 rfl rfl (by decide) hq0 (by decide) rfl rfl (Nat.le_of_ble_eq_true rfl) dX11_readPlace_3 (ctX11_expects C.inj hq0 (by decide)) h (fun M4 h => ?_)
  refine i_aload_n C dX11_readPlace_6 0 rfl ?_
  refine s_iconst C (0 : Int32) dX11_readPlace_7 (by decide) ?_
  refine i_aload_n C dX11_readPlace_8 0 rfl ?_
  refine gf11_13 C hq0 dX11_readPlace_9 ?_
  refine s_iconst C (0 : Int32) dX11_readPlace_12 (by decide) ?_
  refine s_iald C (ky11_2 hq0) dX11_readPlace_13 h (fun h => ?_)
  refine s_iconst C (1 : Int32) dX11_readPlace_14 (by decide) ?_
  refine s_isub C dX11_readPlace_15 ?_
  refine s_vcI C [_, _] vmX11_takes lkX11_187 rfl rfl (by decide) hq0 (by decide) rfl rfl (Nat.le_of_ble_eq_true rfl) dX11_readPlace_16 (ctX11_takes C.inj hq0) h (fun x6 M5 h => ?_)
  refine z_gi h (fun x7 h => ?_)
  refine i_istore_n (lv9 := [(2, _), (0, _), (1, _)]) C 2 dX11_readPlace_19 rfl (by decide) rfl ?_
  refine i_aload_n C dX11_readPlace_20 1 rfl ?_
  refine s_vcI C [] vmX11_good lkX11_160 rfl rfl (by decide) hq0 (by decide) rfl rfl (Nat.le_of_ble_eq_true rfl) dX11_readPlace_21 (ctX11_good C.inj hq0) h (fun x9 M8 h => ?_)
  refine s_if_eq C 73 (by decide) dX11_readPlace_24 h (fun _ h => ?_) (fun _ h => ?_)
  · exact sg_T.to (tX11_readPlace_73 C E _ _ _ h hq0) [1, 0] rfl
  · refine i_aload_n C dX11_readPlace_27 1 rfl ?_
    refine gf11_142 C hq0 dX11_readPlace_28 ?_
    refine s_iconst C (2 : Int32) dX11_readPlace_31 (by decide) ?_
    refine s_icmp_ne C 73 (by decide) dX11_readPlace_32 h (fun _ h => ?_) (fun _ h => ?_)
    · refine i_aload_n C dX11_readPlace_35 1 rfl ?_
      refine gf11_153 C hq0 dX11_readPlace_36 ?_
      refine i_aload_n C dX11_readPlace_39 1 rfl ?_
      refine gf11_13 C hq0 dX11_readPlace_40 ?_
      refine s_iconst C (1 : Int32) dX11_readPlace_43 (by decide) ?_
      refine s_iald C (ky11_2 hq0) dX11_readPlace_44 h (fun h => ?_)
      refine s_icmp_ge C 73 (by decide) dX11_readPlace_45 h (fun _ h => ?_) (fun _ h => ?_)
      · exact sg_T.to (tX11_readPlace_73 C E _ _ _ h hq0) [1, 0] rfl
      · refine i_iload_n C dX11_readPlace_48 2 rfl ?_
        refine i_aload_n C dX11_readPlace_49 1 rfl ?_
        refine gf11_13 C hq0 dX11_readPlace_50 ?_
        refine s_iconst C (0 : Int32) dX11_readPlace_53 (by decide) ?_
        refine s_iald C (ky11_2 hq0) dX11_readPlace_54 h (fun h => ?_)
        refine i_aload_n C dX11_readPlace_55 1 rfl ?_
        refine gf11_153 C hq0 dX11_readPlace_56 ?_
        refine s_imul C dX11_readPlace_59 ?_
        refine i_iload_n C dX11_readPlace_60 0 rfl ?_
        refine s_iadd C dX11_readPlace_61 ?_
        refine s_scI C [_, _] smX11_isOf lkX11_209 (by decide) rfl rfl (Nat.le_of_ble_eq_true rfl) dX11_readPlace_62 (ctX11_isOf C.inj ) h (fun x11 M10 h => ?_)
        refine s_if_eq C 73 (by decide) dX11_readPlace_65 h (fun _ h => ?_) (fun _ h => ?_)
        · exact sg_T.to (tX11_readPlace_73 C E _ _ _ h hq0) [1, 0] rfl
        · refine i_aload_n C dX11_readPlace_68 1 rfl ?_
          refine s_iconst C (2 : Int32) dX11_readPlace_69 (by decide) ?_
          refine s_vcV C [_] vmX11_errs lkX11_179 rfl rfl (by decide) hq0 (by decide) rfl rfl (Nat.le_of_ble_eq_true rfl) dX11_readPlace_70 (ctX11_errs C.inj hq0) h (fun M12 h => ?_)
          exact sg_T.to (tX11_readPlace_73 C E _ _ _ h hq0) [1, 0] rfl
    · exact sg_T.to (tX11_readPlace_73 C E _ _ _ h hq0) [1, 0] rfl
theorem ctX11_readPlace {ad : Nat → Nat} {V : sg_V} {N : Nat} (hi : sg_inj Yr ad) {a0_ : Nat} {x1_ : Int32} {M : sg_M} (hq0 : sg_K Yr a0_ 11) : ∀ res, fX11_readPlace N a0_ x1_ M = some res → sg_cI Yr ad V yX11_readPlace cX11_readPlace 4 .int 6 [.ref (ad a0_), .int x1_] M res := fun res h => sg_bodyI (by decide) hi (Nat.le_of_ble_eq_true rfl) (fun X hX C E => by subst hX; exact tX11_readPlace C E _ _  _ hq0 h)
def gX11_readStrap_142 (N : Nat)  (a0_ : Nat) (x1_ : Int32) (x3_ : Int32) (M : sg_M) : Option (sg_M) :=
  sg_b (fX11_told N a0_ 3 (0 : Int32) (4 : Int32) M) (fun (x2 : Int32) (M1 : sg_M) =>
  sg_m x2 (fun x3 : Int32 =>
  sg_b (fX11_good N a0_ M1) (fun (x5 : Int32) (M4 : sg_M) =>
  if x5 = 0 then (
  some M4) else (
  sg_b (fX11_strapOf N a0_ x1_ x3_ M4) (fun (x7 : Int32) (M6 : sg_M) =>
  if sg_ib ((28 : Int32) + x7) (Yr.2.2.1 (Yr.2.2.2 a0_ 2)) = true then
  sg_m (sg_uI M6 (Yr.2.2.2 a0_ 2) (((28 : Int32) + x7)).toNatClampNeg x3) (fun M8 : sg_M =>
  some M8)
  else none)))))
set_option maxHeartbeats 4000000 in
set_option maxRecDepth 100000 in
theorem tX11_readStrap_142 {ad : Nat → Nat} {X : sg_X} {N : Nat} {r : sg_M} (C : sg_C Yr ad X cX11_readStrap RX11 6 7) (E : sg_eV Yr ad X cX11_readStrap r)  : ∀ (a0_ : Nat) (x1_ : Int32) (x3_ : Int32) (M : sg_M), gX11_readStrap_142 N a0_ x1_ x3_ M = some r → sg_K Yr a0_ 11 → sg_T Yr ad X 6 142 [(0, .ref (ad a0_)), (1, .int x1_), (3, .int x3_)] [] M := by
  intro a0_ x1_ x3_ M h hq0
  unfold gX11_readStrap_142 at h
  refine i_aload_n C dX11_readStrap_142 0 rfl ?_
  refine s_ldcS C (tx := "width") 3 (List.mem_of_getElem? (i := 19) rfl) dX11_readStrap_143 ?_
  refine s_iconst C (0 : Int32) dX11_readStrap_145 (by decide) ?_
  refine s_iconst C (4 : Int32) dX11_readStrap_146 (by decide) ?_
  refine s_vcI C [_, _, _] vmX11_told lkX11_194 rfl rfl (by decide) hq0 (by decide) rfl rfl (Nat.le_of_ble_eq_true rfl) dX11_readStrap_147 (ctX11_told C.inj hq0 (by decide)) h (fun x2 M1 h => ?_)
  refine z_gi h (fun x3 h => ?_)
  refine i_istore (lv9 := [(5, _), (0, _), (1, _), (3, _)]) C dX11_readStrap_150 (by decide) rfl ?_
  refine i_aload_n C dX11_readStrap_152 1 rfl ?_
  refine s_vcI C [] vmX11_good lkX11_160 rfl rfl (by decide) hq0 (by decide) rfl rfl (Nat.le_of_ble_eq_true rfl) dX11_readStrap_153 (ctX11_good C.inj hq0) h (fun x5 M4 h => ?_)
  refine s_if_eq C 175 (by decide) dX11_readStrap_156 h (fun _ h => ?_) (fun _ h => ?_)
  · exact s_vret C E dX11_readStrap_175 h
  · refine i_aload_n C dX11_readStrap_159 1 rfl ?_
    refine gf11_13 C hq0 dX11_readStrap_160 ?_
    refine s_bipush C (28 : Int32) dX11_readStrap_163 (by decide) ?_
    refine i_aload_n C dX11_readStrap_165 1 rfl ?_
    refine i_iload_n C dX11_readStrap_166 2 rfl ?_
    refine i_iload_n C dX11_readStrap_167 3 rfl ?_
    refine s_vcI C [_, _] vmX11_strapOf lkX11_220 rfl rfl (by decide) hq0 (by decide) rfl rfl (Nat.le_of_ble_eq_true rfl) dX11_readStrap_168 (ctX11_strapOf C.inj hq0) h (fun x7 M6 h => ?_)
    refine s_iadd C dX11_readStrap_171 ?_
    refine i_iload C dX11_readStrap_172 0 rfl ?_
    refine s_iast C (ky11_2 hq0) dX11_readStrap_174 h (fun h => ?_)
    refine z_gM h (fun M8 h => ?_)
    exact s_vret C E dX11_readStrap_175 h
def gX11_readStrap_131 (N : Nat)  (a0_ : Nat) (x1_ : Int32) (x3_ : Int32) (M : sg_M) : Option (sg_M) :=
  sg_b (fX11_good N a0_ M) (fun (x10 : Int32) (M9 : sg_M) =>
  if x10 = 0 then (
  gX11_readStrap_142 N a0_ x1_ x3_ M9) else (
  sg_bv (fX11_advance N a0_ M9) (fun M11 : sg_M =>
  gX11_readStrap_142 N a0_ x1_ x3_ M11)))
set_option maxHeartbeats 4000000 in
set_option maxRecDepth 100000 in
theorem tX11_readStrap_131 {ad : Nat → Nat} {X : sg_X} {N : Nat} {r : sg_M} (C : sg_C Yr ad X cX11_readStrap RX11 6 7) (E : sg_eV Yr ad X cX11_readStrap r)  : ∀ (a0_ : Nat) (x1_ : Int32) (x3_ : Int32) (M : sg_M), gX11_readStrap_131 N a0_ x1_ x3_ M = some r → sg_K Yr a0_ 11 → sg_T Yr ad X 6 131 [(0, .ref (ad a0_)), (1, .int x1_), (3, .int x3_)] [] M := by
  intro a0_ x1_ x3_ M h hq0
  unfold gX11_readStrap_131 at h
  refine i_aload_n C dX11_readStrap_131 0 rfl ?_
  refine s_vcI C [] vmX11_good lkX11_160 rfl rfl (by decide) hq0 (by decide) rfl rfl (Nat.le_of_ble_eq_true rfl) dX11_readStrap_132 (ctX11_good C.inj hq0) h (fun x10 M9 h => ?_)
  refine s_if_eq C 142 (by decide) dX11_readStrap_135 h (fun _ h => ?_) (fun _ h => ?_)
  · exact sg_T.to (tX11_readStrap_142 C E _ _ _ _ h hq0) [0, 1, 2] rfl
  · refine i_aload_n C dX11_readStrap_138 0 rfl ?_
    refine s_vcV C [] vmX11_advance lkX11_176 rfl rfl (by decide) hq0 (by decide) rfl rfl (Nat.le_of_ble_eq_true rfl) dX11_readStrap_139 (ctX11_advance C.inj hq0) h (fun M11 h => ?_)
    exact sg_T.to (tX11_readStrap_142 C E _ _ _ _ h hq0) [0, 1, 2] rfl
def gX11_readStrap_112 (N : Nat)  (a0_ : Nat) (x1_ : Int32) (x3_ : Int32) (y0_ : Int32) (M : sg_M) : Option (sg_M) :=
  sg_m y0_ (fun x12 : Int32 =>
  sg_b (fX11_good N a0_ M) (fun (x14 : Int32) (M13 : sg_M) =>
  if x14 = 0 then (
  gX11_readStrap_131 N a0_ x1_ x3_ M13) else (
  if x12 = 0 then (
  sg_bv (fX11_errs N a0_ (2 : Int32) M13) (fun M15 : sg_M =>
  gX11_readStrap_131 N a0_ x1_ x3_ M15)) else (
  gX11_readStrap_131 N a0_ x1_ x3_ M13))))
set_option maxHeartbeats 4000000 in
set_option maxRecDepth 100000 in
theorem tX11_readStrap_112 {ad : Nat → Nat} {X : sg_X} {N : Nat} {r : sg_M} (C : sg_C Yr ad X cX11_readStrap RX11 6 7) (E : sg_eV Yr ad X cX11_readStrap r)  : ∀ (a0_ : Nat) (x1_ : Int32) (x3_ : Int32) (y0_ : Int32) (M : sg_M), gX11_readStrap_112 N a0_ x1_ x3_ y0_ M = some r → sg_K Yr a0_ 11 → sg_T Yr ad X 6 112 [(0, .ref (ad a0_)), (1, .int x1_), (3, .int x3_)] [.int y0_] M := by
  intro a0_ x1_ x3_ y0_ M h hq0
  unfold gX11_readStrap_112 at h
  refine z_gi h (fun x12 h => ?_)
  refine i_istore (lv9 := [(4, _), (0, _), (1, _), (3, _)]) C dX11_readStrap_112 (by decide) rfl ?_
  refine i_aload_n C dX11_readStrap_114 1 rfl ?_
  refine s_vcI C [] vmX11_good lkX11_160 rfl rfl (by decide) hq0 (by decide) rfl rfl (Nat.le_of_ble_eq_true rfl) dX11_readStrap_115 (ctX11_good C.inj hq0) h (fun x14 M13 h => ?_)
  refine s_if_eq C 131 (by decide) dX11_readStrap_118 h (fun _ h => ?_) (fun _ h => ?_)
  · exact sg_T.to (tX11_readStrap_131 C E _ _ _ _ h hq0) [1, 2, 3] rfl
  · refine i_iload C dX11_readStrap_121 0 rfl ?_
    refine s_if_ne C 131 (by decide) dX11_readStrap_123 h (fun _ h => ?_) (fun _ h => ?_)
    · refine i_aload_n C dX11_readStrap_126 1 rfl ?_
      refine s_iconst C (2 : Int32) dX11_readStrap_127 (by decide) ?_
      refine s_vcV C [_] vmX11_errs lkX11_179 rfl rfl (by decide) hq0 (by decide) rfl rfl (Nat.le_of_ble_eq_true rfl) dX11_readStrap_128 (ctX11_errs C.inj hq0) h (fun M15 h => ?_)
      exact sg_T.to (tX11_readStrap_131 C E _ _ _ _ h hq0) [1, 2, 3] rfl
    · exact sg_T.to (tX11_readStrap_131 C E _ _ _ _ h hq0) [1, 2, 3] rfl
def gX11_readStrap_56 (N : Nat)  (a0_ : Nat) (x1_ : Int32) (x2_ : Int32) (y0_ : Int32) (M : sg_M) : Option (sg_M) :=
  sg_m y0_ (fun x16 : Int32 =>
  if x2_ = 0 then (
  if sg_ib (0 : Int32) (Yr.2.2.1 (Yr.2.2.2 a0_ 2)) = true then
  if (M.1 (Yr.2.2.2 a0_ 2) ((0 : Int32)).toNatClampNeg) = 0 then none else
  if sg_ib (1 : Int32) (Yr.2.2.1 (Yr.2.2.2 a0_ 2)) = true then
  if ((M.1 (Yr.2.2.2 a0_ 2) ((1 : Int32)).toNatClampNeg) - (1 : Int32)) ≤ (x1_ / (M.1 (Yr.2.2.2 a0_ 2) ((0 : Int32)).toNatClampNeg)) then (
  gX11_readStrap_112 N a0_ x1_ x16 (0 : Int32) M) else (
  gX11_readStrap_112 N a0_ x1_ x16 (1 : Int32) M)
  else none
  else none) else (
  if sg_ib (0 : Int32) (Yr.2.2.1 (Yr.2.2.2 a0_ 2)) = true then
  if (M.1 (Yr.2.2.2 a0_ 2) ((0 : Int32)).toNatClampNeg) = 0 then none else
  if sg_ib (0 : Int32) (Yr.2.2.1 (Yr.2.2.2 a0_ 2)) = true then
  if ((M.1 (Yr.2.2.2 a0_ 2) ((0 : Int32)).toNatClampNeg) - (1 : Int32)) ≤ (x1_ - x1_ / (M.1 (Yr.2.2.2 a0_ 2) ((0 : Int32)).toNatClampNeg) * (M.1 (Yr.2.2.2 a0_ 2) ((0 : Int32)).toNatClampNeg)) then (
  gX11_readStrap_112 N a0_ x1_ x16 (0 : Int32) M) else (
  gX11_readStrap_112 N a0_ x1_ x16 (1 : Int32) M)
  else none
  else none))
set_option maxHeartbeats 4000000 in
set_option maxRecDepth 100000 in
theorem tX11_readStrap_56 {ad : Nat → Nat} {X : sg_X} {N : Nat} {r : sg_M} (C : sg_C Yr ad X cX11_readStrap RX11 6 7) (E : sg_eV Yr ad X cX11_readStrap r)  : ∀ (a0_ : Nat) (x1_ : Int32) (x2_ : Int32) (y0_ : Int32) (M : sg_M), gX11_readStrap_56 N a0_ x1_ x2_ y0_ M = some r → sg_K Yr a0_ 11 → sg_T Yr ad X 6 56 [(0, .ref (ad a0_)), (1, .int x1_), (2, .int x2_)] [.int y0_] M := by
  intro a0_ x1_ x2_ y0_ M h hq0
  unfold gX11_readStrap_56 at h
  refine z_gi h (fun x16 h => ?_)
  refine i_istore_n (lv9 := [(3, _), (0, _), (1, _), (2, _)]) C 3 dX11_readStrap_56 rfl (by decide) rfl ?_
  refine i_iload_n C dX11_readStrap_57 3 rfl ?_
  refine s_if_eq C 88 (by decide) dX11_readStrap_58 h (fun _ h => ?_) (fun _ h => ?_)
  · refine i_iload_n C dX11_readStrap_88 2 rfl ?_
    refine i_aload_n C dX11_readStrap_89 1 rfl ?_
    refine gf11_13 C hq0 dX11_readStrap_90 ?_
    refine s_iconst C (0 : Int32) dX11_readStrap_93 (by decide) ?_
    refine s_iald C (ky11_2 hq0) dX11_readStrap_94 h (fun h => ?_)
    refine s_idiv C dX11_readStrap_95 h (fun h => ?_)
    refine i_aload_n C dX11_readStrap_96 1 rfl ?_
    refine gf11_13 C hq0 dX11_readStrap_97 ?_
    refine s_iconst C (1 : Int32) dX11_readStrap_100 (by decide) ?_
    refine s_iald C (ky11_2 hq0) dX11_readStrap_101 h (fun h => ?_)
    refine s_iconst C (1 : Int32) dX11_readStrap_102 (by decide) ?_
    refine s_isub C dX11_readStrap_103 ?_
    refine s_icmp_ge C 111 (by decide) dX11_readStrap_104 h (fun _ h => ?_) (fun _ h => ?_)
    · refine s_iconst C (0 : Int32) dX11_readStrap_111 (by decide) ?_
      exact sg_T.to (tX11_readStrap_112 C E _ _ _ _ _ h hq0) [1, 2, 0] rfl
    · refine s_iconst C (1 : Int32) dX11_readStrap_107 (by decide) ?_
      refine s_goto C 112 (by decide) dX11_readStrap_108 ?_
      exact sg_T.to (tX11_readStrap_112 C E _ _ _ _ _ h hq0) [1, 2, 0] rfl
  · refine i_iload_n C dX11_readStrap_61 2 rfl ?_
    refine i_aload_n C dX11_readStrap_62 1 rfl ?_
    refine gf11_13 C hq0 dX11_readStrap_63 ?_
    refine s_iconst C (0 : Int32) dX11_readStrap_66 (by decide) ?_
    refine s_iald C (ky11_2 hq0) dX11_readStrap_67 h (fun h => ?_)
    refine s_irem C dX11_readStrap_68 h (fun h => ?_)
    refine i_aload_n C dX11_readStrap_69 1 rfl ?_
    refine gf11_13 C hq0 dX11_readStrap_70 ?_
    refine s_iconst C (0 : Int32) dX11_readStrap_73 (by decide) ?_
    refine s_iald C (ky11_2 hq0) dX11_readStrap_74 h (fun h => ?_)
    refine s_iconst C (1 : Int32) dX11_readStrap_75 (by decide) ?_
    refine s_isub C dX11_readStrap_76 ?_
    refine s_icmp_ge C 84 (by decide) dX11_readStrap_77 h (fun _ h => ?_) (fun _ h => ?_)
    · refine s_iconst C (0 : Int32) dX11_readStrap_84 (by decide) ?_
      refine s_goto C 112 (by decide) dX11_readStrap_85 ?_
      exact sg_T.to (tX11_readStrap_112 C E _ _ _ _ _ h hq0) [1, 2, 0] rfl
    · refine s_iconst C (1 : Int32) dX11_readStrap_80 (by decide) ?_
      refine s_goto C 112 (by decide) dX11_readStrap_81 ?_
      exact sg_T.to (tX11_readStrap_112 C E _ _ _ _ _ h hq0) [1, 2, 0] rfl
def gX11_readStrap_38 (N : Nat)  (a0_ : Nat) (x1_ : Int32) (x2_ : Int32) (M : sg_M) : Option (sg_M) :=
  if x2_ = 0 then (
  if sg_ib (0 : Int32) (Yr.2.2.1 (Yr.2.2.2 a0_ 2)) = true then
  gX11_readStrap_56 N a0_ x1_ x2_ (x1_ + (M.1 (Yr.2.2.2 a0_ 2) ((0 : Int32)).toNatClampNeg)) M
  else none) else (
  gX11_readStrap_56 N a0_ x1_ x2_ (x1_ + (1 : Int32)) M)
set_option maxHeartbeats 4000000 in
set_option maxRecDepth 100000 in
theorem tX11_readStrap_38 {ad : Nat → Nat} {X : sg_X} {N : Nat} {r : sg_M} (C : sg_C Yr ad X cX11_readStrap RX11 6 7) (E : sg_eV Yr ad X cX11_readStrap r)  : ∀ (a0_ : Nat) (x1_ : Int32) (x2_ : Int32) (M : sg_M), gX11_readStrap_38 N a0_ x1_ x2_ M = some r → sg_K Yr a0_ 11 → sg_T Yr ad X 6 38 [(0, .ref (ad a0_)), (1, .int x1_), (2, .int x2_)] [] M := by
  intro a0_ x1_ x2_ M h hq0
  unfold gX11_readStrap_38 at h
  refine i_iload_n C dX11_readStrap_38 2 rfl ?_
  refine s_if_eq C 48 (by decide) dX11_readStrap_39 h (fun _ h => ?_) (fun _ h => ?_)
  · refine i_iload_n C dX11_readStrap_48 1 rfl ?_
    refine i_aload_n C dX11_readStrap_49 0 rfl ?_
    refine gf11_13 C hq0 dX11_readStrap_50 ?_
    refine s_iconst C (0 : Int32) dX11_readStrap_53 (by decide) ?_
    refine s_iald C (ky11_2 hq0) dX11_readStrap_54 h (fun h => ?_)
    refine s_iadd C dX11_readStrap_55 ?_
    exact sg_T.to (tX11_readStrap_56 C E _ _ _ _ _ h hq0) [0, 1, 2] rfl
  · refine i_iload_n C dX11_readStrap_42 1 rfl ?_
    refine s_iconst C (1 : Int32) dX11_readStrap_43 (by decide) ?_
    refine s_iadd C dX11_readStrap_44 ?_
    refine s_goto C 56 (by decide) dX11_readStrap_45 ?_
    exact sg_T.to (tX11_readStrap_56 C E _ _ _ _ _ h hq0) [0, 1, 2] rfl
def fX11_readStrap (N : Nat) (a0_ : Nat) (M : sg_M) : Option (sg_M) :=
  sg_b (fX11_readPlace N a0_ (0 : Int32) M) (fun (x18 : Int32) (M17 : sg_M) =>
  sg_m x18 (fun x19 : Int32 =>
  sg_b (fX11_is N a0_ 8 M17) (fun (x21 : Int32) (M20 : sg_M) =>
  sg_m x21 (fun x22 : Int32 =>
  sg_b (fX11_good N a0_ M20) (fun (x24 : Int32) (M23 : sg_M) =>
  if x24 = 0 then (
  gX11_readStrap_38 N a0_ x19 x22 M23) else (
  if x22 = 0 then (
  sg_b (fX11_is N a0_ 9 M23) (fun (x26 : Int32) (M25 : sg_M) =>
  if x26 = 0 then (
  sg_bv (fX11_errs N a0_ (1 : Int32) M25) (fun M27 : sg_M =>
  gX11_readStrap_38 N a0_ x19 x22 M27)) else (
  gX11_readStrap_38 N a0_ x19 x22 M25))) else (
  gX11_readStrap_38 N a0_ x19 x22 M23)))))))
set_option maxHeartbeats 4000000 in
set_option maxRecDepth 100000 in
theorem tX11_readStrap {ad : Nat → Nat} {X : sg_X} {N : Nat} {r : sg_M} (C : sg_C Yr ad X cX11_readStrap RX11 6 7) (E : sg_eV Yr ad X cX11_readStrap r) : ∀ (a0_ : Nat) (M : sg_M), sg_K Yr a0_ 11 → fX11_readStrap N a0_ M = some r → sg_T Yr ad X 6 0 [(0, .ref (ad a0_))] [] M := by
  intro a0_ M hq0 h
  unfold fX11_readStrap at h
  refine i_aload_n C dX11_readStrap_0 0 rfl ?_
  refine s_iconst C (0 : Int32) dX11_readStrap_1 (by decide) ?_
  refine s_vcI C [_] vmX11_readPlace lkX11_213 rfl rfl (by decide) hq0 (by decide) rfl rfl (Nat.le_of_ble_eq_true rfl) dX11_readStrap_2 (ctX11_readPlace C.inj hq0) h (fun x18 M17 h => ?_)
  refine z_gi h (fun x19 h => ?_)
  refine i_istore_n (lv9 := [(1, _), (0, _)]) C 1 dX11_readStrap_5 rfl (by decide) rfl ?_
  refine i_aload_n C dX11_readStrap_6 1 rfl ?_
  refine s_ldcS C (tx := "east") 8 (List.mem_of_getElem? (i := 24) rfl) dX11_readStrap_7 ?_
  refine s_vcI C [_] vmX11_is lkX11_172 rfl rfl (by decide) hq0 (by decide) rfl rfl (Nat.le_of_ble_eq_true rfl) dX11_readStrap_9 (ctX11_is C.inj hq0 (by decide)) h (fun x21 M20 h => ?_)
  refine z_gi h (fun x22 h => ?_)
  refine i_istore_n (lv9 := [(2, _), (1, _), (0, _)]) C 2 dX11_readStrap_12 rfl (by decide) rfl ?_
  refine i_aload_n C dX11_readStrap_13 2 rfl ?_
  refine s_vcI C [] vmX11_good lkX11_160 rfl rfl (by decide) hq0 (by decide) rfl rfl (Nat.le_of_ble_eq_true rfl) dX11_readStrap_14 (ctX11_good C.inj hq0) h (fun x24 M23 h => ?_)
  refine s_if_eq C 38 (by decide) dX11_readStrap_17 h (fun _ h => ?_) (fun _ h => ?_)
  · exact sg_T.to (tX11_readStrap_38 C E _ _ _ _ h hq0) [2, 1, 0] rfl
  · refine i_iload_n C dX11_readStrap_20 0 rfl ?_
    refine s_if_ne C 38 (by decide) dX11_readStrap_21 h (fun _ h => ?_) (fun _ h => ?_)
    · refine i_aload_n C dX11_readStrap_24 2 rfl ?_
      refine s_ldcS C (tx := "south") 9 (List.mem_of_getElem? (i := 25) rfl) dX11_readStrap_25 ?_
      refine s_vcI C [_] vmX11_is lkX11_172 rfl rfl (by decide) hq0 (by decide) rfl rfl (Nat.le_of_ble_eq_true rfl) dX11_readStrap_27 (ctX11_is C.inj hq0 (by decide)) h (fun x26 M25 h => ?_)
      refine s_if_ne C 38 (by decide) dX11_readStrap_30 h (fun _ h => ?_) (fun _ h => ?_)
      · refine i_aload_n C dX11_readStrap_33 2 rfl ?_
        refine s_iconst C (1 : Int32) dX11_readStrap_34 (by decide) ?_
        refine s_vcV C [_] vmX11_errs lkX11_179 rfl rfl (by decide) hq0 (by decide) rfl rfl (Nat.le_of_ble_eq_true rfl) dX11_readStrap_35 (ctX11_errs C.inj hq0) h (fun M27 h => ?_)
        exact sg_T.to (tX11_readStrap_38 C E _ _ _ _ h hq0) [2, 1, 0] rfl
      · exact sg_T.to (tX11_readStrap_38 C E _ _ _ _ h hq0) [2, 1, 0] rfl
    · exact sg_T.to (tX11_readStrap_38 C E _ _ _ _ h hq0) [2, 1, 0] rfl
theorem ctX11_readStrap {ad : Nat → Nat} {V : sg_V} {N : Nat} (hi : sg_inj Yr ad) {a0_ : Nat} {M : sg_M} (hq0 : sg_K Yr a0_ 11) : ∀ res, fX11_readStrap N a0_ M = some res → sg_cV Yr ad V yX11_readStrap cX11_readStrap 6 7 [.ref (ad a0_)] M res := fun res h => sg_bodyV (by decide) hi (Nat.le_of_ble_eq_true rfl) (fun X hX C E => by subst hX; exact tX11_readStrap C E _  _ hq0 h)
def gX11_readLoad_41 (N : Nat)  (a0_ : Nat) (x1_ : Int32) (x2_ : Int32) (x3_ : Int32) (M : sg_M) : Option (sg_M) :=
  sg_b (fX11_good N a0_ M) (fun (x2 : Int32) (M1 : sg_M) =>
  if x2 = 0 then (
  some M1) else (
  if sg_ib ((6 : Int32) + x1_) (Yr.2.2.1 (Yr.2.2.2 a0_ 2)) = true then
  sg_m (sg_uI M1 (Yr.2.2.2 a0_ 2) (((6 : Int32) + x1_)).toNatClampNeg x2_) (fun M3 : sg_M =>
  if sg_ib ((15 : Int32) + x1_) (Yr.2.2.1 (Yr.2.2.2 a0_ 2)) = true then
  sg_m (sg_uI M3 (Yr.2.2.2 a0_ 2) (((15 : Int32) + x1_)).toNatClampNeg x3_) (fun M4 : sg_M =>
  sg_m (sg_uI M4 a0_ 20 ((M4.1 a0_ 20) ||| ((1 : Int32) <<< (x1_ &&& 31)))) (fun M5 : sg_M =>
  some M5))
  else none)
  else none))
set_option maxHeartbeats 4000000 in
set_option maxRecDepth 100000 in
theorem tX11_readLoad_41 {ad : Nat → Nat} {X : sg_X} {N : Nat} {r : sg_M} (C : sg_C Yr ad X cX11_readLoad RX11 4 7) (E : sg_eV Yr ad X cX11_readLoad r)  : ∀ (a0_ : Nat) (x1_ : Int32) (x2_ : Int32) (x3_ : Int32) (M : sg_M), gX11_readLoad_41 N a0_ x1_ x2_ x3_ M = some r → sg_K Yr a0_ 11 → sg_T Yr ad X 4 41 [(0, .ref (ad a0_)), (1, .int x1_), (2, .int x2_), (3, .int x3_)] [] M := by
  intro a0_ x1_ x2_ x3_ M h hq0
  unfold gX11_readLoad_41 at h
  refine i_aload_n C dX11_readLoad_41 0 rfl ?_
  refine s_vcI C [] vmX11_good lkX11_160 rfl rfl (by decide) hq0 (by decide) rfl rfl (Nat.le_of_ble_eq_true rfl) dX11_readLoad_42 (ctX11_good C.inj hq0) h (fun x2 M1 h => ?_)
  refine s_if_ne C 49 (by decide) dX11_readLoad_45 h (fun _ h => ?_) (fun _ h => ?_)
  · exact s_vret C E dX11_readLoad_48 h
  · refine i_aload_n C dX11_readLoad_49 0 rfl ?_
    refine gf11_13 C hq0 dX11_readLoad_50 ?_
    refine s_bipush C (6 : Int32) dX11_readLoad_53 (by decide) ?_
    refine i_iload_n C dX11_readLoad_55 1 rfl ?_
    refine s_iadd C dX11_readLoad_56 ?_
    refine i_iload_n C dX11_readLoad_57 2 rfl ?_
    refine s_iast C (ky11_2 hq0) dX11_readLoad_58 h (fun h => ?_)
    refine z_gM h (fun M3 h => ?_)
    refine i_aload_n C dX11_readLoad_59 0 rfl ?_
    refine gf11_13 C hq0 dX11_readLoad_60 ?_
    refine s_bipush C (15 : Int32) dX11_readLoad_63 (by decide) ?_
    refine i_iload_n C dX11_readLoad_65 1 rfl ?_
    refine s_iadd C dX11_readLoad_66 ?_
    refine i_iload_n C dX11_readLoad_67 3 rfl ?_
    refine s_iast C (ky11_2 hq0) dX11_readLoad_68 h (fun h => ?_)
    refine z_gM h (fun M4 h => ?_)
    refine i_aload_n C dX11_readLoad_69 0 rfl ?_
    refine s_dup C dX11_readLoad_70 rfl ?_
    refine gf11_223 C hq0 dX11_readLoad_71 ?_
    refine s_iconst C (1 : Int32) dX11_readLoad_74 (by decide) ?_
    refine i_iload_n C dX11_readLoad_75 1 rfl ?_
    refine s_ishl C dX11_readLoad_76 ?_
    refine s_ior C dX11_readLoad_77 ?_
    refine pf11_223 C hq0 dX11_readLoad_78 ?_
    refine z_gM h (fun M5 h => ?_)
    exact s_vret C E dX11_readLoad_81 h
def fX11_readLoad (N : Nat) (a0_ : Nat) (M : sg_M) : Option (sg_M) :=
  sg_b (fX11_readPlace N a0_ (M.1 a0_ 20) M) (fun (x7 : Int32) (M6 : sg_M) =>
  sg_m x7 (fun x8 : Int32 =>
  sg_b (fX11_told N a0_ 12 (1 : Int32) (99 : Int32) M6) (fun (x10 : Int32) (M9 : sg_M) =>
  sg_m x10 (fun x11 : Int32 =>
  sg_m (0 : Int32) (fun x12 : Int32 =>
  sg_b (fX11_is N a0_ 13 M9) (fun (x14 : Int32) (M13 : sg_M) =>
  if x14 = 0 then (
  gX11_readLoad_41 N a0_ x8 x11 x12 M13) else (
  sg_bv (fX11_advance N a0_ M13) (fun M15 : sg_M =>
  sg_b (fX11_takes N a0_ (1 : Int32) (3 : Int32) M15) (fun (x17 : Int32) (M16 : sg_M) =>
  sg_m x17 (fun x18 : Int32 =>
  gX11_readLoad_41 N a0_ x8 x11 x18 M16))))))))))
set_option maxHeartbeats 4000000 in
set_option maxRecDepth 100000 in
theorem tX11_readLoad {ad : Nat → Nat} {X : sg_X} {N : Nat} {r : sg_M} (C : sg_C Yr ad X cX11_readLoad RX11 4 7) (E : sg_eV Yr ad X cX11_readLoad r) : ∀ (a0_ : Nat) (M : sg_M), sg_K Yr a0_ 11 → fX11_readLoad N a0_ M = some r → sg_T Yr ad X 4 0 [(0, .ref (ad a0_))] [] M := by
  intro a0_ M hq0 h
  unfold fX11_readLoad at h
  refine i_aload_n C dX11_readLoad_0 0 rfl ?_
  refine i_aload_n C dX11_readLoad_1 0 rfl ?_
  refine gf11_223 C hq0 dX11_readLoad_2 ?_
  refine s_vcI C [_] vmX11_readPlace lkX11_213 rfl rfl (by decide) hq0 (by decide) rfl rfl (Nat.le_of_ble_eq_true rfl) dX11_readLoad_5 (ctX11_readPlace C.inj hq0) h (fun x7 M6 h => ?_)
  refine z_gi h (fun x8 h => ?_)
  refine i_istore_n (lv9 := [(1, _), (0, _)]) C 1 dX11_readLoad_8 rfl (by decide) rfl ?_
  refine i_aload_n C dX11_readLoad_9 1 rfl ?_
  refine s_ldcS C (tx := "draws") 12 (List.mem_of_getElem? (i := 28) rfl) dX11_readLoad_10 ?_
  refine s_iconst C (1 : Int32) dX11_readLoad_12 (by decide) ?_
  refine s_bipush C (99 : Int32) dX11_readLoad_13 (by decide) ?_
  refine s_vcI C [_, _, _] vmX11_told lkX11_194 rfl rfl (by decide) hq0 (by decide) rfl rfl (Nat.le_of_ble_eq_true rfl) dX11_readLoad_15 (ctX11_told C.inj hq0 (by decide)) h (fun x10 M9 h => ?_)
  refine z_gi h (fun x11 h => ?_)
  refine i_istore_n (lv9 := [(2, _), (1, _), (0, _)]) C 2 dX11_readLoad_18 rfl (by decide) rfl ?_
  refine s_iconst C (0 : Int32) dX11_readLoad_19 (by decide) ?_
  refine z_gi h (fun x12 h => ?_)
  refine i_istore_n (lv9 := [(3, _), (2, _), (1, _), (0, _)]) C 3 dX11_readLoad_20 rfl (by decide) rfl ?_
  refine i_aload_n C dX11_readLoad_21 3 rfl ?_
  refine s_ldcS C (tx := "group") 13 (List.mem_of_getElem? (i := 29) rfl) dX11_readLoad_22 ?_
  refine s_vcI C [_] vmX11_is lkX11_172 rfl rfl (by decide) hq0 (by decide) rfl rfl (Nat.le_of_ble_eq_true rfl) dX11_readLoad_24 (ctX11_is C.inj hq0 (by decide)) h (fun x14 M13 h => ?_)
  refine s_if_eq C 41 (by decide) dX11_readLoad_27 h (fun _ h => ?_) (fun _ h => ?_)
  · exact sg_T.to (tX11_readLoad_41 C E _ _ _ _ _ h hq0) [3, 2, 1, 0] rfl
  · refine i_aload_n C dX11_readLoad_30 3 rfl ?_
    refine s_vcV C [] vmX11_advance lkX11_176 rfl rfl (by decide) hq0 (by decide) rfl rfl (Nat.le_of_ble_eq_true rfl) dX11_readLoad_31 (ctX11_advance C.inj hq0) h (fun M15 h => ?_)
    refine i_aload_n C dX11_readLoad_34 3 rfl ?_
    refine s_iconst C (1 : Int32) dX11_readLoad_35 (by decide) ?_
    refine s_iconst C (3 : Int32) dX11_readLoad_36 (by decide) ?_
    refine s_vcI C [_, _] vmX11_takes lkX11_187 rfl rfl (by decide) hq0 (by decide) rfl rfl (Nat.le_of_ble_eq_true rfl) dX11_readLoad_37 (ctX11_takes C.inj hq0) h (fun x17 M16 h => ?_)
    refine z_gi h (fun x18 h => ?_)
    refine i_istore_n (lv9 := [(3, _), (2, _), (1, _), (0, _)]) C 3 dX11_readLoad_40 rfl (by decide) rfl ?_
    exact sg_T.to (tX11_readLoad_41 C E _ _ _ _ _ h hq0) [3, 2, 1, 0] rfl
theorem ctX11_readLoad {ad : Nat → Nat} {V : sg_V} {N : Nat} (hi : sg_inj Yr ad) {a0_ : Nat} {M : sg_M} (hq0 : sg_K Yr a0_ 11) : ∀ res, fX11_readLoad N a0_ M = some res → sg_cV Yr ad V yX11_readLoad cX11_readLoad 4 7 [.ref (ad a0_)] M res := fun res h => sg_bodyV (by decide) hi (Nat.le_of_ble_eq_true rfl) (fun X hX C E => by subst hX; exact tX11_readLoad C E _  _ hq0 h)
def gX11_readBudget_42 (N : Nat)  (a0_ : Nat) (M : sg_M) : Option (sg_M) :=
  sg_b (fX11_takes N a0_ (0 : Int32) (3 : Int32) M) (fun (x2 : Int32) (M1 : sg_M) =>
  sg_m x2 (fun x3 : Int32 =>
  sg_b (fX11_told N a0_ 15 (0 : Int32) (999 : Int32) M1) (fun (x5 : Int32) (M4 : sg_M) =>
  sg_m x5 (fun x6 : Int32 =>
  sg_b (fX11_good N a0_ M4) (fun (x8 : Int32) (M7 : sg_M) =>
  if x8 = 0 then (
  some M7) else (
  if sg_ib ((24 : Int32) + x3) (Yr.2.2.1 (Yr.2.2.2 a0_ 2)) = true then
  sg_m (sg_uI M7 (Yr.2.2.2 a0_ 2) (((24 : Int32) + x3)).toNatClampNeg x6) (fun M9 : sg_M =>
  sg_m (sg_uI M9 a0_ 19 ((M9.1 a0_ 19) ||| ((1 : Int32) <<< (x3 &&& 31)))) (fun M10 : sg_M =>
  some M10))
  else none))))))
set_option maxHeartbeats 4000000 in
set_option maxRecDepth 100000 in
theorem tX11_readBudget_42 {ad : Nat → Nat} {X : sg_X} {N : Nat} {r : sg_M} (C : sg_C Yr ad X cX11_readBudget RX11 3 7) (E : sg_eV Yr ad X cX11_readBudget r)  : ∀ (a0_ : Nat) (M : sg_M), gX11_readBudget_42 N a0_ M = some r → sg_K Yr a0_ 11 → sg_T Yr ad X 3 42 [(0, .ref (ad a0_))] [] M := by
  intro a0_ M h hq0
  unfold gX11_readBudget_42 at h
  refine i_aload_n C dX11_readBudget_42 0 rfl ?_
  refine s_iconst C (0 : Int32) dX11_readBudget_43 (by decide) ?_
  refine s_iconst C (3 : Int32) dX11_readBudget_44 (by decide) ?_
  refine s_vcI C [_, _] vmX11_takes lkX11_187 rfl rfl (by decide) hq0 (by decide) rfl rfl (Nat.le_of_ble_eq_true rfl) dX11_readBudget_45 (ctX11_takes C.inj hq0) h (fun x2 M1 h => ?_)
  refine z_gi h (fun x3 h => ?_)
  refine i_istore_n (lv9 := [(1, _), (0, _)]) C 1 dX11_readBudget_48 rfl (by decide) rfl ?_
  refine i_aload_n C dX11_readBudget_49 1 rfl ?_
  refine s_ldcS C (tx := "is") 15 (List.mem_of_getElem? (i := 31) rfl) dX11_readBudget_50 ?_
  refine s_iconst C (0 : Int32) dX11_readBudget_52 (by decide) ?_
  refine s_sipush C (999 : Int32) dX11_readBudget_53 (by decide) ?_
  refine s_vcI C [_, _, _] vmX11_told lkX11_194 rfl rfl (by decide) hq0 (by decide) rfl rfl (Nat.le_of_ble_eq_true rfl) dX11_readBudget_56 (ctX11_told C.inj hq0 (by decide)) h (fun x5 M4 h => ?_)
  refine z_gi h (fun x6 h => ?_)
  refine i_istore_n (lv9 := [(2, _), (1, _), (0, _)]) C 2 dX11_readBudget_59 rfl (by decide) rfl ?_
  refine i_aload_n C dX11_readBudget_60 2 rfl ?_
  refine s_vcI C [] vmX11_good lkX11_160 rfl rfl (by decide) hq0 (by decide) rfl rfl (Nat.le_of_ble_eq_true rfl) dX11_readBudget_61 (ctX11_good C.inj hq0) h (fun x8 M7 h => ?_)
  refine s_if_ne C 68 (by decide) dX11_readBudget_64 h (fun _ h => ?_) (fun _ h => ?_)
  · exact s_vret C E dX11_readBudget_67 h
  · refine i_aload_n C dX11_readBudget_68 2 rfl ?_
    refine gf11_13 C hq0 dX11_readBudget_69 ?_
    refine s_bipush C (24 : Int32) dX11_readBudget_72 (by decide) ?_
    refine i_iload_n C dX11_readBudget_74 1 rfl ?_
    refine s_iadd C dX11_readBudget_75 ?_
    refine i_iload_n C dX11_readBudget_76 0 rfl ?_
    refine s_iast C (ky11_2 hq0) dX11_readBudget_77 h (fun h => ?_)
    refine z_gM h (fun M9 h => ?_)
    refine i_aload_n C dX11_readBudget_78 2 rfl ?_
    refine s_dup C dX11_readBudget_79 rfl ?_
    refine gf11_230 C hq0 dX11_readBudget_80 ?_
    refine s_iconst C (1 : Int32) dX11_readBudget_83 (by decide) ?_
    refine i_iload_n C dX11_readBudget_84 1 rfl ?_
    refine s_ishl C dX11_readBudget_85 ?_
    refine s_ior C dX11_readBudget_86 ?_
    refine pf11_230 C hq0 dX11_readBudget_87 ?_
    refine z_gM h (fun M10 h => ?_)
    exact s_vret C E dX11_readBudget_90 h
def fX11_readBudget (N : Nat) (a0_ : Nat) (M : sg_M) : Option (sg_M) :=
  sg_b (fX11_good N a0_ M) (fun (x12 : Int32) (M11 : sg_M) =>
  if x12 = 0 then (
  gX11_readBudget_42 N a0_ M11) else (
  if (M11.1 a0_ 15) = (2 : Int32) then (
  if (4 : Int32) ≤ (M11.1 a0_ 16) then (
  gX11_readBudget_42 N a0_ M11) else (
  sg_b (fX11_isOf N (M11.1 a0_ 19) (M11.1 a0_ 16) M11) (fun (x14 : Int32) (M13 : sg_M) =>
  if x14 = 0 then (
  gX11_readBudget_42 N a0_ M13) else (
  sg_bv (fX11_errs N a0_ (2 : Int32) M13) (fun M15 : sg_M =>
  gX11_readBudget_42 N a0_ M15))))) else (
  gX11_readBudget_42 N a0_ M11)))
set_option maxHeartbeats 4000000 in
set_option maxRecDepth 100000 in
theorem tX11_readBudget {ad : Nat → Nat} {X : sg_X} {N : Nat} {r : sg_M} (C : sg_C Yr ad X cX11_readBudget RX11 3 7) (E : sg_eV Yr ad X cX11_readBudget r) : ∀ (a0_ : Nat) (M : sg_M), sg_K Yr a0_ 11 → fX11_readBudget N a0_ M = some r → sg_T Yr ad X 3 0 [(0, .ref (ad a0_))] [] M := by
  intro a0_ M hq0 h
  unfold fX11_readBudget at h
  refine i_aload_n C dX11_readBudget_0 0 rfl ?_
  refine s_vcI C [] vmX11_good lkX11_160 rfl rfl (by decide) hq0 (by decide) rfl rfl (Nat.le_of_ble_eq_true rfl) dX11_readBudget_1 (ctX11_good C.inj hq0) h (fun x12 M11 h => ?_)
  refine s_if_eq C 42 (by decide) dX11_readBudget_4 h (fun _ h => ?_) (fun _ h => ?_)
  · exact sg_T.to (tX11_readBudget_42 C E _ _ h hq0) [0] rfl
  · refine i_aload_n C dX11_readBudget_7 0 rfl ?_
    refine gf11_142 C hq0 dX11_readBudget_8 ?_
    refine s_iconst C (2 : Int32) dX11_readBudget_11 (by decide) ?_
    refine s_icmp_ne C 42 (by decide) dX11_readBudget_12 h (fun _ h => ?_) (fun _ h => ?_)
    · refine i_aload_n C dX11_readBudget_15 0 rfl ?_
      refine gf11_153 C hq0 dX11_readBudget_16 ?_
      refine s_iconst C (4 : Int32) dX11_readBudget_19 (by decide) ?_
      refine s_icmp_ge C 42 (by decide) dX11_readBudget_20 h (fun _ h => ?_) (fun _ h => ?_)
      · exact sg_T.to (tX11_readBudget_42 C E _ _ h hq0) [0] rfl
      · refine i_aload_n C dX11_readBudget_23 0 rfl ?_
        refine gf11_230 C hq0 dX11_readBudget_24 ?_
        refine i_aload_n C dX11_readBudget_27 0 rfl ?_
        refine gf11_153 C hq0 dX11_readBudget_28 ?_
        refine s_scI C [_, _] smX11_isOf lkX11_209 (by decide) rfl rfl (Nat.le_of_ble_eq_true rfl) dX11_readBudget_31 (ctX11_isOf C.inj ) h (fun x14 M13 h => ?_)
        refine s_if_eq C 42 (by decide) dX11_readBudget_34 h (fun _ h => ?_) (fun _ h => ?_)
        · exact sg_T.to (tX11_readBudget_42 C E _ _ h hq0) [0] rfl
        · refine i_aload_n C dX11_readBudget_37 0 rfl ?_
          refine s_iconst C (2 : Int32) dX11_readBudget_38 (by decide) ?_
          refine s_vcV C [_] vmX11_errs lkX11_179 rfl rfl (by decide) hq0 (by decide) rfl rfl (Nat.le_of_ble_eq_true rfl) dX11_readBudget_39 (ctX11_errs C.inj hq0) h (fun M15 h => ?_)
          exact sg_T.to (tX11_readBudget_42 C E _ _ h hq0) [0] rfl
    · exact sg_T.to (tX11_readBudget_42 C E _ _ h hq0) [0] rfl
theorem ctX11_readBudget {ad : Nat → Nat} {V : sg_V} {N : Nat} (hi : sg_inj Yr ad) {a0_ : Nat} {M : sg_M} (hq0 : sg_K Yr a0_ 11) : ∀ res, fX11_readBudget N a0_ M = some res → sg_cV Yr ad V yX11_readBudget cX11_readBudget 3 7 [.ref (ad a0_)] M res := fun res h => sg_bodyV (by decide) hi (Nat.le_of_ble_eq_true rfl) (fun X hX C E => by subst hX; exact tX11_readBudget C E _  _ hq0 h)
def gX11_readLine_63 (N : Nat)   (M : sg_M) : Option (sg_M) :=
  some M
set_option maxHeartbeats 4000000 in
set_option maxRecDepth 100000 in
theorem tX11_readLine_63 {ad : Nat → Nat} {X : sg_X} {N : Nat} {r : sg_M} (C : sg_C Yr ad X cX11_readLine RX11 2 8) (E : sg_eV Yr ad X cX11_readLine r)  : ∀  (M : sg_M), gX11_readLine_63 N  M = some r → sg_T Yr ad X 2 63 [] [] M := by
  intro  M h 
  unfold gX11_readLine_63 at h
  refine s_goto C 111 (by decide) dX11_readLine_63 ?_
  exact s_vret C E dX11_readLine_111 h
def fX11_readLine (N : Nat) (a0_ : Nat) (M : sg_M) : Option (sg_M) :=
  sg_b (fX11_is N a0_ 6 M) (fun (x2 : Int32) (M1 : sg_M) =>
  if x2 = 0 then (
  sg_b (fX11_is N a0_ 10 M1) (fun (x4 : Int32) (M3 : sg_M) =>
  if x4 = 0 then (
  sg_b (fX11_is N a0_ 11 M3) (fun (x6 : Int32) (M5 : sg_M) =>
  if x6 = 0 then (
  sg_b (fX11_is N a0_ 14 M5) (fun (x8 : Int32) (M7 : sg_M) =>
  if x8 = 0 then (
  sg_bv (fX11_errs N a0_ (1 : Int32) M7) (fun M9 : sg_M =>
  some M9)) else (
  sg_bv (fX11_advance N a0_ M7) (fun M10 : sg_M =>
  sg_bv (fX11_readBudget N a0_ M10) (fun M11 : sg_M =>
  some M11))))) else (
  sg_bv (fX11_advance N a0_ M5) (fun M12 : sg_M =>
  sg_bv (fX11_readLoad N a0_ M12) (fun M13 : sg_M =>
  some M13))))) else (
  sg_bv (fX11_advance N a0_ M3) (fun M14 : sg_M =>
  if sg_ib (5 : Int32) (Yr.2.2.1 (Yr.2.2.2 a0_ 2)) = true then
  sg_b (fX11_readPlace N a0_ (M14.1 (Yr.2.2.2 a0_ 2) ((5 : Int32)).toNatClampNeg) M14) (fun (x16 : Int32) (M15 : sg_M) =>
  sg_m x16 (fun x17 : Int32 =>
  sg_b (fX11_good N a0_ M15) (fun (x19 : Int32) (M18 : sg_M) =>
  if x19 = 0 then (
  gX11_readLine_63 N M18) else (
  if sg_ib (5 : Int32) (Yr.2.2.1 (Yr.2.2.2 a0_ 2)) = true then
  if sg_ib (5 : Int32) (Yr.2.2.1 (Yr.2.2.2 a0_ 2)) = true then
  sg_m (sg_uI M18 (Yr.2.2.2 a0_ 2) ((5 : Int32)).toNatClampNeg ((M18.1 (Yr.2.2.2 a0_ 2) ((5 : Int32)).toNatClampNeg) ||| ((1 : Int32) <<< (x17 &&& 31)))) (fun M20 : sg_M =>
  gX11_readLine_63 N M20)
  else none
  else none))))
  else none)))) else (
  sg_bv (fX11_advance N a0_ M1) (fun M21 : sg_M =>
  sg_bv (fX11_readStrap N a0_ M21) (fun M22 : sg_M =>
  some M22))))
set_option maxHeartbeats 4000000 in
set_option maxRecDepth 100000 in
theorem tX11_readLine {ad : Nat → Nat} {X : sg_X} {N : Nat} {r : sg_M} (C : sg_C Yr ad X cX11_readLine RX11 2 8) (E : sg_eV Yr ad X cX11_readLine r) : ∀ (a0_ : Nat) (M : sg_M), sg_K Yr a0_ 11 → fX11_readLine N a0_ M = some r → sg_T Yr ad X 2 0 [(0, .ref (ad a0_))] [] M := by
  intro a0_ M hq0 h
  unfold fX11_readLine at h
  refine i_aload_n C dX11_readLine_0 0 rfl ?_
  refine s_ldcS C (tx := "strap") 6 (List.mem_of_getElem? (i := 22) rfl) dX11_readLine_1 ?_
  refine s_vcI C [_] vmX11_is lkX11_172 rfl rfl (by decide) hq0 (by decide) rfl rfl (Nat.le_of_ble_eq_true rfl) dX11_readLine_3 (ctX11_is C.inj hq0 (by decide)) h (fun x2 M1 h => ?_)
  refine s_if_eq C 20 (by decide) dX11_readLine_6 h (fun _ h => ?_) (fun _ h => ?_)
  · refine i_aload_n C dX11_readLine_20 0 rfl ?_
    refine s_ldcS C (tx := "pad") 10 (List.mem_of_getElem? (i := 26) rfl) dX11_readLine_21 ?_
    refine s_vcI C [_] vmX11_is lkX11_172 rfl rfl (by decide) hq0 (by decide) rfl rfl (Nat.le_of_ble_eq_true rfl) dX11_readLine_23 (ctX11_is C.inj hq0 (by decide)) h (fun x4 M3 h => ?_)
    refine s_if_eq C 66 (by decide) dX11_readLine_26 h (fun _ h => ?_) (fun _ h => ?_)
    · refine i_aload_n C dX11_readLine_66 0 rfl ?_
      refine s_ldcS C (tx := "load") 11 (List.mem_of_getElem? (i := 27) rfl) dX11_readLine_67 ?_
      refine s_vcI C [_] vmX11_is lkX11_172 rfl rfl (by decide) hq0 (by decide) rfl rfl (Nat.le_of_ble_eq_true rfl) dX11_readLine_69 (ctX11_is C.inj hq0 (by decide)) h (fun x6 M5 h => ?_)
      refine s_if_eq C 86 (by decide) dX11_readLine_72 h (fun _ h => ?_) (fun _ h => ?_)
      · refine i_aload_n C dX11_readLine_86 0 rfl ?_
        refine s_ldcS C (tx := "budget") 14 (List.mem_of_getElem? (i := 30) rfl) dX11_readLine_87 ?_
        refine s_vcI C [_] vmX11_is lkX11_172 rfl rfl (by decide) hq0 (by decide) rfl rfl (Nat.le_of_ble_eq_true rfl) dX11_readLine_89 (ctX11_is C.inj hq0 (by decide)) h (fun x8 M7 h => ?_)
        refine s_if_eq C 106 (by decide) dX11_readLine_92 h (fun _ h => ?_) (fun _ h => ?_)
        · refine i_aload_n C dX11_readLine_106 0 rfl ?_
          refine s_iconst C (1 : Int32) dX11_readLine_107 (by decide) ?_
          refine s_vcV C [_] vmX11_errs lkX11_179 rfl rfl (by decide) hq0 (by decide) rfl rfl (Nat.le_of_ble_eq_true rfl) dX11_readLine_108 (ctX11_errs C.inj hq0) h (fun M9 h => ?_)
          exact s_vret C E dX11_readLine_111 h
        · refine i_aload_n C dX11_readLine_95 0 rfl ?_
          refine s_vcV C [] vmX11_advance lkX11_176 rfl rfl (by decide) hq0 (by decide) rfl rfl (Nat.le_of_ble_eq_true rfl) dX11_readLine_96 (ctX11_advance C.inj hq0) h (fun M10 h => ?_)
          refine i_aload_n C dX11_readLine_99 0 rfl ?_
          refine s_vcV C [] vmX11_readBudget lkX11_248 rfl rfl (by decide) hq0 (by decide) rfl rfl (Nat.le_of_ble_eq_true rfl) dX11_readLine_100 (ctX11_readBudget C.inj hq0) h (fun M11 h => ?_)
          refine s_goto C 111 (by decide) dX11_readLine_103 ?_
          exact s_vret C E dX11_readLine_111 h
      · refine i_aload_n C dX11_readLine_75 0 rfl ?_
        refine s_vcV C [] vmX11_advance lkX11_176 rfl rfl (by decide) hq0 (by decide) rfl rfl (Nat.le_of_ble_eq_true rfl) dX11_readLine_76 (ctX11_advance C.inj hq0) h (fun M12 h => ?_)
        refine i_aload_n C dX11_readLine_79 0 rfl ?_
        refine s_vcV C [] vmX11_readLoad lkX11_243 rfl rfl (by decide) hq0 (by decide) rfl rfl (Nat.le_of_ble_eq_true rfl) dX11_readLine_80 (ctX11_readLoad C.inj hq0) h (fun M13 h => ?_)
        refine s_goto C 111 (by decide) dX11_readLine_83 ?_
        exact s_vret C E dX11_readLine_111 h
    · refine i_aload_n C dX11_readLine_29 0 rfl ?_
      refine s_vcV C [] vmX11_advance lkX11_176 rfl rfl (by decide) hq0 (by decide) rfl rfl (Nat.le_of_ble_eq_true rfl) dX11_readLine_30 (ctX11_advance C.inj hq0) h (fun M14 h => ?_)
      refine i_aload_n C dX11_readLine_33 0 rfl ?_
      refine i_aload_n C dX11_readLine_34 0 rfl ?_
      refine gf11_13 C hq0 dX11_readLine_35 ?_
      refine s_iconst C (5 : Int32) dX11_readLine_38 (by decide) ?_
      refine s_iald C (ky11_2 hq0) dX11_readLine_39 h (fun h => ?_)
      refine s_vcI C [_] vmX11_readPlace lkX11_213 rfl rfl (by decide) hq0 (by decide) rfl rfl (Nat.le_of_ble_eq_true rfl) dX11_readLine_40 (ctX11_readPlace C.inj hq0) h (fun x16 M15 h => ?_)
      refine z_gi h (fun x17 h => ?_)
      refine i_istore_n (lv9 := [(1, _), (0, _)]) C 1 dX11_readLine_43 rfl (by decide) rfl ?_
      refine i_aload_n C dX11_readLine_44 1 rfl ?_
      refine s_vcI C [] vmX11_good lkX11_160 rfl rfl (by decide) hq0 (by decide) rfl rfl (Nat.le_of_ble_eq_true rfl) dX11_readLine_45 (ctX11_good C.inj hq0) h (fun x19 M18 h => ?_)
      refine s_if_eq C 63 (by decide) dX11_readLine_48 h (fun _ h => ?_) (fun _ h => ?_)
      · exact sg_T.to (tX11_readLine_63 C E _ h ) [] rfl
      · refine i_aload_n C dX11_readLine_51 1 rfl ?_
        refine gf11_13 C hq0 dX11_readLine_52 ?_
        refine s_iconst C (5 : Int32) dX11_readLine_55 (by decide) ?_
        refine s_dup2 C dX11_readLine_56 rfl rfl ?_
        refine s_iald C (ky11_2 hq0) dX11_readLine_57 h (fun h => ?_)
        refine s_iconst C (1 : Int32) dX11_readLine_58 (by decide) ?_
        refine i_iload_n C dX11_readLine_59 0 rfl ?_
        refine s_ishl C dX11_readLine_60 ?_
        refine s_ior C dX11_readLine_61 ?_
        refine s_iast C (ky11_2 hq0) dX11_readLine_62 h (fun h => ?_)
        refine z_gM h (fun M20 h => ?_)
        exact sg_T.to (tX11_readLine_63 C E _ h ) [] rfl
  · refine i_aload_n C dX11_readLine_9 0 rfl ?_
    refine s_vcV C [] vmX11_advance lkX11_176 rfl rfl (by decide) hq0 (by decide) rfl rfl (Nat.le_of_ble_eq_true rfl) dX11_readLine_10 (ctX11_advance C.inj hq0) h (fun M21 h => ?_)
    refine i_aload_n C dX11_readLine_13 0 rfl ?_
    refine s_vcV C [] vmX11_readStrap lkX11_236 rfl rfl (by decide) hq0 (by decide) rfl rfl (Nat.le_of_ble_eq_true rfl) dX11_readLine_14 (ctX11_readStrap C.inj hq0) h (fun M22 h => ?_)
    refine s_goto C 111 (by decide) dX11_readLine_17 ?_
    exact s_vret C E dX11_readLine_111 h
theorem ctX11_readLine {ad : Nat → Nat} {V : sg_V} {N : Nat} (hi : sg_inj Yr ad) {a0_ : Nat} {M : sg_M} (hq0 : sg_K Yr a0_ 11) : ∀ res, fX11_readLine N a0_ M = some res → sg_cV Yr ad V yX11_readLine cX11_readLine 2 8 [.ref (ad a0_)] M res := fun res h => sg_bodyV (by decide) hi (Nat.le_of_ble_eq_true rfl) (fun X hX C E => by subst hX; exact tX11_readLine C E _  _ hq0 h)
def gX11_readText_40 (N : Nat)  (a0_ : Nat) (M : sg_M) : Option (sg_M) :=
  sg_b (fX11_good N a0_ M) (fun (x2 : Int32) (M1 : sg_M) =>
  if x2 = 0 then (
  if sg_ib (4 : Int32) (Yr.2.2.1 (Yr.2.2.2 a0_ 2)) = true then
  if sg_ib (4 : Int32) (Yr.2.2.1 (Yr.2.2.2 a0_ 2)) = true then
  sg_m (sg_uI M1 (Yr.2.2.2 a0_ 2) ((4 : Int32)).toNatClampNeg ((M1.1 (Yr.2.2.2 a0_ 2) ((4 : Int32)).toNatClampNeg) + (1 : Int32))) (fun M3 : sg_M =>
  some M3)
  else none
  else none) else (
  sg_bv (fX11_advance N a0_ M1) (fun M4 : sg_M =>
  if sg_ib (4 : Int32) (Yr.2.2.1 (Yr.2.2.2 a0_ 2)) = true then
  if sg_ib (4 : Int32) (Yr.2.2.1 (Yr.2.2.2 a0_ 2)) = true then
  sg_m (sg_uI M4 (Yr.2.2.2 a0_ 2) ((4 : Int32)).toNatClampNeg ((M4.1 (Yr.2.2.2 a0_ 2) ((4 : Int32)).toNatClampNeg) + (1 : Int32))) (fun M5 : sg_M =>
  some M5)
  else none
  else none)))
set_option maxHeartbeats 4000000 in
set_option maxRecDepth 100000 in
theorem tX11_readText_40 {ad : Nat → Nat} {X : sg_X} {N : Nat} {r : sg_M} (C : sg_C Yr ad X cX11_readText RX11 1 9) (E : sg_eV Yr ad X cX11_readText r)  : ∀ (a0_ : Nat) (M : sg_M), gX11_readText_40 N a0_ M = some r → sg_K Yr a0_ 11 → sg_T Yr ad X 1 40 [(0, .ref (ad a0_))] [] M := by
  intro a0_ M h hq0
  unfold gX11_readText_40 at h
  refine i_aload_n C dX11_readText_40 0 rfl ?_
  refine s_vcI C [] vmX11_good lkX11_160 rfl rfl (by decide) hq0 (by decide) rfl rfl (Nat.le_of_ble_eq_true rfl) dX11_readText_41 (ctX11_good C.inj hq0) h (fun x2 M1 h => ?_)
  refine s_if_eq C 51 (by decide) dX11_readText_44 h (fun _ h => ?_) (fun _ h => ?_)
  · refine i_aload_n C dX11_readText_51 0 rfl ?_
    refine gf11_13 C hq0 dX11_readText_52 ?_
    refine s_iconst C (4 : Int32) dX11_readText_55 (by decide) ?_
    refine s_dup2 C dX11_readText_56 rfl rfl ?_
    refine s_iald C (ky11_2 hq0) dX11_readText_57 h (fun h => ?_)
    refine s_iconst C (1 : Int32) dX11_readText_58 (by decide) ?_
    refine s_iadd C dX11_readText_59 ?_
    refine s_iast C (ky11_2 hq0) dX11_readText_60 h (fun h => ?_)
    refine z_gM h (fun M3 h => ?_)
    exact s_vret C E dX11_readText_61 h
  · refine i_aload_n C dX11_readText_47 0 rfl ?_
    refine s_vcV C [] vmX11_advance lkX11_176 rfl rfl (by decide) hq0 (by decide) rfl rfl (Nat.le_of_ble_eq_true rfl) dX11_readText_48 (ctX11_advance C.inj hq0) h (fun M4 h => ?_)
    refine i_aload_n C dX11_readText_51 0 rfl ?_
    refine gf11_13 C hq0 dX11_readText_52 ?_
    refine s_iconst C (4 : Int32) dX11_readText_55 (by decide) ?_
    refine s_dup2 C dX11_readText_56 rfl rfl ?_
    refine s_iald C (ky11_2 hq0) dX11_readText_57 h (fun h => ?_)
    refine s_iconst C (1 : Int32) dX11_readText_58 (by decide) ?_
    refine s_iadd C dX11_readText_59 ?_
    refine s_iast C (ky11_2 hq0) dX11_readText_60 h (fun h => ?_)
    refine z_gM h (fun M5 h => ?_)
    exact s_vret C E dX11_readText_61 h
def gX11_readText_20 (N : Nat)  (a0_ : Nat) (M : sg_M) : Option (sg_M) :=
  sg_b (fX11_good N a0_ M) (fun (x7 : Int32) (M6 : sg_M) =>
  if x7 = 0 then (
  gX11_readText_40 N a0_ M6) else (
  if (M6.1 a0_ 15) = (3 : Int32) then (
  gX11_readText_40 N a0_ M6) else (
  sg_bv (fX11_errs N a0_ (1 : Int32) M6) (fun M8 : sg_M =>
  gX11_readText_40 N a0_ M8))))
set_option maxHeartbeats 4000000 in
set_option maxRecDepth 100000 in
theorem tX11_readText_20 {ad : Nat → Nat} {X : sg_X} {N : Nat} {r : sg_M} (C : sg_C Yr ad X cX11_readText RX11 1 9) (E : sg_eV Yr ad X cX11_readText r)  : ∀ (a0_ : Nat) (M : sg_M), gX11_readText_20 N a0_ M = some r → sg_K Yr a0_ 11 → sg_T Yr ad X 1 20 [(0, .ref (ad a0_))] [] M := by
  intro a0_ M h hq0
  unfold gX11_readText_20 at h
  refine i_aload_n C dX11_readText_20 0 rfl ?_
  refine s_vcI C [] vmX11_good lkX11_160 rfl rfl (by decide) hq0 (by decide) rfl rfl (Nat.le_of_ble_eq_true rfl) dX11_readText_21 (ctX11_good C.inj hq0) h (fun x7 M6 h => ?_)
  refine s_if_eq C 40 (by decide) dX11_readText_24 h (fun _ h => ?_) (fun _ h => ?_)
  · exact sg_T.to (tX11_readText_40 C E _ _ h hq0) [0] rfl
  · refine i_aload_n C dX11_readText_27 0 rfl ?_
    refine gf11_142 C hq0 dX11_readText_28 ?_
    refine s_iconst C (3 : Int32) dX11_readText_31 (by decide) ?_
    refine s_icmp_eq C 40 (by decide) dX11_readText_32 h (fun _ h => ?_) (fun _ h => ?_)
    · exact sg_T.to (tX11_readText_40 C E _ _ h hq0) [0] rfl
    · refine i_aload_n C dX11_readText_35 0 rfl ?_
      refine s_iconst C (1 : Int32) dX11_readText_36 (by decide) ?_
      refine s_vcV C [_] vmX11_errs lkX11_179 rfl rfl (by decide) hq0 (by decide) rfl rfl (Nat.le_of_ble_eq_true rfl) dX11_readText_37 (ctX11_errs C.inj hq0) h (fun M8 h => ?_)
      exact sg_T.to (tX11_readText_40 C E _ _ h hq0) [0] rfl
def fX11_readText (N : Nat) (a0_ : Nat) (M : sg_M) : Option (sg_M) :=
  if sg_ib (4 : Int32) (Yr.2.2.1 (Yr.2.2.2 a0_ 2)) = true then
  if (M.1 (Yr.2.2.2 a0_ 2) ((4 : Int32)).toNatClampNeg) = 0 then (
  sg_bv (fX11_readFirst N a0_ M) (fun M9 : sg_M =>
  gX11_readText_20 N a0_ M9)) else (
  sg_bv (fX11_readLine N a0_ M) (fun M10 : sg_M =>
  gX11_readText_20 N a0_ M10))
  else none
set_option maxHeartbeats 4000000 in
set_option maxRecDepth 100000 in
theorem tX11_readText {ad : Nat → Nat} {X : sg_X} {N : Nat} {r : sg_M} (C : sg_C Yr ad X cX11_readText RX11 1 9) (E : sg_eV Yr ad X cX11_readText r) : ∀ (a0_ : Nat) (M : sg_M), sg_K Yr a0_ 11 → fX11_readText N a0_ M = some r → sg_T Yr ad X 1 0 [(0, .ref (ad a0_))] [] M := by
  intro a0_ M hq0 h
  unfold fX11_readText at h
  refine i_aload_n C dX11_readText_0 0 rfl ?_
  refine gf11_13 C hq0 dX11_readText_1 ?_
  refine s_iconst C (4 : Int32) dX11_readText_4 (by decide) ?_
  refine s_iald C (ky11_2 hq0) dX11_readText_5 h (fun h => ?_)
  refine s_if_ne C 16 (by decide) dX11_readText_6 h (fun _ h => ?_) (fun _ h => ?_)
  · refine i_aload_n C dX11_readText_9 0 rfl ?_
    refine s_vcV C [] vmX11_readFirst lkX11_251 rfl rfl (by decide) hq0 (by decide) rfl rfl (Nat.le_of_ble_eq_true rfl) dX11_readText_10 (ctX11_readFirst C.inj hq0) h (fun M9 h => ?_)
    refine s_goto C 20 (by decide) dX11_readText_13 ?_
    exact sg_T.to (tX11_readText_20 C E _ _ h hq0) [0] rfl
  · refine i_aload_n C dX11_readText_16 0 rfl ?_
    refine s_vcV C [] vmX11_readLine lkX11_254 rfl rfl (by decide) hq0 (by decide) rfl rfl (Nat.le_of_ble_eq_true rfl) dX11_readText_17 (ctX11_readLine C.inj hq0) h (fun M10 h => ?_)
    exact sg_T.to (tX11_readText_20 C E _ _ h hq0) [0] rfl
theorem ctX11_readText {ad : Nat → Nat} {V : sg_V} {N : Nat} (hi : sg_inj Yr ad) {a0_ : Nat} {M : sg_M} (hq0 : sg_K Yr a0_ 11) : ∀ res, fX11_readText N a0_ M = some res → sg_cV Yr ad V yX11_readText cX11_readText 1 9 [.ref (ad a0_)] M res := fun res h => sg_bodyV (by decide) hi (Nat.le_of_ble_eq_true rfl) (fun X hX C E => by subst hX; exact tX11_readText C E _  _ hq0 h)
def bX11_grid_96 (N : Nat)  (k96 : (Nat × Int32) → sg_M → Option (Int32 × sg_M)) (s : Nat × Int32) (M : sg_M) : Option (Int32 × sg_M) :=
  if (40 : Int32) ≤ s.2 then (
  sg_m (sg_uI M s.1 4 (0 : Int32)) (fun M1 : sg_M =>
  if sg_ib (4 : Int32) (Yr.2.2.1 (Yr.2.2.2 s.1 1)) = true then
  some ((M1.1 (Yr.2.2.2 s.1 1) ((4 : Int32)).toNatClampNeg), M1)
  else none)) else (
  if sg_ib s.2 (Yr.2.2.1 (Yr.2.2.2 s.1 2)) = true then
  if sg_ib s.2 (Yr.2.2.1 (Yr.2.2.2 s.1 1)) = true then
  sg_m (sg_uI M (Yr.2.2.2 s.1 1) (s.2).toNatClampNeg (M.1 (Yr.2.2.2 s.1 2) (s.2).toNatClampNeg)) (fun M2 : sg_M =>
  sg_m (s.2 + (1 : Int32)) (fun x3 : Int32 =>
  k96 (s.1, x3) M2))
  else none
  else none)
def gX11_grid_96 (N : Nat)  : (Nat × Int32) → sg_M → Option (Int32 × sg_M) := sg_lp (bX11_grid_96 N ) N
set_option maxHeartbeats 4000000 in
set_option maxRecDepth 100000 in
theorem tX11_grid_96 {ad : Nat → Nat} {X : sg_X} {N : Nat} {r : Int32 × sg_M} (C : sg_C Yr ad X cX11_grid RX11 2 10) (E : sg_eI Yr ad X cX11_grid .int r)  : ∀ (s : Nat × Int32) (M : sg_M), gX11_grid_96 N s M = some r → sg_K Yr s.1 11 → sg_T Yr ad X 2 96 [(0, .ref (ad (s.1))), (1, .int (s.2))] [] M := by
  have key : ∀ n : Nat, ∀ (s : Nat × Int32) (M : sg_M), sg_lp (bX11_grid_96 N) n s M = some r → sg_K Yr s.1 11 → sg_T Yr ad X 2 96 [(0, .ref (ad (s.1))), (1, .int (s.2))] [] M := by
    intro n
    induction n with
    | zero => intro s M h; cases h
    | succ n ih =>
      intro s M h hq0
      have h : bX11_grid_96 N (sg_lp (bX11_grid_96 N) n) s M = some r := h
      generalize sg_lp (bX11_grid_96 N) n = k96 at h ih
      have hk96 := ih
      unfold bX11_grid_96 at h
      refine i_iload_n C dX11_grid_96 1 rfl ?_
      refine s_bipush C (40 : Int32) dX11_grid_97 (by decide) ?_
      refine s_icmp_ge C 120 (by decide) dX11_grid_99 h (fun _ h => ?_) (fun _ h => ?_)
      · refine i_aload_n C dX11_grid_120 0 rfl ?_
        refine s_iconst C (0 : Int32) dX11_grid_121 (by decide) ?_
        refine pf11_91 C hq0 dX11_grid_122 ?_
        refine z_gM h (fun M1 h => ?_)
        refine i_aload_n C dX11_grid_125 0 rfl ?_
        refine gf11_9 C hq0 dX11_grid_126 ?_
        refine s_iconst C (4 : Int32) dX11_grid_129 (by decide) ?_
        refine s_iald C (ky11_1 hq0) dX11_grid_130 h (fun h => ?_)
        exact s_iret C E dX11_grid_131 h
      · refine i_aload_n C dX11_grid_102 0 rfl ?_
        refine gf11_9 C hq0 dX11_grid_103 ?_
        refine i_iload_n C dX11_grid_106 1 rfl ?_
        refine i_aload_n C dX11_grid_107 0 rfl ?_
        refine gf11_13 C hq0 dX11_grid_108 ?_
        refine i_iload_n C dX11_grid_111 1 rfl ?_
        refine s_iald C (ky11_2 hq0) dX11_grid_112 h (fun h => ?_)
        refine s_iast C (ky11_1 hq0) dX11_grid_113 h (fun h => ?_)
        refine z_gM h (fun M2 h => ?_)
        refine z_iinc (n := 1) (c9 := (1 : Int32)) (by decide) h (fun x3 hx h => ?_)
        refine i_iinc (lv9 := [(1, _), (0, _)]) C dX11_grid_114 1 rfl hx (by decide) rfl ?_
        refine s_goto C 96 (by decide) dX11_grid_117 ?_
        exact sg_T.to (hk96 _ _ h hq0) [1, 0] rfl
  exact key N
def gX11_grid_84 (N : Nat)  (a0_ : Nat) (M : sg_M) : Option (Int32 × sg_M) :=
  sg_b (fX11_good N a0_ M) (fun (x5 : Int32) (M4 : sg_M) =>
  if x5 = 0 then (
  some ((-4 : Int32), M4)) else (
  sg_m (0 : Int32) (fun x6 : Int32 =>
  gX11_grid_96 N (a0_, x6) M4)))
set_option maxHeartbeats 4000000 in
set_option maxRecDepth 100000 in
theorem tX11_grid_84 {ad : Nat → Nat} {X : sg_X} {N : Nat} {r : Int32 × sg_M} (C : sg_C Yr ad X cX11_grid RX11 2 10) (E : sg_eI Yr ad X cX11_grid .int r)  : ∀ (a0_ : Nat) (M : sg_M), gX11_grid_84 N a0_ M = some r → sg_K Yr a0_ 11 → sg_T Yr ad X 2 84 [(0, .ref (ad a0_))] [] M := by
  intro a0_ M h hq0
  unfold gX11_grid_84 at h
  refine i_aload_n C dX11_grid_84 0 rfl ?_
  refine s_vcI C [] vmX11_good lkX11_160 rfl rfl (by decide) hq0 (by decide) rfl rfl (Nat.le_of_ble_eq_true rfl) dX11_grid_85 (ctX11_good C.inj hq0) h (fun x5 M4 h => ?_)
  refine s_if_ne C 94 (by decide) dX11_grid_88 h (fun _ h => ?_) (fun _ h => ?_)
  · refine s_bipush C (-4 : Int32) dX11_grid_91 (by decide) ?_
    exact s_iret C E dX11_grid_93 h
  · refine s_iconst C (0 : Int32) dX11_grid_94 (by decide) ?_
    refine z_gi h (fun x6 h => ?_)
    refine i_istore_n (lv9 := [(1, _), (0, _)]) C 1 dX11_grid_95 rfl (by decide) rfl ?_
    exact sg_T.to (tX11_grid_96 C E _ _ h hq0) [1, 0] rfl
def bX11_grid_63 (N : Nat)  (k63 : Nat → sg_M → Option (Int32 × sg_M)) (s : Nat) (M : sg_M) : Option (Int32 × sg_M) :=
  sg_b (fX11_good N s M) (fun (x8 : Int32) (M7 : sg_M) =>
  if x8 = 0 then (
  gX11_grid_84 N s M7) else (
  if (M7.1 s 15) = 0 then (
  gX11_grid_84 N s M7) else (
  sg_bv (fX11_readText N s M7) (fun M9 : sg_M =>
  k63 (s) M9))))
def gX11_grid_63 (N : Nat)  : Nat → sg_M → Option (Int32 × sg_M) := sg_lp (bX11_grid_63 N ) N
set_option maxHeartbeats 4000000 in
set_option maxRecDepth 100000 in
theorem tX11_grid_63 {ad : Nat → Nat} {X : sg_X} {N : Nat} {r : Int32 × sg_M} (C : sg_C Yr ad X cX11_grid RX11 2 10) (E : sg_eI Yr ad X cX11_grid .int r)  : ∀ (s : Nat) (M : sg_M), gX11_grid_63 N s M = some r → sg_K Yr s 11 → sg_T Yr ad X 2 63 [(0, .ref (ad s))] [] M := by
  have key : ∀ n : Nat, ∀ (s : Nat) (M : sg_M), sg_lp (bX11_grid_63 N) n s M = some r → sg_K Yr s 11 → sg_T Yr ad X 2 63 [(0, .ref (ad s))] [] M := by
    intro n
    induction n with
    | zero => intro s M h; cases h
    | succ n ih =>
      intro s M h hq0
      have h : bX11_grid_63 N (sg_lp (bX11_grid_63 N) n) s M = some r := h
      generalize sg_lp (bX11_grid_63 N) n = k63 at h ih
      have hk63 := ih
      unfold bX11_grid_63 at h
      refine i_aload_n C dX11_grid_63 0 rfl ?_
      refine s_vcI C [] vmX11_good lkX11_160 rfl rfl (by decide) hq0 (by decide) rfl rfl (Nat.le_of_ble_eq_true rfl) dX11_grid_64 (ctX11_good C.inj hq0) h (fun x8 M7 h => ?_)
      refine s_if_eq C 84 (by decide) dX11_grid_67 h (fun _ h => ?_) (fun _ h => ?_)
      · exact sg_T.to (tX11_grid_84 C E _ _ h hq0) [0] rfl
      · refine i_aload_n C dX11_grid_70 0 rfl ?_
        refine gf11_142 C hq0 dX11_grid_71 ?_
        refine s_if_eq C 84 (by decide) dX11_grid_74 h (fun _ h => ?_) (fun _ h => ?_)
        · exact sg_T.to (tX11_grid_84 C E _ _ h hq0) [0] rfl
        · refine i_aload_n C dX11_grid_77 0 rfl ?_
          refine s_vcV C [] vmX11_readText lkX11_257 rfl rfl (by decide) hq0 (by decide) rfl rfl (Nat.le_of_ble_eq_true rfl) dX11_grid_78 (ctX11_readText C.inj hq0) h (fun M9 h => ?_)
          refine s_goto C 63 (by decide) dX11_grid_81 ?_
          exact sg_T.to (hk63 _ _ h hq0) [0] rfl
  exact key N
def bX11_grid_40 (N : Nat)  (k40 : (Nat × Int32) → sg_M → Option (Int32 × sg_M)) (s : Nat × Int32) (M : sg_M) : Option (Int32 × sg_M) :=
  if (40 : Int32) ≤ s.2 then (
  sg_bv (fX11_advance N s.1 M) (fun M10 : sg_M =>
  gX11_grid_63 N (s.1) M10)) else (
  if sg_ib s.2 (Yr.2.2.1 (Yr.2.2.2 s.1 2)) = true then
  sg_m (sg_uI M (Yr.2.2.2 s.1 2) (s.2).toNatClampNeg (0 : Int32)) (fun M11 : sg_M =>
  sg_m (s.2 + (1 : Int32)) (fun x12 : Int32 =>
  k40 (s.1, x12) M11))
  else none)
def gX11_grid_40 (N : Nat)  : (Nat × Int32) → sg_M → Option (Int32 × sg_M) := sg_lp (bX11_grid_40 N ) N
set_option maxHeartbeats 4000000 in
set_option maxRecDepth 100000 in
theorem tX11_grid_40 {ad : Nat → Nat} {X : sg_X} {N : Nat} {r : Int32 × sg_M} (C : sg_C Yr ad X cX11_grid RX11 2 10) (E : sg_eI Yr ad X cX11_grid .int r)  : ∀ (s : Nat × Int32) (M : sg_M), gX11_grid_40 N s M = some r → sg_K Yr s.1 11 → sg_T Yr ad X 2 40 [(0, .ref (ad (s.1))), (1, .int (s.2))] [] M := by
  have key : ∀ n : Nat, ∀ (s : Nat × Int32) (M : sg_M), sg_lp (bX11_grid_40 N) n s M = some r → sg_K Yr s.1 11 → sg_T Yr ad X 2 40 [(0, .ref (ad (s.1))), (1, .int (s.2))] [] M := by
    intro n
    induction n with
    | zero => intro s M h; cases h
    | succ n ih =>
      intro s M h hq0
      have h : bX11_grid_40 N (sg_lp (bX11_grid_40 N) n) s M = some r := h
      generalize sg_lp (bX11_grid_40 N) n = k40 at h ih
      have hk40 := ih
      unfold bX11_grid_40 at h
      refine i_iload_n C dX11_grid_40 1 rfl ?_
      refine s_bipush C (40 : Int32) dX11_grid_41 (by decide) ?_
      refine s_icmp_ge C 59 (by decide) dX11_grid_43 h (fun _ h => ?_) (fun _ h => ?_)
      · refine i_aload_n C dX11_grid_59 0 rfl ?_
        refine s_vcV C [] vmX11_advance lkX11_176 rfl rfl (by decide) hq0 (by decide) rfl rfl (Nat.le_of_ble_eq_true rfl) dX11_grid_60 (ctX11_advance C.inj hq0) h (fun M10 h => ?_)
        exact sg_T.to (tX11_grid_63 C E _ _ h hq0) [0] rfl
      · refine i_aload_n C dX11_grid_46 0 rfl ?_
        refine gf11_13 C hq0 dX11_grid_47 ?_
        refine i_iload_n C dX11_grid_50 1 rfl ?_
        refine s_iconst C (0 : Int32) dX11_grid_51 (by decide) ?_
        refine s_iast C (ky11_2 hq0) dX11_grid_52 h (fun h => ?_)
        refine z_gM h (fun M11 h => ?_)
        refine z_iinc (n := 1) (c9 := (1 : Int32)) (by decide) h (fun x12 hx h => ?_)
        refine i_iinc (lv9 := [(1, _), (0, _)]) C dX11_grid_53 1 rfl hx (by decide) rfl ?_
        refine s_goto C 40 (by decide) dX11_grid_56 ?_
        exact sg_T.to (hk40 _ _ h hq0) [1, 0] rfl
  exact key N
def fX11_grid (N : Nat) (a0_ : Nat) (M : sg_M) : Option (Int32 × sg_M) :=
  sg_m (sg_uI M a0_ 12 (M.1 a0_ 10)) (fun M13 : sg_M =>
  sg_m (sg_uI M13 a0_ 10 (0 : Int32)) (fun M14 : sg_M =>
  sg_m (sg_uI M14 a0_ 13 (0 : Int32)) (fun M15 : sg_M =>
  sg_m (sg_uI M15 a0_ 17 (0 : Int32)) (fun M16 : sg_M =>
  sg_m (sg_uI M16 a0_ 18 (-1 : Int32)) (fun M17 : sg_M =>
  sg_m (sg_uI M17 a0_ 19 (0 : Int32)) (fun M18 : sg_M =>
  sg_m (sg_uI M18 a0_ 20 (0 : Int32)) (fun M19 : sg_M =>
  sg_m (0 : Int32) (fun x20 : Int32 =>
  gX11_grid_40 N (a0_, x20) M19))))))))
set_option maxHeartbeats 4000000 in
set_option maxRecDepth 100000 in
theorem tX11_grid {ad : Nat → Nat} {X : sg_X} {N : Nat} {r : Int32 × sg_M} (C : sg_C Yr ad X cX11_grid RX11 2 10) (E : sg_eI Yr ad X cX11_grid .int r) : ∀ (a0_ : Nat) (M : sg_M), sg_K Yr a0_ 11 → fX11_grid N a0_ M = some r → sg_T Yr ad X 2 0 [(0, .ref (ad a0_))] [] M := by
  intro a0_ M hq0 h
  unfold fX11_grid at h
  refine i_aload_n C dX11_grid_0 0 rfl ?_
  refine i_aload_n C dX11_grid_1 0 rfl ?_
  refine gf11_126 C hq0 dX11_grid_2 ?_
  refine pf11_129 C hq0 dX11_grid_5 ?_
  refine z_gM h (fun M13 h => ?_)
  refine i_aload_n C dX11_grid_8 0 rfl ?_
  refine s_iconst C (0 : Int32) dX11_grid_9 (by decide) ?_
  refine pf11_126 C hq0 dX11_grid_10 ?_
  refine z_gM h (fun M14 h => ?_)
  refine i_aload_n C dX11_grid_13 0 rfl ?_
  refine s_iconst C (0 : Int32) dX11_grid_14 (by decide) ?_
  refine pf11_132 C hq0 dX11_grid_15 ?_
  refine z_gM h (fun M15 h => ?_)
  refine i_aload_n C dX11_grid_18 0 rfl ?_
  refine s_iconst C (0 : Int32) dX11_grid_19 (by decide) ?_
  refine pf11_157 C hq0 dX11_grid_20 ?_
  refine z_gM h (fun M16 h => ?_)
  refine i_aload_n C dX11_grid_23 0 rfl ?_
  refine s_iconst C (-1 : Int32) dX11_grid_24 (by decide) ?_
  refine pf11_36 C hq0 dX11_grid_25 ?_
  refine z_gM h (fun M17 h => ?_)
  refine i_aload_n C dX11_grid_28 0 rfl ?_
  refine s_iconst C (0 : Int32) dX11_grid_29 (by decide) ?_
  refine pf11_230 C hq0 dX11_grid_30 ?_
  refine z_gM h (fun M18 h => ?_)
  refine i_aload_n C dX11_grid_33 0 rfl ?_
  refine s_iconst C (0 : Int32) dX11_grid_34 (by decide) ?_
  refine pf11_223 C hq0 dX11_grid_35 ?_
  refine z_gM h (fun M19 h => ?_)
  refine s_iconst C (0 : Int32) dX11_grid_38 (by decide) ?_
  refine z_gi h (fun x20 h => ?_)
  refine i_istore_n (lv9 := [(1, _), (0, _)]) C 1 dX11_grid_39 rfl (by decide) rfl ?_
  exact sg_T.to (tX11_grid_40 C E _ _ h hq0) [1, 0] rfl
theorem ctX11_grid {ad : Nat → Nat} {V : sg_V} {N : Nat} (hi : sg_inj Yr ad) {a0_ : Nat} {M : sg_M} (hq0 : sg_K Yr a0_ 11) : ∀ res, fX11_grid N a0_ M = some res → sg_cI Yr ad V yX11_grid cX11_grid 2 .int 10 [.ref (ad a0_)] M res := fun res h => sg_bodyI (by decide) hi (Nat.le_of_ble_eq_true rfl) (fun X hX C E => by subst hX; exact tX11_grid C E _  _ hq0 h)
def bX11_comesTo_13 (N : Nat) (k4 : (Nat × Int32 × Int32) → sg_M → Option (Int32 × sg_M)) (k13 : (Nat × Int32 × Int32 × Int32) → sg_M → Option (Int32 × sg_M)) (s : Nat × Int32 × Int32 × Int32) (M : sg_M) : Option (Int32 × sg_M) :=
  if (M.1 s.1 8) ≤ s.2.2.2 then (
  k4 (s.1, s.2.1, s.2.2.1) M) else (
  if sg_ib ((2 : Int32) * s.2.2.2) (Yr.2.2.1 (Yr.2.2.2 s.1 7)) = true then
  sg_b (fX11_isOf N s.2.1 (M.1 (Yr.2.2.2 s.1 7) (((2 : Int32) * s.2.2.2)).toNatClampNeg) M) (fun (x2 : Int32) (M1 : sg_M) =>
  sg_m x2 (fun x3 : Int32 =>
  if sg_ib (((2 : Int32) * s.2.2.2) + (1 : Int32)) (Yr.2.2.1 (Yr.2.2.2 s.1 7)) = true then
  sg_b (fX11_isOf N s.2.1 (M1.1 (Yr.2.2.2 s.1 7) ((((2 : Int32) * s.2.2.2) + (1 : Int32))).toNatClampNeg) M1) (fun (x5 : Int32) (M4 : sg_M) =>
  sg_m x5 (fun x6 : Int32 =>
  if sg_ib ((28 : Int32) + s.2.2.2) (Yr.2.2.1 (Yr.2.2.2 s.1 1)) = true then
  if (M4.1 (Yr.2.2.2 s.1 1) (((28 : Int32) + s.2.2.2)).toNatClampNeg) = 0 then (
  sg_m (s.2.2.2 + (1 : Int32)) (fun x7 : Int32 =>
  k13 (s.1, s.2.1, s.2.2.1, x7) M4)) else (
  if x3 = x6 then (
  sg_m (s.2.2.2 + (1 : Int32)) (fun x8 : Int32 =>
  k13 (s.1, s.2.1, s.2.2.1, x8) M4)) else (
  if sg_ib ((2 : Int32) * s.2.2.2) (Yr.2.2.1 (Yr.2.2.2 s.1 7)) = true then
  if sg_ib (((2 : Int32) * s.2.2.2) + (1 : Int32)) (Yr.2.2.1 (Yr.2.2.2 s.1 7)) = true then
  sg_m (s.2.1 ||| (((1 : Int32) <<< ((M4.1 (Yr.2.2.2 s.1 7) (((2 : Int32) * s.2.2.2)).toNatClampNeg) &&& 31)) ||| ((1 : Int32) <<< ((M4.1 (Yr.2.2.2 s.1 7) ((((2 : Int32) * s.2.2.2) + (1 : Int32))).toNatClampNeg) &&& 31)))) (fun x9 : Int32 =>
  sg_m (1 : Int32) (fun x10 : Int32 =>
  sg_m (s.2.2.2 + (1 : Int32)) (fun x11 : Int32 =>
  k13 (s.1, x9, x10, x11) M4)))
  else none
  else none))
  else none))
  else none))
  else none)
def gX11_comesTo_13 (N : Nat) (k4 : (Nat × Int32 × Int32) → sg_M → Option (Int32 × sg_M)) : (Nat × Int32 × Int32 × Int32) → sg_M → Option (Int32 × sg_M) := sg_lp (bX11_comesTo_13 N k4) N
set_option maxHeartbeats 4000000 in
set_option maxRecDepth 100000 in
theorem tX11_comesTo_13 {ad : Nat → Nat} {X : sg_X} {N : Nat} {r : Int32 × sg_M} (C : sg_C Yr ad X cX11_comesTo RX11 7 1) (E : sg_eI Yr ad X cX11_comesTo .int r) {k4 : (Nat × Int32 × Int32) → sg_M → Option (Int32 × sg_M)} (hk4 : ∀ (s : Nat × Int32 × Int32) (M : sg_M), k4 s M = some r → sg_K Yr s.1 11 → sg_T Yr ad X 7 4 [(0, .ref (ad (s.1))), (2, .int (s.2.1)), (3, .int (s.2.2))] [] M) : ∀ (s : Nat × Int32 × Int32 × Int32) (M : sg_M), gX11_comesTo_13 N k4 s M = some r → sg_K Yr s.1 11 → sg_T Yr ad X 7 13 [(0, .ref (ad (s.1))), (2, .int (s.2.1)), (3, .int (s.2.2.1)), (4, .int (s.2.2.2))] [] M := by
  have key : ∀ n : Nat, ∀ (s : Nat × Int32 × Int32 × Int32) (M : sg_M), sg_lp (bX11_comesTo_13 N k4) n s M = some r → sg_K Yr s.1 11 → sg_T Yr ad X 7 13 [(0, .ref (ad (s.1))), (2, .int (s.2.1)), (3, .int (s.2.2.1)), (4, .int (s.2.2.2))] [] M := by
    intro n
    induction n with
    | zero => intro s M h; cases h
    | succ n ih =>
      intro s M h hq0
      have h : bX11_comesTo_13 N k4 (sg_lp (bX11_comesTo_13 N k4) n) s M = some r := h
      generalize sg_lp (bX11_comesTo_13 N k4) n = k13 at h ih
      have hk13 := ih
      unfold bX11_comesTo_13 at h
      refine i_iload C dX11_comesTo_13 3 rfl ?_
      refine i_aload_n C dX11_comesTo_15 0 rfl ?_
      refine gf11_102 C hq0 dX11_comesTo_16 ?_
      refine s_icmp_ge C 113 (by decide) dX11_comesTo_19 h (fun _ h => ?_) (fun _ h => ?_)
      · refine s_goto C 4 (by decide) dX11_comesTo_113 ?_
        exact sg_T.to (hk4 _ _ h hq0) [0, 1, 2] rfl
      · refine i_iload_n C dX11_comesTo_22 1 rfl ?_
        refine i_aload_n C dX11_comesTo_23 0 rfl ?_
        refine gf11_26 C hq0 dX11_comesTo_24 ?_
        refine s_iconst C (2 : Int32) dX11_comesTo_27 (by decide) ?_
        refine i_iload C dX11_comesTo_28 3 rfl ?_
        refine s_imul C dX11_comesTo_30 ?_
        refine s_iald C (ky11_7 hq0) dX11_comesTo_31 h (fun h => ?_)
        refine s_scI C [_, _] smX11_isOf lkX11_209 (by decide) rfl rfl (Nat.le_of_ble_eq_true rfl) dX11_comesTo_32 (ctX11_isOf C.inj ) h (fun x2 M1 h => ?_)
        refine z_gi h (fun x3 h => ?_)
        refine i_istore (lv9 := [(5, _), (0, _), (2, _), (3, _), (4, _)]) C dX11_comesTo_35 (by decide) rfl ?_
        refine i_iload_n C dX11_comesTo_37 2 rfl ?_
        refine i_aload_n C dX11_comesTo_38 1 rfl ?_
        refine gf11_26 C hq0 dX11_comesTo_39 ?_
        refine s_iconst C (2 : Int32) dX11_comesTo_42 (by decide) ?_
        refine i_iload C dX11_comesTo_43 4 rfl ?_
        refine s_imul C dX11_comesTo_45 ?_
        refine s_iconst C (1 : Int32) dX11_comesTo_46 (by decide) ?_
        refine s_iadd C dX11_comesTo_47 ?_
        refine s_iald C (ky11_7 hq0) dX11_comesTo_48 h (fun h => ?_)
        refine s_scI C [_, _] smX11_isOf lkX11_209 (by decide) rfl rfl (Nat.le_of_ble_eq_true rfl) dX11_comesTo_49 (ctX11_isOf C.inj ) h (fun x5 M4 h => ?_)
        refine z_gi h (fun x6 h => ?_)
        refine i_istore (lv9 := [(6, _), (5, _), (0, _), (2, _), (3, _), (4, _)]) C dX11_comesTo_52 (by decide) rfl ?_
        refine i_aload_n C dX11_comesTo_54 2 rfl ?_
        refine gf11_9 C hq0 dX11_comesTo_55 ?_
        refine s_bipush C (28 : Int32) dX11_comesTo_58 (by decide) ?_
        refine i_iload C dX11_comesTo_60 5 rfl ?_
        refine s_iadd C dX11_comesTo_62 ?_
        refine s_iald C (ky11_1 hq0) dX11_comesTo_63 h (fun h => ?_)
        refine s_if_eq C 107 (by decide) dX11_comesTo_64 h (fun _ h => ?_) (fun _ h => ?_)
        · refine z_iinc (n := 1) (c9 := (1 : Int32)) (by decide) h (fun x7 hx h => ?_)
          refine i_iinc (lv9 := [(4, _), (6, _), (5, _), (0, _), (2, _), (3, _)]) C dX11_comesTo_107 5 rfl hx (by decide) rfl ?_
          refine s_goto C 13 (by decide) dX11_comesTo_110 ?_
          exact sg_T.to (hk13 _ _ h hq0) [3, 4, 5, 0] rfl
        · refine i_iload C dX11_comesTo_67 1 rfl ?_
          refine i_iload C dX11_comesTo_69 0 rfl ?_
          refine s_icmp_ne C 77 (by decide) dX11_comesTo_71 h (fun _ h => ?_) (fun _ h => ?_)
          · refine s_goto C 107 (by decide) dX11_comesTo_74 ?_
            refine z_iinc (n := 1) (c9 := (1 : Int32)) (by decide) h (fun x8 hx h => ?_)
            refine i_iinc (lv9 := [(4, _), (6, _), (5, _), (0, _), (2, _), (3, _)]) C dX11_comesTo_107 5 rfl hx (by decide) rfl ?_
            refine s_goto C 13 (by decide) dX11_comesTo_110 ?_
            exact sg_T.to (hk13 _ _ h hq0) [3, 4, 5, 0] rfl
          · refine i_iload_n C dX11_comesTo_77 3 rfl ?_
            refine s_iconst C (1 : Int32) dX11_comesTo_78 (by decide) ?_
            refine i_aload_n C dX11_comesTo_79 2 rfl ?_
            refine gf11_26 C hq0 dX11_comesTo_80 ?_
            refine s_iconst C (2 : Int32) dX11_comesTo_83 (by decide) ?_
            refine i_iload C dX11_comesTo_84 5 rfl ?_
            refine s_imul C dX11_comesTo_86 ?_
            refine s_iald C (ky11_7 hq0) dX11_comesTo_87 h (fun h => ?_)
            refine s_ishl C dX11_comesTo_88 ?_
            refine s_iconst C (1 : Int32) dX11_comesTo_89 (by decide) ?_
            refine i_aload_n C dX11_comesTo_90 2 rfl ?_
            refine gf11_26 C hq0 dX11_comesTo_91 ?_
            refine s_iconst C (2 : Int32) dX11_comesTo_94 (by decide) ?_
            refine i_iload C dX11_comesTo_95 5 rfl ?_
            refine s_imul C dX11_comesTo_97 ?_
            refine s_iconst C (1 : Int32) dX11_comesTo_98 (by decide) ?_
            refine s_iadd C dX11_comesTo_99 ?_
            refine s_iald C (ky11_7 hq0) dX11_comesTo_100 h (fun h => ?_)
            refine s_ishl C dX11_comesTo_101 ?_
            refine s_ior C dX11_comesTo_102 ?_
            refine s_ior C dX11_comesTo_103 ?_
            refine z_gi h (fun x9 h => ?_)
            refine i_istore_n (lv9 := [(2, _), (6, _), (5, _), (0, _), (3, _), (4, _)]) C 2 dX11_comesTo_104 rfl (by decide) rfl ?_
            refine s_iconst C (1 : Int32) dX11_comesTo_105 (by decide) ?_
            refine z_gi h (fun x10 h => ?_)
            refine i_istore_n (lv9 := [(3, _), (2, _), (6, _), (5, _), (0, _), (4, _)]) C 3 dX11_comesTo_106 rfl (by decide) rfl ?_
            refine z_iinc (n := 1) (c9 := (1 : Int32)) (by decide) h (fun x11 hx h => ?_)
            refine i_iinc (lv9 := [(4, _), (3, _), (2, _), (6, _), (5, _), (0, _)]) C dX11_comesTo_107 5 rfl hx (by decide) rfl ?_
            refine s_goto C 13 (by decide) dX11_comesTo_110 ?_
            exact sg_T.to (hk13 _ _ h hq0) [5, 2, 1, 0] rfl
  exact key N
def bX11_comesTo_4 (N : Nat)  (k4 : (Nat × Int32 × Int32) → sg_M → Option (Int32 × sg_M)) (s : Nat × Int32 × Int32) (M : sg_M) : Option (Int32 × sg_M) :=
  if s.2.2 = 0 then (
  some (s.2.1, M)) else (
  sg_m (0 : Int32) (fun x12 : Int32 =>
  sg_m (0 : Int32) (fun x13 : Int32 =>
  gX11_comesTo_13 N k4 (s.1, s.2.1, x12, x13) M)))
def gX11_comesTo_4 (N : Nat)  : (Nat × Int32 × Int32) → sg_M → Option (Int32 × sg_M) := sg_lp (bX11_comesTo_4 N ) N
set_option maxHeartbeats 4000000 in
set_option maxRecDepth 100000 in
theorem tX11_comesTo_4 {ad : Nat → Nat} {X : sg_X} {N : Nat} {r : Int32 × sg_M} (C : sg_C Yr ad X cX11_comesTo RX11 7 1) (E : sg_eI Yr ad X cX11_comesTo .int r)  : ∀ (s : Nat × Int32 × Int32) (M : sg_M), gX11_comesTo_4 N s M = some r → sg_K Yr s.1 11 → sg_T Yr ad X 7 4 [(0, .ref (ad (s.1))), (2, .int (s.2.1)), (3, .int (s.2.2))] [] M := by
  have key : ∀ n : Nat, ∀ (s : Nat × Int32 × Int32) (M : sg_M), sg_lp (bX11_comesTo_4 N) n s M = some r → sg_K Yr s.1 11 → sg_T Yr ad X 7 4 [(0, .ref (ad (s.1))), (2, .int (s.2.1)), (3, .int (s.2.2))] [] M := by
    intro n
    induction n with
    | zero => intro s M h; cases h
    | succ n ih =>
      intro s M h hq0
      have h : bX11_comesTo_4 N (sg_lp (bX11_comesTo_4 N) n) s M = some r := h
      generalize sg_lp (bX11_comesTo_4 N) n = k4 at h ih
      have hk4 := ih
      unfold bX11_comesTo_4 at h
      refine i_iload_n C dX11_comesTo_4 2 rfl ?_
      refine s_if_eq C 116 (by decide) dX11_comesTo_5 h (fun _ h => ?_) (fun _ h => ?_)
      · refine i_iload_n C dX11_comesTo_116 1 rfl ?_
        exact s_iret C E dX11_comesTo_117 h
      · refine s_iconst C (0 : Int32) dX11_comesTo_8 (by decide) ?_
        refine z_gi h (fun x12 h => ?_)
        refine i_istore_n (lv9 := [(3, _), (0, _), (2, _)]) C 3 dX11_comesTo_9 rfl (by decide) rfl ?_
        refine s_iconst C (0 : Int32) dX11_comesTo_10 (by decide) ?_
        refine z_gi h (fun x13 h => ?_)
        refine i_istore (lv9 := [(4, _), (3, _), (0, _), (2, _)]) C dX11_comesTo_11 (by decide) rfl ?_
        exact sg_T.to (tX11_comesTo_13 C E hk4 _ _ h hq0) [2, 3, 1, 0] rfl
  exact key N
def fX11_comesTo (N : Nat) (a0_ : Nat) (x1_ : Int32) (M : sg_M) : Option (Int32 × sg_M) :=
  sg_m x1_ (fun x14 : Int32 =>
  sg_m (1 : Int32) (fun x15 : Int32 =>
  gX11_comesTo_4 N (a0_, x14, x15) M))
set_option maxHeartbeats 4000000 in
set_option maxRecDepth 100000 in
theorem tX11_comesTo {ad : Nat → Nat} {X : sg_X} {N : Nat} {r : Int32 × sg_M} (C : sg_C Yr ad X cX11_comesTo RX11 7 1) (E : sg_eI Yr ad X cX11_comesTo .int r) : ∀ (a0_ : Nat) (x1_ : Int32) (M : sg_M), sg_K Yr a0_ 11 → fX11_comesTo N a0_ x1_ M = some r → sg_T Yr ad X 7 0 [(0, .ref (ad a0_)), (1, .int x1_)] [] M := by
  intro a0_ x1_ M hq0 h
  unfold fX11_comesTo at h
  refine i_iload_n C dX11_comesTo_0 1 rfl ?_
  refine z_gi h (fun x14 h => ?_)
  refine i_istore_n (lv9 := [(2, _), (0, _), (1, _)]) C 2 dX11_comesTo_1 rfl (by decide) rfl ?_
  refine s_iconst C (1 : Int32) dX11_comesTo_2 (by decide) ?_
  refine z_gi h (fun x15 h => ?_)
  refine i_istore_n (lv9 := [(3, _), (2, _), (0, _), (1, _)]) C 3 dX11_comesTo_3 rfl (by decide) rfl ?_
  exact sg_T.to (tX11_comesTo_4 C E _ _ h hq0) [2, 1, 0] rfl
theorem ctX11_comesTo {ad : Nat → Nat} {V : sg_V} {N : Nat} (hi : sg_inj Yr ad) {a0_ : Nat} {x1_ : Int32} {M : sg_M} (hq0 : sg_K Yr a0_ 11) : ∀ res, fX11_comesTo N a0_ x1_ M = some res → sg_cI Yr ad V yX11_comesTo cX11_comesTo 7 .int 1 [.ref (ad a0_), .int x1_] M res := fun res h => sg_bodyI (by decide) hi (Nat.le_of_ble_eq_true rfl) (fun X hX C E => by subst hX; exact tX11_comesTo C E _ _  _ hq0 h)
def gX11_laysCells_147 (N : Nat) (k55 : (Nat × Int32) → sg_M → Option (sg_M)) (a0_ : Nat) (x1_ : Int32) (x2_ : Int32) (x3_ : Int32) (x4_ : Int64) (M : sg_M) : Option (sg_M) :=
  if x2_ = (-1 : Int32) then (
  sg_m (x1_ + (1 : Int32)) (fun x1 : Int32 =>
  k55 (a0_, x1) M)) else (
  if x3_ = (-1 : Int32) then (
  sg_m (x1_ + (1 : Int32)) (fun x2 : Int32 =>
  k55 (a0_, x2) M)) else (
  if sg_ib (((18 : Int32) * x2_) + x3_) (Yr.2.2.1 (Yr.2.2.2 a0_ 25)) = true then
  if sg_ib (((18 : Int32) * x2_) + x3_) (Yr.2.2.1 (Yr.2.2.2 a0_ 25)) = true then
  sg_m (sg_uJ M (Yr.2.2.2 a0_ 25) ((((18 : Int32) * x2_) + x3_)).toNatClampNeg ((M.2 (Yr.2.2.2 a0_ 25) ((((18 : Int32) * x2_) + x3_)).toNatClampNeg) - x4_)) (fun M3 : sg_M =>
  if sg_ib (((18 : Int32) * x3_) + x2_) (Yr.2.2.1 (Yr.2.2.2 a0_ 25)) = true then
  if sg_ib (((18 : Int32) * x3_) + x2_) (Yr.2.2.1 (Yr.2.2.2 a0_ 25)) = true then
  sg_m (sg_uJ M3 (Yr.2.2.2 a0_ 25) ((((18 : Int32) * x3_) + x2_)).toNatClampNeg ((M3.2 (Yr.2.2.2 a0_ 25) ((((18 : Int32) * x3_) + x2_)).toNatClampNeg) - x4_)) (fun M4 : sg_M =>
  sg_m (x1_ + (1 : Int32)) (fun x5 : Int32 =>
  k55 (a0_, x5) M4))
  else none
  else none)
  else none
  else none))
set_option maxHeartbeats 4000000 in
set_option maxRecDepth 100000 in
theorem tX11_laysCells_147 {ad : Nat → Nat} {X : sg_X} {N : Nat} {r : sg_M} (C : sg_C Yr ad X cX11_laysCells RX11 6 0) (E : sg_eV Yr ad X cX11_laysCells r) {k55 : (Nat × Int32) → sg_M → Option (sg_M)} (hk55 : ∀ (s : Nat × Int32) (M : sg_M), k55 s M = some r → sg_K Yr s.1 11 → sg_T Yr ad X 6 55 [(0, .ref (ad (s.1))), (1, .int (s.2))] [] M) : ∀ (a0_ : Nat) (x1_ : Int32) (x2_ : Int32) (x3_ : Int32) (x4_ : Int64) (M : sg_M), gX11_laysCells_147 N k55 a0_ x1_ x2_ x3_ x4_ M = some r → sg_K Yr a0_ 11 → sg_T Yr ad X 6 147 [(0, .ref (ad a0_)), (1, .int x1_), (2, .int x2_), (3, .int x3_), (4, .long x4_)] [] M := by
  intro a0_ x1_ x2_ x3_ x4_ M h hq0
  unfold gX11_laysCells_147 at h
  refine i_iload_n C dX11_laysCells_147 2 rfl ?_
  refine s_iconst C (-1 : Int32) dX11_laysCells_148 (by decide) ?_
  refine s_icmp_eq C 192 (by decide) dX11_laysCells_149 h (fun _ h => ?_) (fun _ h => ?_)
  · refine z_iinc (n := 1) (c9 := (1 : Int32)) (by decide) h (fun x1 hx h => ?_)
    refine i_iinc (lv9 := [(1, _), (0, _), (2, _), (3, _), (4, _)]) C dX11_laysCells_192 1 rfl hx (by decide) rfl ?_
    refine s_goto C 55 (by decide) dX11_laysCells_195 ?_
    exact sg_T.to (hk55 _ _ h hq0) [1, 0] rfl
  · refine i_iload_n C dX11_laysCells_152 3 rfl ?_
    refine s_iconst C (-1 : Int32) dX11_laysCells_153 (by decide) ?_
    refine s_icmp_ne C 160 (by decide) dX11_laysCells_154 h (fun _ h => ?_) (fun _ h => ?_)
    · refine s_goto C 192 (by decide) dX11_laysCells_157 ?_
      refine z_iinc (n := 1) (c9 := (1 : Int32)) (by decide) h (fun x2 hx h => ?_)
      refine i_iinc (lv9 := [(1, _), (0, _), (2, _), (3, _), (4, _)]) C dX11_laysCells_192 1 rfl hx (by decide) rfl ?_
      refine s_goto C 55 (by decide) dX11_laysCells_195 ?_
      exact sg_T.to (hk55 _ _ h hq0) [1, 0] rfl
    · refine i_aload_n C dX11_laysCells_160 0 rfl ?_
      refine gf11_46 C hq0 dX11_laysCells_161 ?_
      refine s_bipush C (18 : Int32) dX11_laysCells_164 (by decide) ?_
      refine i_iload_n C dX11_laysCells_166 2 rfl ?_
      refine s_imul C dX11_laysCells_167 ?_
      refine i_iload_n C dX11_laysCells_168 3 rfl ?_
      refine s_iadd C dX11_laysCells_169 ?_
      refine s_dup2 C dX11_laysCells_170 rfl rfl ?_
      refine s_lald C (ky11_25 hq0) dX11_laysCells_171 h (fun h => ?_)
      refine i_lload C dX11_laysCells_172 4 rfl ?_
      refine s_lsub C dX11_laysCells_174 ?_
      refine s_last C (ky11_25 hq0) dX11_laysCells_175 h (fun h => ?_)
      refine z_gM h (fun M3 h => ?_)
      refine i_aload_n C dX11_laysCells_176 0 rfl ?_
      refine gf11_46 C hq0 dX11_laysCells_177 ?_
      refine s_bipush C (18 : Int32) dX11_laysCells_180 (by decide) ?_
      refine i_iload_n C dX11_laysCells_182 3 rfl ?_
      refine s_imul C dX11_laysCells_183 ?_
      refine i_iload_n C dX11_laysCells_184 2 rfl ?_
      refine s_iadd C dX11_laysCells_185 ?_
      refine s_dup2 C dX11_laysCells_186 rfl rfl ?_
      refine s_lald C (ky11_25 hq0) dX11_laysCells_187 h (fun h => ?_)
      refine i_lload C dX11_laysCells_188 4 rfl ?_
      refine s_lsub C dX11_laysCells_190 ?_
      refine s_last C (ky11_25 hq0) dX11_laysCells_191 h (fun h => ?_)
      refine z_gM h (fun M4 h => ?_)
      refine z_iinc (n := 1) (c9 := (1 : Int32)) (by decide) h (fun x5 hx h => ?_)
      refine i_iinc (lv9 := [(1, _), (0, _), (2, _), (3, _), (4, _)]) C dX11_laysCells_192 1 rfl hx (by decide) rfl ?_
      refine s_goto C 55 (by decide) dX11_laysCells_195 ?_
      exact sg_T.to (hk55 _ _ h hq0) [1, 0] rfl
def gX11_laysCells_126 (N : Nat) (k55 : (Nat × Int32) → sg_M → Option (sg_M)) (a0_ : Nat) (x1_ : Int32) (x2_ : Int32) (x3_ : Int32) (x4_ : Int64) (M : sg_M) : Option (sg_M) :=
  if x3_ = (-1 : Int32) then (
  gX11_laysCells_147 N k55 a0_ x1_ x2_ x3_ x4_ M) else (
  if sg_ib (((18 : Int32) * x3_) + x3_) (Yr.2.2.1 (Yr.2.2.2 a0_ 25)) = true then
  if sg_ib (((18 : Int32) * x3_) + x3_) (Yr.2.2.1 (Yr.2.2.2 a0_ 25)) = true then
  sg_m (sg_uJ M (Yr.2.2.2 a0_ 25) ((((18 : Int32) * x3_) + x3_)).toNatClampNeg ((M.2 (Yr.2.2.2 a0_ 25) ((((18 : Int32) * x3_) + x3_)).toNatClampNeg) + x4_)) (fun M6 : sg_M =>
  gX11_laysCells_147 N k55 a0_ x1_ x2_ x3_ x4_ M6)
  else none
  else none)
set_option maxHeartbeats 4000000 in
set_option maxRecDepth 100000 in
theorem tX11_laysCells_126 {ad : Nat → Nat} {X : sg_X} {N : Nat} {r : sg_M} (C : sg_C Yr ad X cX11_laysCells RX11 6 0) (E : sg_eV Yr ad X cX11_laysCells r) {k55 : (Nat × Int32) → sg_M → Option (sg_M)} (hk55 : ∀ (s : Nat × Int32) (M : sg_M), k55 s M = some r → sg_K Yr s.1 11 → sg_T Yr ad X 6 55 [(0, .ref (ad (s.1))), (1, .int (s.2))] [] M) : ∀ (a0_ : Nat) (x1_ : Int32) (x2_ : Int32) (x3_ : Int32) (x4_ : Int64) (M : sg_M), gX11_laysCells_126 N k55 a0_ x1_ x2_ x3_ x4_ M = some r → sg_K Yr a0_ 11 → sg_T Yr ad X 6 126 [(0, .ref (ad a0_)), (1, .int x1_), (2, .int x2_), (3, .int x3_), (4, .long x4_)] [] M := by
  intro a0_ x1_ x2_ x3_ x4_ M h hq0
  unfold gX11_laysCells_126 at h
  refine i_iload_n C dX11_laysCells_126 3 rfl ?_
  refine s_iconst C (-1 : Int32) dX11_laysCells_127 (by decide) ?_
  refine s_icmp_eq C 147 (by decide) dX11_laysCells_128 h (fun _ h => ?_) (fun _ h => ?_)
  · exact sg_T.to (tX11_laysCells_147 C E hk55 _ _ _ _ _ _ h hq0) [0, 1, 2, 3, 4] rfl
  · refine i_aload_n C dX11_laysCells_131 0 rfl ?_
    refine gf11_46 C hq0 dX11_laysCells_132 ?_
    refine s_bipush C (18 : Int32) dX11_laysCells_135 (by decide) ?_
    refine i_iload_n C dX11_laysCells_137 3 rfl ?_
    refine s_imul C dX11_laysCells_138 ?_
    refine i_iload_n C dX11_laysCells_139 3 rfl ?_
    refine s_iadd C dX11_laysCells_140 ?_
    refine s_dup2 C dX11_laysCells_141 rfl rfl ?_
    refine s_lald C (ky11_25 hq0) dX11_laysCells_142 h (fun h => ?_)
    refine i_lload C dX11_laysCells_143 4 rfl ?_
    refine s_ladd C dX11_laysCells_145 ?_
    refine s_last C (ky11_25 hq0) dX11_laysCells_146 h (fun h => ?_)
    refine z_gM h (fun M6 h => ?_)
    exact sg_T.to (tX11_laysCells_147 C E hk55 _ _ _ _ _ _ h hq0) [0, 1, 2, 3, 4] rfl
def bX11_laysCells_55 (N : Nat)  (k55 : (Nat × Int32) → sg_M → Option (sg_M)) (s : Nat × Int32) (M : sg_M) : Option (sg_M) :=
  if (M.1 s.1 8) ≤ s.2 then (
  some M) else (
  if sg_ib ((2 : Int32) * s.2) (Yr.2.2.1 (Yr.2.2.2 s.1 7)) = true then
  if sg_ib (M.1 (Yr.2.2.2 s.1 7) (((2 : Int32) * s.2)).toNatClampNeg) (Yr.2.2.1 (Yr.2.2.2 s.1 22)) = true then
  sg_m (M.1 (Yr.2.2.2 s.1 22) ((M.1 (Yr.2.2.2 s.1 7) (((2 : Int32) * s.2)).toNatClampNeg)).toNatClampNeg) (fun x7 : Int32 =>
  if sg_ib (((2 : Int32) * s.2) + (1 : Int32)) (Yr.2.2.1 (Yr.2.2.2 s.1 7)) = true then
  if sg_ib (M.1 (Yr.2.2.2 s.1 7) ((((2 : Int32) * s.2) + (1 : Int32))).toNatClampNeg) (Yr.2.2.1 (Yr.2.2.2 s.1 22)) = true then
  sg_m (M.1 (Yr.2.2.2 s.1 22) ((M.1 (Yr.2.2.2 s.1 7) ((((2 : Int32) * s.2) + (1 : Int32))).toNatClampNeg)).toNatClampNeg) (fun x8 : Int32 =>
  if sg_ib ((28 : Int32) + s.2) (Yr.2.2.1 (Yr.2.2.2 s.1 1)) = true then
  sg_m ((M.1 (Yr.2.2.2 s.1 1) (((28 : Int32) + s.2)).toNatClampNeg)).toInt64 (fun x9 : Int64 =>
  if x7 = (-1 : Int32) then (
  gX11_laysCells_126 N k55 s.1 s.2 x7 x8 x9 M) else (
  if sg_ib (((18 : Int32) * x7) + x7) (Yr.2.2.1 (Yr.2.2.2 s.1 25)) = true then
  if sg_ib (((18 : Int32) * x7) + x7) (Yr.2.2.1 (Yr.2.2.2 s.1 25)) = true then
  sg_m (sg_uJ M (Yr.2.2.2 s.1 25) ((((18 : Int32) * x7) + x7)).toNatClampNeg ((M.2 (Yr.2.2.2 s.1 25) ((((18 : Int32) * x7) + x7)).toNatClampNeg) + x9)) (fun M10 : sg_M =>
  gX11_laysCells_126 N k55 s.1 s.2 x7 x8 x9 M10)
  else none
  else none))
  else none)
  else none
  else none)
  else none
  else none)
def gX11_laysCells_55 (N : Nat)  : (Nat × Int32) → sg_M → Option (sg_M) := sg_lp (bX11_laysCells_55 N ) N
set_option maxHeartbeats 4000000 in
set_option maxRecDepth 100000 in
theorem tX11_laysCells_55 {ad : Nat → Nat} {X : sg_X} {N : Nat} {r : sg_M} (C : sg_C Yr ad X cX11_laysCells RX11 6 0) (E : sg_eV Yr ad X cX11_laysCells r)  : ∀ (s : Nat × Int32) (M : sg_M), gX11_laysCells_55 N s M = some r → sg_K Yr s.1 11 → sg_T Yr ad X 6 55 [(0, .ref (ad (s.1))), (1, .int (s.2))] [] M := by
  have key : ∀ n : Nat, ∀ (s : Nat × Int32) (M : sg_M), sg_lp (bX11_laysCells_55 N) n s M = some r → sg_K Yr s.1 11 → sg_T Yr ad X 6 55 [(0, .ref (ad (s.1))), (1, .int (s.2))] [] M := by
    intro n
    induction n with
    | zero => intro s M h; cases h
    | succ n ih =>
      intro s M h hq0
      have h : bX11_laysCells_55 N (sg_lp (bX11_laysCells_55 N) n) s M = some r := h
      generalize sg_lp (bX11_laysCells_55 N) n = k55 at h ih
      have hk55 := ih
      unfold bX11_laysCells_55 at h
      refine i_iload_n C dX11_laysCells_55 1 rfl ?_
      refine i_aload_n C dX11_laysCells_56 0 rfl ?_
      refine gf11_102 C hq0 dX11_laysCells_57 ?_
      refine s_icmp_ge C 198 (by decide) dX11_laysCells_60 h (fun _ h => ?_) (fun _ h => ?_)
      · exact s_vret C E dX11_laysCells_198 h
      · refine i_aload_n C dX11_laysCells_63 0 rfl ?_
        refine gf11_40 C hq0 dX11_laysCells_64 ?_
        refine i_aload_n C dX11_laysCells_67 0 rfl ?_
        refine gf11_26 C hq0 dX11_laysCells_68 ?_
        refine s_iconst C (2 : Int32) dX11_laysCells_71 (by decide) ?_
        refine i_iload_n C dX11_laysCells_72 1 rfl ?_
        refine s_imul C dX11_laysCells_73 ?_
        refine s_iald C (ky11_7 hq0) dX11_laysCells_74 h (fun h => ?_)
        refine s_iald C (ky11_22 hq0) dX11_laysCells_75 h (fun h => ?_)
        refine z_gi h (fun x7 h => ?_)
        refine i_istore_n (lv9 := [(2, _), (0, _), (1, _)]) C 2 dX11_laysCells_76 rfl (by decide) rfl ?_
        refine i_aload_n C dX11_laysCells_77 1 rfl ?_
        refine gf11_40 C hq0 dX11_laysCells_78 ?_
        refine i_aload_n C dX11_laysCells_81 1 rfl ?_
        refine gf11_26 C hq0 dX11_laysCells_82 ?_
        refine s_iconst C (2 : Int32) dX11_laysCells_85 (by decide) ?_
        refine i_iload_n C dX11_laysCells_86 2 rfl ?_
        refine s_imul C dX11_laysCells_87 ?_
        refine s_iconst C (1 : Int32) dX11_laysCells_88 (by decide) ?_
        refine s_iadd C dX11_laysCells_89 ?_
        refine s_iald C (ky11_7 hq0) dX11_laysCells_90 h (fun h => ?_)
        refine s_iald C (ky11_22 hq0) dX11_laysCells_91 h (fun h => ?_)
        refine z_gi h (fun x8 h => ?_)
        refine i_istore_n (lv9 := [(3, _), (2, _), (0, _), (1, _)]) C 3 dX11_laysCells_92 rfl (by decide) rfl ?_
        refine i_aload_n C dX11_laysCells_93 2 rfl ?_
        refine gf11_9 C hq0 dX11_laysCells_94 ?_
        refine s_bipush C (28 : Int32) dX11_laysCells_97 (by decide) ?_
        refine i_iload_n C dX11_laysCells_99 3 rfl ?_
        refine s_iadd C dX11_laysCells_100 ?_
        refine s_iald C (ky11_1 hq0) dX11_laysCells_101 h (fun h => ?_)
        refine s_i2l C dX11_laysCells_102 ?_
        refine z_gl h (fun x9 h => ?_)
        refine i_lstore (lv9 := [(4, _), (3, _), (2, _), (0, _), (1, _)]) C dX11_laysCells_103 (by decide) rfl ?_
        refine i_iload_n C dX11_laysCells_105 2 rfl ?_
        refine s_iconst C (-1 : Int32) dX11_laysCells_106 (by decide) ?_
        refine s_icmp_eq C 126 (by decide) dX11_laysCells_107 h (fun _ h => ?_) (fun _ h => ?_)
        · exact sg_T.to (tX11_laysCells_126 C E hk55 _ _ _ _ _ _ h hq0) [3, 4, 2, 1, 0] rfl
        · refine i_aload_n C dX11_laysCells_110 3 rfl ?_
          refine gf11_46 C hq0 dX11_laysCells_111 ?_
          refine s_bipush C (18 : Int32) dX11_laysCells_114 (by decide) ?_
          refine i_iload_n C dX11_laysCells_116 2 rfl ?_
          refine s_imul C dX11_laysCells_117 ?_
          refine i_iload_n C dX11_laysCells_118 2 rfl ?_
          refine s_iadd C dX11_laysCells_119 ?_
          refine s_dup2 C dX11_laysCells_120 rfl rfl ?_
          refine s_lald C (ky11_25 hq0) dX11_laysCells_121 h (fun h => ?_)
          refine i_lload C dX11_laysCells_122 0 rfl ?_
          refine s_ladd C dX11_laysCells_124 ?_
          refine s_last C (ky11_25 hq0) dX11_laysCells_125 h (fun h => ?_)
          refine z_gM h (fun M10 h => ?_)
          exact sg_T.to (tX11_laysCells_126 C E hk55 _ _ _ _ _ _ h hq0) [3, 4, 2, 1, 0] rfl
  exact key N
def bX11_laysCells_24 (N : Nat)  (k24 : (Nat × Int32) → sg_M → Option (sg_M)) (s : Nat × Int32) (M : sg_M) : Option (sg_M) :=
  if (M.1 s.1 24) ≤ s.2 then (
  sg_m (0 : Int32) (fun x11 : Int32 =>
  gX11_laysCells_55 N (s.1, x11) M)) else (
  if sg_ib ((((18 : Int32) * s.2) + (9 : Int32)) + s.2) (Yr.2.2.1 (Yr.2.2.2 s.1 25)) = true then
  sg_m (sg_uJ M (Yr.2.2.2 s.1 25) (((((18 : Int32) * s.2) + (9 : Int32)) + s.2)).toNatClampNeg (1 : Int64)) (fun M12 : sg_M =>
  sg_m (s.2 + (1 : Int32)) (fun x13 : Int32 =>
  k24 (s.1, x13) M12))
  else none)
def gX11_laysCells_24 (N : Nat)  : (Nat × Int32) → sg_M → Option (sg_M) := sg_lp (bX11_laysCells_24 N ) N
set_option maxHeartbeats 4000000 in
set_option maxRecDepth 100000 in
theorem tX11_laysCells_24 {ad : Nat → Nat} {X : sg_X} {N : Nat} {r : sg_M} (C : sg_C Yr ad X cX11_laysCells RX11 6 0) (E : sg_eV Yr ad X cX11_laysCells r)  : ∀ (s : Nat × Int32) (M : sg_M), gX11_laysCells_24 N s M = some r → sg_K Yr s.1 11 → sg_T Yr ad X 6 24 [(0, .ref (ad (s.1))), (1, .int (s.2))] [] M := by
  have key : ∀ n : Nat, ∀ (s : Nat × Int32) (M : sg_M), sg_lp (bX11_laysCells_24 N) n s M = some r → sg_K Yr s.1 11 → sg_T Yr ad X 6 24 [(0, .ref (ad (s.1))), (1, .int (s.2))] [] M := by
    intro n
    induction n with
    | zero => intro s M h; cases h
    | succ n ih =>
      intro s M h hq0
      have h : bX11_laysCells_24 N (sg_lp (bX11_laysCells_24 N) n) s M = some r := h
      generalize sg_lp (bX11_laysCells_24 N) n = k24 at h ih
      have hk24 := ih
      unfold bX11_laysCells_24 at h
      refine i_iload_n C dX11_laysCells_24 1 rfl ?_
      refine i_aload_n C dX11_laysCells_25 0 rfl ?_
      refine gf11_260 C hq0 dX11_laysCells_26 ?_
      refine s_icmp_ge C 53 (by decide) dX11_laysCells_29 h (fun _ h => ?_) (fun _ h => ?_)
      · refine s_iconst C (0 : Int32) dX11_laysCells_53 (by decide) ?_
        refine z_gi h (fun x11 h => ?_)
        refine i_istore_n (lv9 := [(1, _), (0, _)]) C 1 dX11_laysCells_54 rfl (by decide) rfl ?_
        exact sg_T.to (tX11_laysCells_55 C E _ _ h hq0) [1, 0] rfl
      · refine i_aload_n C dX11_laysCells_32 0 rfl ?_
        refine gf11_46 C hq0 dX11_laysCells_33 ?_
        refine s_bipush C (18 : Int32) dX11_laysCells_36 (by decide) ?_
        refine i_iload_n C dX11_laysCells_38 1 rfl ?_
        refine s_imul C dX11_laysCells_39 ?_
        refine s_bipush C (9 : Int32) dX11_laysCells_40 (by decide) ?_
        refine s_iadd C dX11_laysCells_42 ?_
        refine i_iload_n C dX11_laysCells_43 1 rfl ?_
        refine s_iadd C dX11_laysCells_44 ?_
        refine s_lconst C (1 : Int64) dX11_laysCells_45 (by decide) ?_
        refine s_last C (ky11_25 hq0) dX11_laysCells_46 h (fun h => ?_)
        refine z_gM h (fun M12 h => ?_)
        refine z_iinc (n := 1) (c9 := (1 : Int32)) (by decide) h (fun x13 hx h => ?_)
        refine i_iinc (lv9 := [(1, _), (0, _)]) C dX11_laysCells_47 1 rfl hx (by decide) rfl ?_
        refine s_goto C 24 (by decide) dX11_laysCells_50 ?_
        exact sg_T.to (hk24 _ _ h hq0) [1, 0] rfl
  exact key N
def bX11_laysCells_2 (N : Nat)  (k2 : (Nat × Int32) → sg_M → Option (sg_M)) (s : Nat × Int32) (M : sg_M) : Option (sg_M) :=
  if (162 : Int32) ≤ s.2 then (
  sg_m (0 : Int32) (fun x14 : Int32 =>
  gX11_laysCells_24 N (s.1, x14) M)) else (
  if sg_ib s.2 (Yr.2.2.1 (Yr.2.2.2 s.1 25)) = true then
  sg_m (sg_uJ M (Yr.2.2.2 s.1 25) (s.2).toNatClampNeg (0 : Int64)) (fun M15 : sg_M =>
  sg_m (s.2 + (1 : Int32)) (fun x16 : Int32 =>
  k2 (s.1, x16) M15))
  else none)
def gX11_laysCells_2 (N : Nat)  : (Nat × Int32) → sg_M → Option (sg_M) := sg_lp (bX11_laysCells_2 N ) N
set_option maxHeartbeats 4000000 in
set_option maxRecDepth 100000 in
theorem tX11_laysCells_2 {ad : Nat → Nat} {X : sg_X} {N : Nat} {r : sg_M} (C : sg_C Yr ad X cX11_laysCells RX11 6 0) (E : sg_eV Yr ad X cX11_laysCells r)  : ∀ (s : Nat × Int32) (M : sg_M), gX11_laysCells_2 N s M = some r → sg_K Yr s.1 11 → sg_T Yr ad X 6 2 [(0, .ref (ad (s.1))), (1, .int (s.2))] [] M := by
  have key : ∀ n : Nat, ∀ (s : Nat × Int32) (M : sg_M), sg_lp (bX11_laysCells_2 N) n s M = some r → sg_K Yr s.1 11 → sg_T Yr ad X 6 2 [(0, .ref (ad (s.1))), (1, .int (s.2))] [] M := by
    intro n
    induction n with
    | zero => intro s M h; cases h
    | succ n ih =>
      intro s M h hq0
      have h : bX11_laysCells_2 N (sg_lp (bX11_laysCells_2 N) n) s M = some r := h
      generalize sg_lp (bX11_laysCells_2 N) n = k2 at h ih
      have hk2 := ih
      unfold bX11_laysCells_2 at h
      refine i_iload_n C dX11_laysCells_2 1 rfl ?_
      refine s_sipush C (162 : Int32) dX11_laysCells_3 (by decide) ?_
      refine s_icmp_ge C 22 (by decide) dX11_laysCells_6 h (fun _ h => ?_) (fun _ h => ?_)
      · refine s_iconst C (0 : Int32) dX11_laysCells_22 (by decide) ?_
        refine z_gi h (fun x14 h => ?_)
        refine i_istore_n (lv9 := [(1, _), (0, _)]) C 1 dX11_laysCells_23 rfl (by decide) rfl ?_
        exact sg_T.to (tX11_laysCells_24 C E _ _ h hq0) [1, 0] rfl
      · refine i_aload_n C dX11_laysCells_9 0 rfl ?_
        refine gf11_46 C hq0 dX11_laysCells_10 ?_
        refine i_iload_n C dX11_laysCells_13 1 rfl ?_
        refine s_lconst C (0 : Int64) dX11_laysCells_14 (by decide) ?_
        refine s_last C (ky11_25 hq0) dX11_laysCells_15 h (fun h => ?_)
        refine z_gM h (fun M15 h => ?_)
        refine z_iinc (n := 1) (c9 := (1 : Int32)) (by decide) h (fun x16 hx h => ?_)
        refine i_iinc (lv9 := [(1, _), (0, _)]) C dX11_laysCells_16 1 rfl hx (by decide) rfl ?_
        refine s_goto C 2 (by decide) dX11_laysCells_19 ?_
        exact sg_T.to (hk2 _ _ h hq0) [1, 0] rfl
  exact key N
def fX11_laysCells (N : Nat) (a0_ : Nat) (M : sg_M) : Option (sg_M) :=
  sg_m (0 : Int32) (fun x17 : Int32 =>
  gX11_laysCells_2 N (a0_, x17) M)
set_option maxHeartbeats 4000000 in
set_option maxRecDepth 100000 in
theorem tX11_laysCells {ad : Nat → Nat} {X : sg_X} {N : Nat} {r : sg_M} (C : sg_C Yr ad X cX11_laysCells RX11 6 0) (E : sg_eV Yr ad X cX11_laysCells r) : ∀ (a0_ : Nat) (M : sg_M), sg_K Yr a0_ 11 → fX11_laysCells N a0_ M = some r → sg_T Yr ad X 6 0 [(0, .ref (ad a0_))] [] M := by
  intro a0_ M hq0 h
  unfold fX11_laysCells at h
  refine s_iconst C (0 : Int32) dX11_laysCells_0 (by decide) ?_
  refine z_gi h (fun x17 h => ?_)
  refine i_istore_n (lv9 := [(1, _), (0, _)]) C 1 dX11_laysCells_1 rfl (by decide) rfl ?_
  exact sg_T.to (tX11_laysCells_2 C E _ _ h hq0) [1, 0] rfl
theorem ctX11_laysCells {ad : Nat → Nat} {V : sg_V} {N : Nat} (hi : sg_inj Yr ad) {a0_ : Nat} {M : sg_M} (hq0 : sg_K Yr a0_ 11) : ∀ res, fX11_laysCells N a0_ M = some res → sg_cV Yr ad V yX11_laysCells cX11_laysCells 6 0 [.ref (ad a0_)] M res := fun res h => sg_bodyV (by decide) hi (Nat.le_of_ble_eq_true rfl) (fun X hX C E => by subst hX; exact tX11_laysCells C E _  _ hq0 h)
def bX11_brings_56 (N : Nat) (k7 : (Nat × Int32) → sg_M → Option (sg_M)) (k30 : (Nat × Int32 × Int64 × Int32) → sg_M → Option (sg_M)) (k56 : (Nat × Int32 × Int64 × Int32 × Int64 × Int32) → sg_M → Option (sg_M)) (s : Nat × Int32 × Int64 × Int32 × Int64 × Int32) (M : sg_M) : Option (sg_M) :=
  if (18 : Int32) ≤ s.2.2.2.2.2 then (
  sg_m (s.2.2.2.1 + (1 : Int32)) (fun x1 : Int32 =>
  k30 (s.1, s.2.1, s.2.2.1, x1) M)) else (
  if s.2.2.2.1 = s.2.1 then (
  sg_m (s.2.2.2.1 + (1 : Int32)) (fun x2 : Int32 =>
  k30 (s.1, s.2.1, s.2.2.1, x2) M)) else (
  if sg_ib (((18 : Int32) * s.2.2.2.1) + s.2.2.2.2.2) (Yr.2.2.1 (Yr.2.2.2 s.1 25)) = true then
  if sg_ib (((18 : Int32) * s.2.1) + s.2.2.2.2.2) (Yr.2.2.1 (Yr.2.2.2 s.1 25)) = true then
  if (M.2 s.1 26) = 0 then none else
  if sg_ib (((18 : Int32) * s.2.2.2.1) + s.2.2.2.2.2) (Yr.2.2.1 (Yr.2.2.2 s.1 25)) = true then
  sg_m (sg_uJ M (Yr.2.2.2 s.1 25) ((((18 : Int32) * s.2.2.2.1) + s.2.2.2.2.2)).toNatClampNeg ((((M.2 (Yr.2.2.2 s.1 25) ((((18 : Int32) * s.2.2.2.1) + s.2.2.2.2.2)).toNatClampNeg) * s.2.2.1) - ((M.2 (Yr.2.2.2 s.1 25) ((((18 : Int32) * s.2.1) + s.2.2.2.2.2)).toNatClampNeg) * s.2.2.2.2.1)) / (M.2 s.1 26))) (fun M3 : sg_M =>
  sg_m (s.2.2.2.2.2 + (1 : Int32)) (fun x4 : Int32 =>
  k56 (s.1, s.2.1, s.2.2.1, s.2.2.2.1, s.2.2.2.2.1, x4) M3))
  else none
  else none
  else none))
def gX11_brings_56 (N : Nat) (k7 : (Nat × Int32) → sg_M → Option (sg_M)) (k30 : (Nat × Int32 × Int64 × Int32) → sg_M → Option (sg_M)) : (Nat × Int32 × Int64 × Int32 × Int64 × Int32) → sg_M → Option (sg_M) := sg_lp (bX11_brings_56 N k7 k30) N
set_option maxHeartbeats 4000000 in
set_option maxRecDepth 100000 in
theorem tX11_brings_56 {ad : Nat → Nat} {X : sg_X} {N : Nat} {r : sg_M} (C : sg_C Yr ad X cX11_brings RX11 8 0) (E : sg_eV Yr ad X cX11_brings r) {k7 : (Nat × Int32) → sg_M → Option (sg_M)} (hk7 : ∀ (s : Nat × Int32) (M : sg_M), k7 s M = some r → sg_K Yr s.1 11 → sg_T Yr ad X 8 7 [(0, .ref (ad (s.1))), (1, .int (s.2))] [] M) {k30 : (Nat × Int32 × Int64 × Int32) → sg_M → Option (sg_M)} (hk30 : ∀ (s : Nat × Int32 × Int64 × Int32) (M : sg_M), k30 s M = some r → sg_K Yr s.1 11 → sg_T Yr ad X 8 30 [(0, .ref (ad (s.1))), (1, .int (s.2.1)), (2, .long (s.2.2.1)), (4, .int (s.2.2.2))] [] M) : ∀ (s : Nat × Int32 × Int64 × Int32 × Int64 × Int32) (M : sg_M), gX11_brings_56 N k7 k30 s M = some r → sg_K Yr s.1 11 → sg_T Yr ad X 8 56 [(0, .ref (ad (s.1))), (1, .int (s.2.1)), (2, .long (s.2.2.1)), (4, .int (s.2.2.2.1)), (5, .long (s.2.2.2.2.1)), (7, .int (s.2.2.2.2.2))] [] M := by
  have key : ∀ n : Nat, ∀ (s : Nat × Int32 × Int64 × Int32 × Int64 × Int32) (M : sg_M), sg_lp (bX11_brings_56 N k7 k30) n s M = some r → sg_K Yr s.1 11 → sg_T Yr ad X 8 56 [(0, .ref (ad (s.1))), (1, .int (s.2.1)), (2, .long (s.2.2.1)), (4, .int (s.2.2.2.1)), (5, .long (s.2.2.2.2.1)), (7, .int (s.2.2.2.2.2))] [] M := by
    intro n
    induction n with
    | zero => intro s M h; cases h
    | succ n ih =>
      intro s M h hq0
      have h : bX11_brings_56 N k7 k30 (sg_lp (bX11_brings_56 N k7 k30) n) s M = some r := h
      generalize sg_lp (bX11_brings_56 N k7 k30) n = k56 at h ih
      have hk56 := ih
      unfold bX11_brings_56 at h
      refine i_iload C dX11_brings_56 5 rfl ?_
      refine s_bipush C (18 : Int32) dX11_brings_58 (by decide) ?_
      refine s_icmp_ge C 124 (by decide) dX11_brings_60 h (fun _ h => ?_) (fun _ h => ?_)
      · refine z_iinc (n := 1) (c9 := (1 : Int32)) (by decide) h (fun x1 hx h => ?_)
        refine i_iinc (lv9 := [(4, _), (0, _), (1, _), (2, _), (5, _), (7, _)]) C dX11_brings_124 3 rfl hx (by decide) rfl ?_
        refine s_goto C 30 (by decide) dX11_brings_127 ?_
        exact sg_T.to (hk30 _ _ h hq0) [1, 2, 3, 0] rfl
      · refine i_iload C dX11_brings_63 3 rfl ?_
        refine i_iload_n C dX11_brings_65 1 rfl ?_
        refine s_icmp_eq C 124 (by decide) dX11_brings_66 h (fun _ h => ?_) (fun _ h => ?_)
        · refine z_iinc (n := 1) (c9 := (1 : Int32)) (by decide) h (fun x2 hx h => ?_)
          refine i_iinc (lv9 := [(4, _), (0, _), (1, _), (2, _), (5, _), (7, _)]) C dX11_brings_124 3 rfl hx (by decide) rfl ?_
          refine s_goto C 30 (by decide) dX11_brings_127 ?_
          exact sg_T.to (hk30 _ _ h hq0) [1, 2, 3, 0] rfl
        · refine i_aload_n C dX11_brings_69 0 rfl ?_
          refine gf11_46 C hq0 dX11_brings_70 ?_
          refine s_bipush C (18 : Int32) dX11_brings_73 (by decide) ?_
          refine i_iload C dX11_brings_75 3 rfl ?_
          refine s_imul C dX11_brings_77 ?_
          refine i_iload C dX11_brings_78 5 rfl ?_
          refine s_iadd C dX11_brings_80 ?_
          refine i_aload_n C dX11_brings_81 0 rfl ?_
          refine gf11_46 C hq0 dX11_brings_82 ?_
          refine s_bipush C (18 : Int32) dX11_brings_85 (by decide) ?_
          refine i_iload C dX11_brings_87 3 rfl ?_
          refine s_imul C dX11_brings_89 ?_
          refine i_iload C dX11_brings_90 5 rfl ?_
          refine s_iadd C dX11_brings_92 ?_
          refine s_lald C (ky11_25 hq0) dX11_brings_93 h (fun h => ?_)
          refine i_lload_n C dX11_brings_94 2 rfl ?_
          refine s_lmul C dX11_brings_95 ?_
          refine i_aload_n C dX11_brings_96 0 rfl ?_
          refine gf11_46 C hq0 dX11_brings_97 ?_
          refine s_bipush C (18 : Int32) dX11_brings_100 (by decide) ?_
          refine i_iload_n C dX11_brings_102 1 rfl ?_
          refine s_imul C dX11_brings_103 ?_
          refine i_iload C dX11_brings_104 5 rfl ?_
          refine s_iadd C dX11_brings_106 ?_
          refine s_lald C (ky11_25 hq0) dX11_brings_107 h (fun h => ?_)
          refine i_lload C dX11_brings_108 4 rfl ?_
          refine s_lmul C dX11_brings_110 ?_
          refine s_lsub C dX11_brings_111 ?_
          refine i_aload_n C dX11_brings_112 0 rfl ?_
          refine gf11_50 C hq0 dX11_brings_113 ?_
          refine s_ldiv C dX11_brings_116 h (fun h => ?_)
          refine s_last C (ky11_25 hq0) dX11_brings_117 h (fun h => ?_)
          refine z_gM h (fun M3 h => ?_)
          refine z_iinc (n := 1) (c9 := (1 : Int32)) (by decide) h (fun x4 hx h => ?_)
          refine i_iinc (lv9 := [(7, _), (0, _), (1, _), (2, _), (4, _), (5, _)]) C dX11_brings_118 5 rfl hx (by decide) rfl ?_
          refine s_goto C 56 (by decide) dX11_brings_121 ?_
          exact sg_T.to (hk56 _ _ h hq0) [1, 2, 3, 4, 5, 0] rfl
  exact key N
def bX11_brings_30 (N : Nat) (k7 : (Nat × Int32) → sg_M → Option (sg_M)) (k30 : (Nat × Int32 × Int64 × Int32) → sg_M → Option (sg_M)) (s : Nat × Int32 × Int64 × Int32) (M : sg_M) : Option (sg_M) :=
  if (M.1 s.1 24) ≤ s.2.2.2 then (
  sg_m (sg_uJ M s.1 26 s.2.2.1) (fun M5 : sg_M =>
  sg_m (s.2.1 + (1 : Int32)) (fun x6 : Int32 =>
  k7 (s.1, x6) M5))) else (
  if sg_ib (((18 : Int32) * s.2.2.2) + s.2.1) (Yr.2.2.1 (Yr.2.2.2 s.1 25)) = true then
  sg_m (M.2 (Yr.2.2.2 s.1 25) ((((18 : Int32) * s.2.2.2) + s.2.1)).toNatClampNeg) (fun x7 : Int64 =>
  sg_m (0 : Int32) (fun x8 : Int32 =>
  gX11_brings_56 N k7 k30 (s.1, s.2.1, s.2.2.1, s.2.2.2, x7, x8) M))
  else none)
def gX11_brings_30 (N : Nat) (k7 : (Nat × Int32) → sg_M → Option (sg_M)) : (Nat × Int32 × Int64 × Int32) → sg_M → Option (sg_M) := sg_lp (bX11_brings_30 N k7) N
set_option maxHeartbeats 4000000 in
set_option maxRecDepth 100000 in
theorem tX11_brings_30 {ad : Nat → Nat} {X : sg_X} {N : Nat} {r : sg_M} (C : sg_C Yr ad X cX11_brings RX11 8 0) (E : sg_eV Yr ad X cX11_brings r) {k7 : (Nat × Int32) → sg_M → Option (sg_M)} (hk7 : ∀ (s : Nat × Int32) (M : sg_M), k7 s M = some r → sg_K Yr s.1 11 → sg_T Yr ad X 8 7 [(0, .ref (ad (s.1))), (1, .int (s.2))] [] M) : ∀ (s : Nat × Int32 × Int64 × Int32) (M : sg_M), gX11_brings_30 N k7 s M = some r → sg_K Yr s.1 11 → sg_T Yr ad X 8 30 [(0, .ref (ad (s.1))), (1, .int (s.2.1)), (2, .long (s.2.2.1)), (4, .int (s.2.2.2))] [] M := by
  have key : ∀ n : Nat, ∀ (s : Nat × Int32 × Int64 × Int32) (M : sg_M), sg_lp (bX11_brings_30 N k7) n s M = some r → sg_K Yr s.1 11 → sg_T Yr ad X 8 30 [(0, .ref (ad (s.1))), (1, .int (s.2.1)), (2, .long (s.2.2.1)), (4, .int (s.2.2.2))] [] M := by
    intro n
    induction n with
    | zero => intro s M h; cases h
    | succ n ih =>
      intro s M h hq0
      have h : bX11_brings_30 N k7 (sg_lp (bX11_brings_30 N k7) n) s M = some r := h
      generalize sg_lp (bX11_brings_30 N k7) n = k30 at h ih
      have hk30 := ih
      unfold bX11_brings_30 at h
      refine i_iload C dX11_brings_30 3 rfl ?_
      refine i_aload_n C dX11_brings_32 0 rfl ?_
      refine gf11_260 C hq0 dX11_brings_33 ?_
      refine s_icmp_ge C 130 (by decide) dX11_brings_36 h (fun _ h => ?_) (fun _ h => ?_)
      · refine i_aload_n C dX11_brings_130 0 rfl ?_
        refine i_lload_n C dX11_brings_131 2 rfl ?_
        refine pf11_50 C hq0 dX11_brings_132 ?_
        refine z_gM h (fun M5 h => ?_)
        refine z_iinc (n := 1) (c9 := (1 : Int32)) (by decide) h (fun x6 hx h => ?_)
        refine i_iinc (lv9 := [(1, _), (0, _), (2, _), (4, _)]) C dX11_brings_135 1 rfl hx (by decide) rfl ?_
        refine s_goto C 7 (by decide) dX11_brings_138 ?_
        exact sg_T.to (hk7 _ _ h hq0) [1, 0] rfl
      · refine i_aload_n C dX11_brings_39 0 rfl ?_
        refine gf11_46 C hq0 dX11_brings_40 ?_
        refine s_bipush C (18 : Int32) dX11_brings_43 (by decide) ?_
        refine i_iload C dX11_brings_45 3 rfl ?_
        refine s_imul C dX11_brings_47 ?_
        refine i_iload_n C dX11_brings_48 1 rfl ?_
        refine s_iadd C dX11_brings_49 ?_
        refine s_lald C (ky11_25 hq0) dX11_brings_50 h (fun h => ?_)
        refine z_gl h (fun x7 h => ?_)
        refine i_lstore (lv9 := [(5, _), (0, _), (1, _), (2, _), (4, _)]) C dX11_brings_51 (by decide) rfl ?_
        refine s_iconst C (0 : Int32) dX11_brings_53 (by decide) ?_
        refine z_gi h (fun x8 h => ?_)
        refine i_istore (lv9 := [(7, _), (5, _), (0, _), (1, _), (2, _), (4, _)]) C dX11_brings_54 (by decide) rfl ?_
        exact sg_T.to (tX11_brings_56 C E hk7 hk30 _ _ h hq0) [2, 3, 4, 5, 1, 0] rfl
  exact key N
def bX11_brings_7 (N : Nat)  (k7 : (Nat × Int32) → sg_M → Option (sg_M)) (s : Nat × Int32) (M : sg_M) : Option (sg_M) :=
  if (M.1 s.1 24) ≤ s.2 then (
  some M) else (
  if sg_ib (((18 : Int32) * s.2) + s.2) (Yr.2.2.1 (Yr.2.2.2 s.1 25)) = true then
  sg_m (M.2 (Yr.2.2.2 s.1 25) ((((18 : Int32) * s.2) + s.2)).toNatClampNeg) (fun x9 : Int64 =>
  sg_m (0 : Int32) (fun x10 : Int32 =>
  gX11_brings_30 N k7 (s.1, s.2, x9, x10) M))
  else none)
def gX11_brings_7 (N : Nat)  : (Nat × Int32) → sg_M → Option (sg_M) := sg_lp (bX11_brings_7 N ) N
set_option maxHeartbeats 4000000 in
set_option maxRecDepth 100000 in
theorem tX11_brings_7 {ad : Nat → Nat} {X : sg_X} {N : Nat} {r : sg_M} (C : sg_C Yr ad X cX11_brings RX11 8 0) (E : sg_eV Yr ad X cX11_brings r)  : ∀ (s : Nat × Int32) (M : sg_M), gX11_brings_7 N s M = some r → sg_K Yr s.1 11 → sg_T Yr ad X 8 7 [(0, .ref (ad (s.1))), (1, .int (s.2))] [] M := by
  have key : ∀ n : Nat, ∀ (s : Nat × Int32) (M : sg_M), sg_lp (bX11_brings_7 N) n s M = some r → sg_K Yr s.1 11 → sg_T Yr ad X 8 7 [(0, .ref (ad (s.1))), (1, .int (s.2))] [] M := by
    intro n
    induction n with
    | zero => intro s M h; cases h
    | succ n ih =>
      intro s M h hq0
      have h : bX11_brings_7 N (sg_lp (bX11_brings_7 N) n) s M = some r := h
      generalize sg_lp (bX11_brings_7 N) n = k7 at h ih
      have hk7 := ih
      unfold bX11_brings_7 at h
      refine i_iload_n C dX11_brings_7 1 rfl ?_
      refine i_aload_n C dX11_brings_8 0 rfl ?_
      refine gf11_260 C hq0 dX11_brings_9 ?_
      refine s_icmp_ge C 141 (by decide) dX11_brings_12 h (fun _ h => ?_) (fun _ h => ?_)
      · exact s_vret C E dX11_brings_141 h
      · refine i_aload_n C dX11_brings_15 0 rfl ?_
        refine gf11_46 C hq0 dX11_brings_16 ?_
        refine s_bipush C (18 : Int32) dX11_brings_19 (by decide) ?_
        refine i_iload_n C dX11_brings_21 1 rfl ?_
        refine s_imul C dX11_brings_22 ?_
        refine i_iload_n C dX11_brings_23 1 rfl ?_
        refine s_iadd C dX11_brings_24 ?_
        refine s_lald C (ky11_25 hq0) dX11_brings_25 h (fun h => ?_)
        refine z_gl h (fun x9 h => ?_)
        refine i_lstore_n (lv9 := [(2, _), (0, _), (1, _)]) C 2 dX11_brings_26 rfl (by decide) rfl ?_
        refine s_iconst C (0 : Int32) dX11_brings_27 (by decide) ?_
        refine z_gi h (fun x10 h => ?_)
        refine i_istore (lv9 := [(4, _), (2, _), (0, _), (1, _)]) C dX11_brings_28 (by decide) rfl ?_
        exact sg_T.to (tX11_brings_30 C E hk7 _ _ h hq0) [2, 3, 1, 0] rfl
  exact key N
def fX11_brings (N : Nat) (a0_ : Nat) (M : sg_M) : Option (sg_M) :=
  sg_m (sg_uJ M a0_ 26 (1 : Int64)) (fun M11 : sg_M =>
  sg_m (0 : Int32) (fun x12 : Int32 =>
  gX11_brings_7 N (a0_, x12) M11))
set_option maxHeartbeats 4000000 in
set_option maxRecDepth 100000 in
theorem tX11_brings {ad : Nat → Nat} {X : sg_X} {N : Nat} {r : sg_M} (C : sg_C Yr ad X cX11_brings RX11 8 0) (E : sg_eV Yr ad X cX11_brings r) : ∀ (a0_ : Nat) (M : sg_M), sg_K Yr a0_ 11 → fX11_brings N a0_ M = some r → sg_T Yr ad X 8 0 [(0, .ref (ad a0_))] [] M := by
  intro a0_ M hq0 h
  unfold fX11_brings at h
  refine i_aload_n C dX11_brings_0 0 rfl ?_
  refine s_lconst C (1 : Int64) dX11_brings_1 (by decide) ?_
  refine pf11_50 C hq0 dX11_brings_2 ?_
  refine z_gM h (fun M11 h => ?_)
  refine s_iconst C (0 : Int32) dX11_brings_5 (by decide) ?_
  refine z_gi h (fun x12 h => ?_)
  refine i_istore_n (lv9 := [(1, _), (0, _)]) C 1 dX11_brings_6 rfl (by decide) rfl ?_
  exact sg_T.to (tX11_brings_7 C E _ _ h hq0) [1, 0] rfl
theorem ctX11_brings {ad : Nat → Nat} {V : sg_V} {N : Nat} (hi : sg_inj Yr ad) {a0_ : Nat} {M : sg_M} (hq0 : sg_K Yr a0_ 11) : ∀ res, fX11_brings N a0_ M = some res → sg_cV Yr ad V yX11_brings cX11_brings 8 0 [.ref (ad a0_)] M res := fun res h => sg_bodyV (by decide) hi (Nat.le_of_ble_eq_true rfl) (fun X hX C E => by subst hX; exact tX11_brings C E _  _ hq0 h)
def bX11_solves_32 (N : Nat)  (k32 : (Nat × Int32 × Int32) → sg_M → Option (sg_M)) (s : Nat × Int32 × Int32) (M : sg_M) : Option (sg_M) :=
  sg_b (fX11_nodes N s.1 M) (fun (x2 : Int32) (M1 : sg_M) =>
  if x2 ≤ s.2.2 then (
  sg_bv (fX11_laysCells N s.1 M1) (fun M3 : sg_M =>
  sg_bv (fX11_brings N s.1 M3) (fun M4 : sg_M =>
  some M4))) else (
  if sg_ib s.2.2 (Yr.2.2.1 (Yr.2.2.2 s.1 22)) = true then
  sg_m (sg_uI M1 (Yr.2.2.2 s.1 22) (s.2.2).toNatClampNeg (-1 : Int32)) (fun M5 : sg_M =>
  sg_b (fX11_isOf N (M5.1 s.1 21) s.2.2 M5) (fun (x7 : Int32) (M6 : sg_M) =>
  if x7 = 0 then (
  sg_b (fX11_isOf N s.2.1 s.2.2 M6) (fun (x9 : Int32) (M8 : sg_M) =>
  if x9 = 0 then (
  if sg_ib s.2.2 (Yr.2.2.1 (Yr.2.2.2 s.1 22)) = true then
  sg_m (sg_uI M8 (Yr.2.2.2 s.1 22) (s.2.2).toNatClampNeg (M8.1 s.1 24)) (fun M10 : sg_M =>
  if sg_ib (M10.1 s.1 24) (Yr.2.2.1 (Yr.2.2.2 s.1 23)) = true then
  sg_m (sg_uI M10 (Yr.2.2.2 s.1 23) ((M10.1 s.1 24)).toNatClampNeg s.2.2) (fun M11 : sg_M =>
  sg_m (sg_uI M11 s.1 24 ((M11.1 s.1 24) + (1 : Int32))) (fun M12 : sg_M =>
  sg_m (s.2.2 + (1 : Int32)) (fun x13 : Int32 =>
  k32 (s.1, s.2.1, x13) M12)))
  else none)
  else none) else (
  sg_m (s.2.2 + (1 : Int32)) (fun x14 : Int32 =>
  k32 (s.1, s.2.1, x14) M8)))) else (
  sg_m (s.2.2 + (1 : Int32)) (fun x15 : Int32 =>
  k32 (s.1, s.2.1, x15) M6))))
  else none))
def gX11_solves_32 (N : Nat)  : (Nat × Int32 × Int32) → sg_M → Option (sg_M) := sg_lp (bX11_solves_32 N ) N
set_option maxHeartbeats 4000000 in
set_option maxRecDepth 100000 in
theorem tX11_solves_32 {ad : Nat → Nat} {X : sg_X} {N : Nat} {r : sg_M} (C : sg_C Yr ad X cX11_solves RX11 3 3) (E : sg_eV Yr ad X cX11_solves r)  : ∀ (s : Nat × Int32 × Int32) (M : sg_M), gX11_solves_32 N s M = some r → sg_K Yr s.1 11 → sg_T Yr ad X 3 32 [(0, .ref (ad (s.1))), (1, .int (s.2.1)), (2, .int (s.2.2))] [] M := by
  have key : ∀ n : Nat, ∀ (s : Nat × Int32 × Int32) (M : sg_M), sg_lp (bX11_solves_32 N) n s M = some r → sg_K Yr s.1 11 → sg_T Yr ad X 3 32 [(0, .ref (ad (s.1))), (1, .int (s.2.1)), (2, .int (s.2.2))] [] M := by
    intro n
    induction n with
    | zero => intro s M h; cases h
    | succ n ih =>
      intro s M h hq0
      have h : bX11_solves_32 N (sg_lp (bX11_solves_32 N) n) s M = some r := h
      generalize sg_lp (bX11_solves_32 N) n = k32 at h ih
      have hk32 := ih
      unfold bX11_solves_32 at h
      refine i_iload_n C dX11_solves_32 2 rfl ?_
      refine i_aload_n C dX11_solves_33 0 rfl ?_
      refine s_vcI C [] vmX11_nodes lkX11_98 rfl rfl (by decide) hq0 (by decide) rfl rfl (Nat.le_of_ble_eq_true rfl) dX11_solves_34 (ctX11_nodes C.inj hq0) h (fun x2 M1 h => ?_)
      refine s_icmp_ge C 105 (by decide) dX11_solves_37 h (fun _ h => ?_) (fun _ h => ?_)
      · refine i_aload_n C dX11_solves_105 0 rfl ?_
        refine s_vcV C [] vmX11_laysCells lkX11_269 rfl rfl (by decide) hq0 (by decide) rfl rfl (Nat.le_of_ble_eq_true rfl) dX11_solves_106 (ctX11_laysCells C.inj hq0) h (fun M3 h => ?_)
        refine i_aload_n C dX11_solves_109 0 rfl ?_
        refine s_vcV C [] vmX11_brings lkX11_272 rfl rfl (by decide) hq0 (by decide) rfl rfl (Nat.le_of_ble_eq_true rfl) dX11_solves_110 (ctX11_brings C.inj hq0) h (fun M4 h => ?_)
        exact s_vret C E dX11_solves_113 h
      · refine i_aload_n C dX11_solves_40 0 rfl ?_
        refine gf11_40 C hq0 dX11_solves_41 ?_
        refine i_iload_n C dX11_solves_44 2 rfl ?_
        refine s_iconst C (-1 : Int32) dX11_solves_45 (by decide) ?_
        refine s_iast C (ky11_22 hq0) dX11_solves_46 h (fun h => ?_)
        refine z_gM h (fun M5 h => ?_)
        refine i_aload_n C dX11_solves_47 0 rfl ?_
        refine gf11_266 C hq0 dX11_solves_48 ?_
        refine i_iload_n C dX11_solves_51 2 rfl ?_
        refine s_scI C [_, _] smX11_isOf lkX11_209 (by decide) rfl rfl (Nat.le_of_ble_eq_true rfl) dX11_solves_52 (ctX11_isOf C.inj ) h (fun x7 M6 h => ?_)
        refine s_if_ne C 99 (by decide) dX11_solves_55 h (fun _ h => ?_) (fun _ h => ?_)
        · refine i_iload_n C dX11_solves_58 1 rfl ?_
          refine i_iload_n C dX11_solves_59 2 rfl ?_
          refine s_scI C [_, _] smX11_isOf lkX11_209 (by decide) rfl rfl (Nat.le_of_ble_eq_true rfl) dX11_solves_60 (ctX11_isOf C.inj ) h (fun x9 M8 h => ?_)
          refine s_if_eq C 69 (by decide) dX11_solves_63 h (fun _ h => ?_) (fun _ h => ?_)
          · refine i_aload_n C dX11_solves_69 0 rfl ?_
            refine gf11_40 C hq0 dX11_solves_70 ?_
            refine i_iload_n C dX11_solves_73 2 rfl ?_
            refine i_aload_n C dX11_solves_74 0 rfl ?_
            refine gf11_260 C hq0 dX11_solves_75 ?_
            refine s_iast C (ky11_22 hq0) dX11_solves_78 h (fun h => ?_)
            refine z_gM h (fun M10 h => ?_)
            refine i_aload_n C dX11_solves_79 0 rfl ?_
            refine gf11_43 C hq0 dX11_solves_80 ?_
            refine i_aload_n C dX11_solves_83 0 rfl ?_
            refine gf11_260 C hq0 dX11_solves_84 ?_
            refine i_iload_n C dX11_solves_87 2 rfl ?_
            refine s_iast C (ky11_23 hq0) dX11_solves_88 h (fun h => ?_)
            refine z_gM h (fun M11 h => ?_)
            refine i_aload_n C dX11_solves_89 0 rfl ?_
            refine s_dup C dX11_solves_90 rfl ?_
            refine gf11_260 C hq0 dX11_solves_91 ?_
            refine s_iconst C (1 : Int32) dX11_solves_94 (by decide) ?_
            refine s_iadd C dX11_solves_95 ?_
            refine pf11_260 C hq0 dX11_solves_96 ?_
            refine z_gM h (fun M12 h => ?_)
            refine z_iinc (n := 1) (c9 := (1 : Int32)) (by decide) h (fun x13 hx h => ?_)
            refine i_iinc (lv9 := [(2, _), (0, _), (1, _)]) C dX11_solves_99 2 rfl hx (by decide) rfl ?_
            refine s_goto C 32 (by decide) dX11_solves_102 ?_
            exact sg_T.to (hk32 _ _ h hq0) [1, 2, 0] rfl
          · refine s_goto C 99 (by decide) dX11_solves_66 ?_
            refine z_iinc (n := 1) (c9 := (1 : Int32)) (by decide) h (fun x14 hx h => ?_)
            refine i_iinc (lv9 := [(2, _), (0, _), (1, _)]) C dX11_solves_99 2 rfl hx (by decide) rfl ?_
            refine s_goto C 32 (by decide) dX11_solves_102 ?_
            exact sg_T.to (hk32 _ _ h hq0) [1, 2, 0] rfl
        · refine z_iinc (n := 1) (c9 := (1 : Int32)) (by decide) h (fun x15 hx h => ?_)
          refine i_iinc (lv9 := [(2, _), (0, _), (1, _)]) C dX11_solves_99 2 rfl hx (by decide) rfl ?_
          refine s_goto C 32 (by decide) dX11_solves_102 ?_
          exact sg_T.to (hk32 _ _ h hq0) [1, 2, 0] rfl
  exact key N
def fX11_solves (N : Nat) (a0_ : Nat) (x1_ : Int32) (M : sg_M) : Option (sg_M) :=
  sg_b (fX11_straps N a0_ M) (fun (x17 : Int32) (M16 : sg_M) =>
  sg_b (fX11_nodes N a0_ M16) (fun (x19 : Int32) (M18 : sg_M) =>
  sg_b (fX11_comesTo N a0_ x1_ M18) (fun (x21 : Int32) (M20 : sg_M) =>
  sg_m (sg_uI M20 a0_ 21 ((((1 : Int32) <<< (x19 &&& 31)) - (1 : Int32)) &&& (x21 ^^^ (-1 : Int32)))) (fun M22 : sg_M =>
  sg_m (sg_uI M22 a0_ 24 (0 : Int32)) (fun M23 : sg_M =>
  sg_m (0 : Int32) (fun x24 : Int32 =>
  gX11_solves_32 N (a0_, x1_, x24) M23))))))
set_option maxHeartbeats 4000000 in
set_option maxRecDepth 100000 in
theorem tX11_solves {ad : Nat → Nat} {X : sg_X} {N : Nat} {r : sg_M} (C : sg_C Yr ad X cX11_solves RX11 3 3) (E : sg_eV Yr ad X cX11_solves r) : ∀ (a0_ : Nat) (x1_ : Int32) (M : sg_M), sg_K Yr a0_ 11 → fX11_solves N a0_ x1_ M = some r → sg_T Yr ad X 3 0 [(0, .ref (ad a0_)), (1, .int x1_)] [] M := by
  intro a0_ x1_ M hq0 h
  unfold fX11_solves at h
  refine i_aload_n C dX11_solves_0 0 rfl ?_
  refine s_vcI C [] vmX11_straps lkX11_116 rfl rfl (by decide) hq0 (by decide) rfl rfl (Nat.le_of_ble_eq_true rfl) dX11_solves_1 (ctX11_straps C.inj hq0) h (fun x17 M16 h => ?_)
  refine s_pop C dX11_solves_4 rfl ?_
  refine i_aload_n C dX11_solves_5 0 rfl ?_
  refine s_iconst C (1 : Int32) dX11_solves_6 (by decide) ?_
  refine i_aload_n C dX11_solves_7 0 rfl ?_
  refine s_vcI C [] vmX11_nodes lkX11_98 rfl rfl (by decide) hq0 (by decide) rfl rfl (Nat.le_of_ble_eq_true rfl) dX11_solves_8 (ctX11_nodes C.inj hq0) h (fun x19 M18 h => ?_)
  refine s_ishl C dX11_solves_11 ?_
  refine s_iconst C (1 : Int32) dX11_solves_12 (by decide) ?_
  refine s_isub C dX11_solves_13 ?_
  refine i_aload_n C dX11_solves_14 0 rfl ?_
  refine i_iload_n C dX11_solves_15 1 rfl ?_
  refine s_vcI C [_] vmX11_comesTo lkX11_263 rfl rfl (by decide) hq0 (by decide) rfl rfl (Nat.le_of_ble_eq_true rfl) dX11_solves_16 (ctX11_comesTo C.inj hq0) h (fun x21 M20 h => ?_)
  refine s_iconst C (-1 : Int32) dX11_solves_19 (by decide) ?_
  refine s_ixor C dX11_solves_20 ?_
  refine s_iand C dX11_solves_21 ?_
  refine pf11_266 C hq0 dX11_solves_22 ?_
  refine z_gM h (fun M22 h => ?_)
  refine i_aload_n C dX11_solves_25 0 rfl ?_
  refine s_iconst C (0 : Int32) dX11_solves_26 (by decide) ?_
  refine pf11_260 C hq0 dX11_solves_27 ?_
  refine z_gM h (fun M23 h => ?_)
  refine s_iconst C (0 : Int32) dX11_solves_30 (by decide) ?_
  refine z_gi h (fun x24 h => ?_)
  refine i_istore_n (lv9 := [(2, _), (0, _), (1, _)]) C 2 dX11_solves_31 rfl (by decide) rfl ?_
  exact sg_T.to (tX11_solves_32 C E _ _ h hq0) [1, 2, 0] rfl
theorem ctX11_solves {ad : Nat → Nat} {V : sg_V} {N : Nat} (hi : sg_inj Yr ad) {a0_ : Nat} {x1_ : Int32} {M : sg_M} (hq0 : sg_K Yr a0_ 11) : ∀ res, fX11_solves N a0_ x1_ M = some res → sg_cV Yr ad V yX11_solves cX11_solves 3 3 [.ref (ad a0_), .int x1_] M res := fun res h => sg_bodyV (by decide) hi (Nat.le_of_ble_eq_true rfl) (fun X hX C E => by subst hX; exact tX11_solves C E _ _  _ hq0 h)
def fX11_lays (N : Nat) (a0_ : Nat) (M : sg_M) : Option (sg_M) :=
  if sg_ib (5 : Int32) (Yr.2.2.1 (Yr.2.2.2 a0_ 1)) = true then
  sg_bv (fX11_solves N a0_ (M.1 (Yr.2.2.2 a0_ 1) ((5 : Int32)).toNatClampNeg) M) (fun M1 : sg_M =>
  some M1)
  else none
set_option maxHeartbeats 4000000 in
set_option maxRecDepth 100000 in
theorem tX11_lays {ad : Nat → Nat} {X : sg_X} {N : Nat} {r : sg_M} (C : sg_C Yr ad X cX11_lays RX11 1 4) (E : sg_eV Yr ad X cX11_lays r) : ∀ (a0_ : Nat) (M : sg_M), sg_K Yr a0_ 11 → fX11_lays N a0_ M = some r → sg_T Yr ad X 1 0 [(0, .ref (ad a0_))] [] M := by
  intro a0_ M hq0 h
  unfold fX11_lays at h
  refine i_aload_n C dX11_lays_0 0 rfl ?_
  refine i_aload_n C dX11_lays_1 0 rfl ?_
  refine gf11_9 C hq0 dX11_lays_2 ?_
  refine s_iconst C (5 : Int32) dX11_lays_5 (by decide) ?_
  refine s_iald C (ky11_1 hq0) dX11_lays_6 h (fun h => ?_)
  refine s_vcV C [_] vmX11_solves lkX11_275 rfl rfl (by decide) hq0 (by decide) rfl rfl (Nat.le_of_ble_eq_true rfl) dX11_lays_7 (ctX11_solves C.inj hq0) h (fun M1 h => ?_)
  exact s_vret C E dX11_lays_10 h
theorem ctX11_lays {ad : Nat → Nat} {V : sg_V} {N : Nat} (hi : sg_inj Yr ad) {a0_ : Nat} {M : sg_M} (hq0 : sg_K Yr a0_ 11) : ∀ res, fX11_lays N a0_ M = some res → sg_cV Yr ad V yX11_lays cX11_lays 1 4 [.ref (ad a0_)] M res := fun res h => sg_bodyV (by decide) hi (Nat.le_of_ble_eq_true rfl) (fun X hX C E => by subst hX; exact tX11_lays C E _  _ hq0 h)
def fX11_isDead (N : Nat) (a0_ : Nat) (x1_ : Int32) (M : sg_M) : Option (Int32 × sg_M) :=
  sg_b (fX11_isOf N (M.1 a0_ 21) x1_ M) (fun (x2 : Int32) (M1 : sg_M) =>
  if sg_bz x2 = true then some (x2, M1) else none)
set_option maxHeartbeats 4000000 in
set_option maxRecDepth 100000 in
theorem tX11_isDead {ad : Nat → Nat} {X : sg_X} {N : Nat} {r : Int32 × sg_M} (C : sg_C Yr ad X cX11_isDead RX11 2 1) (E : sg_eI Yr ad X cX11_isDead .boolean r) : ∀ (a0_ : Nat) (x1_ : Int32) (M : sg_M), sg_K Yr a0_ 11 → fX11_isDead N a0_ x1_ M = some r → sg_T Yr ad X 2 0 [(0, .ref (ad a0_)), (1, .int x1_)] [] M := by
  intro a0_ x1_ M hq0 h
  unfold fX11_isDead at h
  refine i_aload_n C dX11_isDead_0 0 rfl ?_
  refine gf11_266 C hq0 dX11_isDead_1 ?_
  refine i_iload_n C dX11_isDead_4 1 rfl ?_
  refine s_scI C [_, _] smX11_isOf lkX11_209 (by decide) rfl rfl (Nat.le_of_ble_eq_true rfl) dX11_isDead_5 (ctX11_isOf C.inj ) h (fun x2 M1 h => ?_)
  exact s_zret C E dX11_isDead_8 h
theorem ctX11_isDead {ad : Nat → Nat} {V : sg_V} {N : Nat} (hi : sg_inj Yr ad) {a0_ : Nat} {x1_ : Int32} {M : sg_M} (hq0 : sg_K Yr a0_ 11) : ∀ res, fX11_isDead N a0_ x1_ M = some res → sg_cI Yr ad V yX11_isDead cX11_isDead 2 .boolean 1 [.ref (ad a0_), .int x1_] M res := fun res h => sg_bodyI (by decide) hi (Nat.le_of_ble_eq_true rfl) (fun X hX C E => by subst hX; exact tX11_isDead C E _ _  _ hq0 h)
def gX11_movesOf_26 (N : Nat)   (M : sg_M) : Option (Int64 × sg_M) :=
  some ((0 : Int64), M)
set_option maxHeartbeats 4000000 in
set_option maxRecDepth 100000 in
theorem tX11_movesOf_26 {ad : Nat → Nat} {X : sg_X} {N : Nat} {r : Int64 × sg_M} (C : sg_C Yr ad X cX11_movesOf RX11 5 0) (E : sg_eL Yr ad X cX11_movesOf r)  : ∀  (M : sg_M), gX11_movesOf_26 N  M = some r → sg_T Yr ad X 5 26 [] [] M := by
  intro  M h 
  unfold gX11_movesOf_26 at h
  refine s_lconst C (0 : Int64) dX11_movesOf_26 (by decide) ?_
  refine s_goto C 45 (by decide) dX11_movesOf_27 ?_
  exact s_lret C E dX11_movesOf_45 h
def fX11_movesOf (N : Nat) (a0_ : Nat) (x1_ : Int32) (x2_ : Int32) (M : sg_M) : Option (Int64 × sg_M) :=
  if sg_ib x1_ (Yr.2.2.1 (Yr.2.2.2 a0_ 22)) = true then
  sg_m (M.1 (Yr.2.2.2 a0_ 22) (x1_).toNatClampNeg) (fun x1 : Int32 =>
  if sg_ib x2_ (Yr.2.2.1 (Yr.2.2.2 a0_ 22)) = true then
  sg_m (M.1 (Yr.2.2.2 a0_ 22) (x2_).toNatClampNeg) (fun x2 : Int32 =>
  if x1 = (-1 : Int32) then (
  gX11_movesOf_26 N M) else (
  if x2 = (-1 : Int32) then (
  gX11_movesOf_26 N M) else (
  if sg_ib ((((18 : Int32) * x1) + (9 : Int32)) + x2) (Yr.2.2.1 (Yr.2.2.2 a0_ 25)) = true then
  some ((M.2 (Yr.2.2.2 a0_ 25) (((((18 : Int32) * x1) + (9 : Int32)) + x2)).toNatClampNeg), M)
  else none)))
  else none)
  else none
set_option maxHeartbeats 4000000 in
set_option maxRecDepth 100000 in
theorem tX11_movesOf {ad : Nat → Nat} {X : sg_X} {N : Nat} {r : Int64 × sg_M} (C : sg_C Yr ad X cX11_movesOf RX11 5 0) (E : sg_eL Yr ad X cX11_movesOf r) : ∀ (a0_ : Nat) (x1_ : Int32) (x2_ : Int32) (M : sg_M), sg_K Yr a0_ 11 → fX11_movesOf N a0_ x1_ x2_ M = some r → sg_T Yr ad X 5 0 [(0, .ref (ad a0_)), (1, .int x1_), (2, .int x2_)] [] M := by
  intro a0_ x1_ x2_ M hq0 h
  unfold fX11_movesOf at h
  refine i_aload_n C dX11_movesOf_0 0 rfl ?_
  refine gf11_40 C hq0 dX11_movesOf_1 ?_
  refine i_iload_n C dX11_movesOf_4 1 rfl ?_
  refine s_iald C (ky11_22 hq0) dX11_movesOf_5 h (fun h => ?_)
  refine z_gi h (fun x1 h => ?_)
  refine i_istore_n (lv9 := [(3, _), (0, _), (1, _), (2, _)]) C 3 dX11_movesOf_6 rfl (by decide) rfl ?_
  refine i_aload_n C dX11_movesOf_7 1 rfl ?_
  refine gf11_40 C hq0 dX11_movesOf_8 ?_
  refine i_iload_n C dX11_movesOf_11 3 rfl ?_
  refine s_iald C (ky11_22 hq0) dX11_movesOf_12 h (fun h => ?_)
  refine z_gi h (fun x2 h => ?_)
  refine i_istore (lv9 := [(4, _), (3, _), (0, _), (1, _), (2, _)]) C dX11_movesOf_13 (by decide) rfl ?_
  refine i_iload_n C dX11_movesOf_15 1 rfl ?_
  refine s_iconst C (-1 : Int32) dX11_movesOf_16 (by decide) ?_
  refine s_icmp_eq C 26 (by decide) dX11_movesOf_17 h (fun _ h => ?_) (fun _ h => ?_)
  · exact sg_T.to (tX11_movesOf_26 C E _ h ) [] rfl
  · refine i_iload C dX11_movesOf_20 0 rfl ?_
    refine s_iconst C (-1 : Int32) dX11_movesOf_22 (by decide) ?_
    refine s_icmp_ne C 30 (by decide) dX11_movesOf_23 h (fun _ h => ?_) (fun _ h => ?_)
    · exact sg_T.to (tX11_movesOf_26 C E _ h ) [] rfl
    · refine i_aload_n C dX11_movesOf_30 2 rfl ?_
      refine gf11_46 C hq0 dX11_movesOf_31 ?_
      refine s_bipush C (18 : Int32) dX11_movesOf_34 (by decide) ?_
      refine i_iload_n C dX11_movesOf_36 1 rfl ?_
      refine s_imul C dX11_movesOf_37 ?_
      refine s_bipush C (9 : Int32) dX11_movesOf_38 (by decide) ?_
      refine s_iadd C dX11_movesOf_40 ?_
      refine i_iload C dX11_movesOf_41 0 rfl ?_
      refine s_iadd C dX11_movesOf_43 ?_
      refine s_lald C (ky11_25 hq0) dX11_movesOf_44 h (fun h => ?_)
      exact s_lret C E dX11_movesOf_45 h
theorem ctX11_movesOf {ad : Nat → Nat} {V : sg_V} {N : Nat} (hi : sg_inj Yr ad) {a0_ : Nat} {x1_ : Int32} {x2_ : Int32} {M : sg_M} (hq0 : sg_K Yr a0_ 11) : ∀ res, fX11_movesOf N a0_ x1_ x2_ M = some res → sg_cL Yr ad V yX11_movesOf cX11_movesOf 5 0 [.ref (ad a0_), .int x1_, .int x2_] M res := fun res h => sg_bodyL (by decide) hi (Nat.le_of_ble_eq_true rfl) (fun X hX C E => by subst hX; exact tX11_movesOf C E _ _ _  _ hq0 h)
def bX11_dropOf_5 (N : Nat)  (k5 : (Nat × Int32 × Int64 × Int32) → sg_M → Option (Int64 × sg_M)) (s : Nat × Int32 × Int64 × Int32) (M : sg_M) : Option (Int64 × sg_M) :=
  if (M.1 s.1 24) ≤ s.2.2.2 then (
  some (s.2.2.1, M)) else (
  if sg_ib s.2.2.2 (Yr.2.2.1 (Yr.2.2.2 s.1 23)) = true then
  sg_b (fX11_movesOf N s.1 s.2.1 (M.1 (Yr.2.2.2 s.1 23) (s.2.2.2).toNatClampNeg) M) (fun (x2 : Int64) (M1 : sg_M) =>
  if sg_ib s.2.2.2 (Yr.2.2.1 (Yr.2.2.2 s.1 23)) = true then
  if sg_ib ((6 : Int32) + (M1.1 (Yr.2.2.2 s.1 23) (s.2.2.2).toNatClampNeg)) (Yr.2.2.1 (Yr.2.2.2 s.1 1)) = true then
  sg_m (s.2.2.1 + (x2 * ((M1.1 (Yr.2.2.2 s.1 1) (((6 : Int32) + (M1.1 (Yr.2.2.2 s.1 23) (s.2.2.2).toNatClampNeg))).toNatClampNeg)).toInt64)) (fun x3 : Int64 =>
  sg_m (s.2.2.2 + (1 : Int32)) (fun x4 : Int32 =>
  k5 (s.1, s.2.1, x3, x4) M1))
  else none
  else none)
  else none)
def gX11_dropOf_5 (N : Nat)  : (Nat × Int32 × Int64 × Int32) → sg_M → Option (Int64 × sg_M) := sg_lp (bX11_dropOf_5 N ) N
set_option maxHeartbeats 4000000 in
set_option maxRecDepth 100000 in
theorem tX11_dropOf_5 {ad : Nat → Nat} {X : sg_X} {N : Nat} {r : Int64 × sg_M} (C : sg_C Yr ad X cX11_dropOf RX11 5 1) (E : sg_eL Yr ad X cX11_dropOf r)  : ∀ (s : Nat × Int32 × Int64 × Int32) (M : sg_M), gX11_dropOf_5 N s M = some r → sg_K Yr s.1 11 → sg_T Yr ad X 5 5 [(0, .ref (ad (s.1))), (1, .int (s.2.1)), (2, .long (s.2.2.1)), (4, .int (s.2.2.2))] [] M := by
  have key : ∀ n : Nat, ∀ (s : Nat × Int32 × Int64 × Int32) (M : sg_M), sg_lp (bX11_dropOf_5 N) n s M = some r → sg_K Yr s.1 11 → sg_T Yr ad X 5 5 [(0, .ref (ad (s.1))), (1, .int (s.2.1)), (2, .long (s.2.2.1)), (4, .int (s.2.2.2))] [] M := by
    intro n
    induction n with
    | zero => intro s M h; cases h
    | succ n ih =>
      intro s M h hq0
      have h : bX11_dropOf_5 N (sg_lp (bX11_dropOf_5 N) n) s M = some r := h
      generalize sg_lp (bX11_dropOf_5 N) n = k5 at h ih
      have hk5 := ih
      unfold bX11_dropOf_5 at h
      refine i_iload C dX11_dropOf_5 3 rfl ?_
      refine i_aload_n C dX11_dropOf_7 0 rfl ?_
      refine gf11_260 C hq0 dX11_dropOf_8 ?_
      refine s_icmp_ge C 52 (by decide) dX11_dropOf_11 h (fun _ h => ?_) (fun _ h => ?_)
      · refine i_lload_n C dX11_dropOf_52 2 rfl ?_
        exact s_lret C E dX11_dropOf_53 h
      · refine i_lload_n C dX11_dropOf_14 2 rfl ?_
        refine i_aload_n C dX11_dropOf_15 0 rfl ?_
        refine i_iload_n C dX11_dropOf_16 1 rfl ?_
        refine i_aload_n C dX11_dropOf_17 0 rfl ?_
        refine gf11_43 C hq0 dX11_dropOf_18 ?_
        refine i_iload C dX11_dropOf_21 3 rfl ?_
        refine s_iald C (ky11_23 hq0) dX11_dropOf_23 h (fun h => ?_)
        refine s_vcL C [_, _] vmX11_movesOf lkX11_278 rfl rfl (by decide) hq0 (by decide) rfl rfl (Nat.le_of_ble_eq_true rfl) dX11_dropOf_24 (ctX11_movesOf C.inj hq0) h (fun x2 M1 h => ?_)
        refine i_aload_n C dX11_dropOf_27 0 rfl ?_
        refine gf11_9 C hq0 dX11_dropOf_28 ?_
        refine s_bipush C (6 : Int32) dX11_dropOf_31 (by decide) ?_
        refine i_aload_n C dX11_dropOf_33 0 rfl ?_
        refine gf11_43 C hq0 dX11_dropOf_34 ?_
        refine i_iload C dX11_dropOf_37 3 rfl ?_
        refine s_iald C (ky11_23 hq0) dX11_dropOf_39 h (fun h => ?_)
        refine s_iadd C dX11_dropOf_40 ?_
        refine s_iald C (ky11_1 hq0) dX11_dropOf_41 h (fun h => ?_)
        refine s_i2l C dX11_dropOf_42 ?_
        refine s_lmul C dX11_dropOf_43 ?_
        refine s_ladd C dX11_dropOf_44 ?_
        refine z_gl h (fun x3 h => ?_)
        refine i_lstore_n (lv9 := [(2, _), (0, _), (1, _), (4, _)]) C 2 dX11_dropOf_45 rfl (by decide) rfl ?_
        refine z_iinc (n := 1) (c9 := (1 : Int32)) (by decide) h (fun x4 hx h => ?_)
        refine i_iinc (lv9 := [(4, _), (2, _), (0, _), (1, _)]) C dX11_dropOf_46 3 rfl hx (by decide) rfl ?_
        refine s_goto C 5 (by decide) dX11_dropOf_49 ?_
        exact sg_T.to (hk5 _ _ h hq0) [2, 3, 1, 0] rfl
  exact key N
def fX11_dropOf (N : Nat) (a0_ : Nat) (x1_ : Int32) (M : sg_M) : Option (Int64 × sg_M) :=
  sg_m (0 : Int64) (fun x5 : Int64 =>
  sg_m (0 : Int32) (fun x6 : Int32 =>
  gX11_dropOf_5 N (a0_, x1_, x5, x6) M))
set_option maxHeartbeats 4000000 in
set_option maxRecDepth 100000 in
theorem tX11_dropOf {ad : Nat → Nat} {X : sg_X} {N : Nat} {r : Int64 × sg_M} (C : sg_C Yr ad X cX11_dropOf RX11 5 1) (E : sg_eL Yr ad X cX11_dropOf r) : ∀ (a0_ : Nat) (x1_ : Int32) (M : sg_M), sg_K Yr a0_ 11 → fX11_dropOf N a0_ x1_ M = some r → sg_T Yr ad X 5 0 [(0, .ref (ad a0_)), (1, .int x1_)] [] M := by
  intro a0_ x1_ M hq0 h
  unfold fX11_dropOf at h
  refine s_lconst C (0 : Int64) dX11_dropOf_0 (by decide) ?_
  refine z_gl h (fun x5 h => ?_)
  refine i_lstore_n (lv9 := [(2, _), (0, _), (1, _)]) C 2 dX11_dropOf_1 rfl (by decide) rfl ?_
  refine s_iconst C (0 : Int32) dX11_dropOf_2 (by decide) ?_
  refine z_gi h (fun x6 h => ?_)
  refine i_istore (lv9 := [(4, _), (2, _), (0, _), (1, _)]) C dX11_dropOf_3 (by decide) rfl ?_
  exact sg_T.to (tX11_dropOf_5 C E _ _ h hq0) [2, 3, 1, 0] rfl
theorem ctX11_dropOf {ad : Nat → Nat} {V : sg_V} {N : Nat} (hi : sg_inj Yr ad) {a0_ : Nat} {x1_ : Int32} {M : sg_M} (hq0 : sg_K Yr a0_ 11) : ∀ res, fX11_dropOf N a0_ x1_ M = some res → sg_cL Yr ad V yX11_dropOf cX11_dropOf 5 1 [.ref (ad a0_), .int x1_] M res := fun res h => sg_bodyL (by decide) hi (Nat.le_of_ble_eq_true rfl) (fun X hX C E => by subst hX; exact tX11_dropOf C E _ _  _ hq0 h)
def bX11_mostDrop_4 (N : Nat)  (k4 : (Nat × Int64 × Int32) → sg_M → Option (Int64 × sg_M)) (s : Nat × Int64 × Int32) (M : sg_M) : Option (Int64 × sg_M) :=
  sg_b (fX11_nodes N s.1 M) (fun (x2 : Int32) (M1 : sg_M) =>
  if x2 ≤ s.2.2 then (
  some (s.2.1, M1)) else (
  sg_b (fX11_dropOf N s.1 s.2.2 M1) (fun (x4 : Int64) (M3 : sg_M) =>
  sg_m (if x4 < s.2.1 then s.2.1 else x4) (fun x5 : Int64 =>
  sg_m (s.2.2 + (1 : Int32)) (fun x6 : Int32 =>
  k4 (s.1, x5, x6) M3)))))
def gX11_mostDrop_4 (N : Nat)  : (Nat × Int64 × Int32) → sg_M → Option (Int64 × sg_M) := sg_lp (bX11_mostDrop_4 N ) N
set_option maxHeartbeats 4000000 in
set_option maxRecDepth 100000 in
theorem tX11_mostDrop_4 {ad : Nat → Nat} {X : sg_X} {N : Nat} {r : Int64 × sg_M} (C : sg_C Yr ad X cX11_mostDrop RX11 4 2) (E : sg_eL Yr ad X cX11_mostDrop r)  : ∀ (s : Nat × Int64 × Int32) (M : sg_M), gX11_mostDrop_4 N s M = some r → sg_K Yr s.1 11 → sg_T Yr ad X 4 4 [(0, .ref (ad (s.1))), (1, .long (s.2.1)), (3, .int (s.2.2))] [] M := by
  have key : ∀ n : Nat, ∀ (s : Nat × Int64 × Int32) (M : sg_M), sg_lp (bX11_mostDrop_4 N) n s M = some r → sg_K Yr s.1 11 → sg_T Yr ad X 4 4 [(0, .ref (ad (s.1))), (1, .long (s.2.1)), (3, .int (s.2.2))] [] M := by
    intro n
    induction n with
    | zero => intro s M h; cases h
    | succ n ih =>
      intro s M h hq0
      have h : bX11_mostDrop_4 N (sg_lp (bX11_mostDrop_4 N) n) s M = some r := h
      generalize sg_lp (bX11_mostDrop_4 N) n = k4 at h ih
      have hk4 := ih
      unfold bX11_mostDrop_4 at h
      refine i_iload_n C dX11_mostDrop_4 2 rfl ?_
      refine i_aload_n C dX11_mostDrop_5 0 rfl ?_
      refine s_vcI C [] vmX11_nodes lkX11_98 rfl rfl (by decide) hq0 (by decide) rfl rfl (Nat.le_of_ble_eq_true rfl) dX11_mostDrop_6 (ctX11_nodes C.inj hq0) h (fun x2 M1 h => ?_)
      refine s_icmp_ge C 28 (by decide) dX11_mostDrop_9 h (fun _ h => ?_) (fun _ h => ?_)
      · refine i_lload_n C dX11_mostDrop_28 1 rfl ?_
        exact s_lret C E dX11_mostDrop_29 h
      · refine i_lload_n C dX11_mostDrop_12 1 rfl ?_
        refine i_aload_n C dX11_mostDrop_13 0 rfl ?_
        refine i_iload_n C dX11_mostDrop_14 2 rfl ?_
        refine s_vcL C [_] vmX11_dropOf lkX11_282 rfl rfl (by decide) hq0 (by decide) rfl rfl (Nat.le_of_ble_eq_true rfl) dX11_mostDrop_15 (ctX11_dropOf C.inj hq0) h (fun x4 M3 h => ?_)
        refine s_mmaxl C (by decide) mmaxl_X11_286 mmaxl_1 math_2 mmaxl_3 (Nat.le_of_ble_eq_true rfl) dX11_mostDrop_18 ?_
        refine z_gl h (fun x5 h => ?_)
        refine i_lstore_n (lv9 := [(1, _), (0, _), (3, _)]) C 1 dX11_mostDrop_21 rfl (by decide) rfl ?_
        refine z_iinc (n := 1) (c9 := (1 : Int32)) (by decide) h (fun x6 hx h => ?_)
        refine i_iinc (lv9 := [(3, _), (1, _), (0, _)]) C dX11_mostDrop_22 2 rfl hx (by decide) rfl ?_
        refine s_goto C 4 (by decide) dX11_mostDrop_25 ?_
        exact sg_T.to (hk4 _ _ h hq0) [2, 1, 0] rfl
  exact key N
def fX11_mostDrop (N : Nat) (a0_ : Nat) (M : sg_M) : Option (Int64 × sg_M) :=
  sg_m (0 : Int64) (fun x7 : Int64 =>
  sg_m (0 : Int32) (fun x8 : Int32 =>
  gX11_mostDrop_4 N (a0_, x7, x8) M))
set_option maxHeartbeats 4000000 in
set_option maxRecDepth 100000 in
theorem tX11_mostDrop {ad : Nat → Nat} {X : sg_X} {N : Nat} {r : Int64 × sg_M} (C : sg_C Yr ad X cX11_mostDrop RX11 4 2) (E : sg_eL Yr ad X cX11_mostDrop r) : ∀ (a0_ : Nat) (M : sg_M), sg_K Yr a0_ 11 → fX11_mostDrop N a0_ M = some r → sg_T Yr ad X 4 0 [(0, .ref (ad a0_))] [] M := by
  intro a0_ M hq0 h
  unfold fX11_mostDrop at h
  refine s_lconst C (0 : Int64) dX11_mostDrop_0 (by decide) ?_
  refine z_gl h (fun x7 h => ?_)
  refine i_lstore_n (lv9 := [(1, _), (0, _)]) C 1 dX11_mostDrop_1 rfl (by decide) rfl ?_
  refine s_iconst C (0 : Int32) dX11_mostDrop_2 (by decide) ?_
  refine z_gi h (fun x8 h => ?_)
  refine i_istore_n (lv9 := [(3, _), (1, _), (0, _)]) C 3 dX11_mostDrop_3 rfl (by decide) rfl ?_
  exact sg_T.to (tX11_mostDrop_4 C E _ _ h hq0) [2, 1, 0] rfl
theorem ctX11_mostDrop {ad : Nat → Nat} {V : sg_V} {N : Nat} (hi : sg_inj Yr ad) {a0_ : Nat} {M : sg_M} (hq0 : sg_K Yr a0_ 11) : ∀ res, fX11_mostDrop N a0_ M = some res → sg_cL Yr ad V yX11_mostDrop cX11_mostDrop 4 2 [.ref (ad a0_)] M res := fun res h => sg_bodyL (by decide) hi (Nat.le_of_ble_eq_true rfl) (fun X hX C E => by subst hX; exact tX11_mostDrop C E _  _ hq0 h)
def bX11_deadLoads_4 (N : Nat)  (k4 : (Nat × Int32 × Int32) → sg_M → Option (Int32 × sg_M)) (s : Nat × Int32 × Int32) (M : sg_M) : Option (Int32 × sg_M) :=
  sg_b (fX11_nodes N s.1 M) (fun (x2 : Int32) (M1 : sg_M) =>
  if x2 ≤ s.2.2 then (
  some (s.2.1, M1)) else (
  sg_b (fX11_isDead N s.1 s.2.2 M1) (fun (x4 : Int32) (M3 : sg_M) =>
  if x4 = 0 then (
  sg_m (s.2.1 + (0 : Int32)) (fun x5 : Int32 =>
  sg_m (s.2.2 + (1 : Int32)) (fun x6 : Int32 =>
  k4 (s.1, x5, x6) M3))) else (
  if sg_ib ((6 : Int32) + s.2.2) (Yr.2.2.1 (Yr.2.2.2 s.1 1)) = true then
  if (M3.1 (Yr.2.2.2 s.1 1) (((6 : Int32) + s.2.2)).toNatClampNeg) ≤ 0 then (
  sg_m (s.2.1 + (0 : Int32)) (fun x7 : Int32 =>
  sg_m (s.2.2 + (1 : Int32)) (fun x8 : Int32 =>
  k4 (s.1, x7, x8) M3))) else (
  sg_m (s.2.1 + (1 : Int32)) (fun x9 : Int32 =>
  sg_m (s.2.2 + (1 : Int32)) (fun x10 : Int32 =>
  k4 (s.1, x9, x10) M3)))
  else none))))
def gX11_deadLoads_4 (N : Nat)  : (Nat × Int32 × Int32) → sg_M → Option (Int32 × sg_M) := sg_lp (bX11_deadLoads_4 N ) N
set_option maxHeartbeats 4000000 in
set_option maxRecDepth 100000 in
theorem tX11_deadLoads_4 {ad : Nat → Nat} {X : sg_X} {N : Nat} {r : Int32 × sg_M} (C : sg_C Yr ad X cX11_deadLoads RX11 3 2) (E : sg_eI Yr ad X cX11_deadLoads .int r)  : ∀ (s : Nat × Int32 × Int32) (M : sg_M), gX11_deadLoads_4 N s M = some r → sg_K Yr s.1 11 → sg_T Yr ad X 3 4 [(0, .ref (ad (s.1))), (1, .int (s.2.1)), (2, .int (s.2.2))] [] M := by
  have key : ∀ n : Nat, ∀ (s : Nat × Int32 × Int32) (M : sg_M), sg_lp (bX11_deadLoads_4 N) n s M = some r → sg_K Yr s.1 11 → sg_T Yr ad X 3 4 [(0, .ref (ad (s.1))), (1, .int (s.2.1)), (2, .int (s.2.2))] [] M := by
    intro n
    induction n with
    | zero => intro s M h; cases h
    | succ n ih =>
      intro s M h hq0
      have h : bX11_deadLoads_4 N (sg_lp (bX11_deadLoads_4 N) n) s M = some r := h
      generalize sg_lp (bX11_deadLoads_4 N) n = k4 at h ih
      have hk4 := ih
      unfold bX11_deadLoads_4 at h
      refine i_iload_n C dX11_deadLoads_4 2 rfl ?_
      refine i_aload_n C dX11_deadLoads_5 0 rfl ?_
      refine s_vcI C [] vmX11_nodes lkX11_98 rfl rfl (by decide) hq0 (by decide) rfl rfl (Nat.le_of_ble_eq_true rfl) dX11_deadLoads_6 (ctX11_nodes C.inj hq0) h (fun x2 M1 h => ?_)
      refine s_icmp_ge C 46 (by decide) dX11_deadLoads_9 h (fun _ h => ?_) (fun _ h => ?_)
      · refine i_iload_n C dX11_deadLoads_46 1 rfl ?_
        exact s_iret C E dX11_deadLoads_47 h
      · refine i_iload_n C dX11_deadLoads_12 1 rfl ?_
        refine i_aload_n C dX11_deadLoads_13 0 rfl ?_
        refine i_iload_n C dX11_deadLoads_14 2 rfl ?_
        refine s_vcI C [_] vmX11_isDead lkX11_288 rfl rfl (by decide) hq0 (by decide) rfl rfl (Nat.le_of_ble_eq_true rfl) dX11_deadLoads_15 (ctX11_isDead C.inj hq0) h (fun x4 M3 h => ?_)
        refine s_if_eq C 37 (by decide) dX11_deadLoads_18 h (fun _ h => ?_) (fun _ h => ?_)
        · refine s_iconst C (0 : Int32) dX11_deadLoads_37 (by decide) ?_
          refine s_iadd C dX11_deadLoads_38 ?_
          refine z_gi h (fun x5 h => ?_)
          refine i_istore_n (lv9 := [(1, _), (0, _), (2, _)]) C 1 dX11_deadLoads_39 rfl (by decide) rfl ?_
          refine z_iinc (n := 1) (c9 := (1 : Int32)) (by decide) h (fun x6 hx h => ?_)
          refine i_iinc (lv9 := [(2, _), (1, _), (0, _)]) C dX11_deadLoads_40 2 rfl hx (by decide) rfl ?_
          refine s_goto C 4 (by decide) dX11_deadLoads_43 ?_
          exact sg_T.to (hk4 _ _ h hq0) [2, 1, 0] rfl
        · refine i_aload_n C dX11_deadLoads_21 0 rfl ?_
          refine gf11_9 C hq0 dX11_deadLoads_22 ?_
          refine s_bipush C (6 : Int32) dX11_deadLoads_25 (by decide) ?_
          refine i_iload_n C dX11_deadLoads_27 2 rfl ?_
          refine s_iadd C dX11_deadLoads_28 ?_
          refine s_iald C (ky11_1 hq0) dX11_deadLoads_29 h (fun h => ?_)
          refine s_if_le C 37 (by decide) dX11_deadLoads_30 h (fun _ h => ?_) (fun _ h => ?_)
          · refine s_iconst C (0 : Int32) dX11_deadLoads_37 (by decide) ?_
            refine s_iadd C dX11_deadLoads_38 ?_
            refine z_gi h (fun x7 h => ?_)
            refine i_istore_n (lv9 := [(1, _), (0, _), (2, _)]) C 1 dX11_deadLoads_39 rfl (by decide) rfl ?_
            refine z_iinc (n := 1) (c9 := (1 : Int32)) (by decide) h (fun x8 hx h => ?_)
            refine i_iinc (lv9 := [(2, _), (1, _), (0, _)]) C dX11_deadLoads_40 2 rfl hx (by decide) rfl ?_
            refine s_goto C 4 (by decide) dX11_deadLoads_43 ?_
            exact sg_T.to (hk4 _ _ h hq0) [2, 1, 0] rfl
          · refine s_iconst C (1 : Int32) dX11_deadLoads_33 (by decide) ?_
            refine s_goto C 38 (by decide) dX11_deadLoads_34 ?_
            refine s_iadd C dX11_deadLoads_38 ?_
            refine z_gi h (fun x9 h => ?_)
            refine i_istore_n (lv9 := [(1, _), (0, _), (2, _)]) C 1 dX11_deadLoads_39 rfl (by decide) rfl ?_
            refine z_iinc (n := 1) (c9 := (1 : Int32)) (by decide) h (fun x10 hx h => ?_)
            refine i_iinc (lv9 := [(2, _), (1, _), (0, _)]) C dX11_deadLoads_40 2 rfl hx (by decide) rfl ?_
            refine s_goto C 4 (by decide) dX11_deadLoads_43 ?_
            exact sg_T.to (hk4 _ _ h hq0) [2, 1, 0] rfl
  exact key N
def fX11_deadLoads (N : Nat) (a0_ : Nat) (M : sg_M) : Option (Int32 × sg_M) :=
  sg_m (0 : Int32) (fun x11 : Int32 =>
  sg_m (0 : Int32) (fun x12 : Int32 =>
  gX11_deadLoads_4 N (a0_, x11, x12) M))
set_option maxHeartbeats 4000000 in
set_option maxRecDepth 100000 in
theorem tX11_deadLoads {ad : Nat → Nat} {X : sg_X} {N : Nat} {r : Int32 × sg_M} (C : sg_C Yr ad X cX11_deadLoads RX11 3 2) (E : sg_eI Yr ad X cX11_deadLoads .int r) : ∀ (a0_ : Nat) (M : sg_M), sg_K Yr a0_ 11 → fX11_deadLoads N a0_ M = some r → sg_T Yr ad X 3 0 [(0, .ref (ad a0_))] [] M := by
  intro a0_ M hq0 h
  unfold fX11_deadLoads at h
  refine s_iconst C (0 : Int32) dX11_deadLoads_0 (by decide) ?_
  refine z_gi h (fun x11 h => ?_)
  refine i_istore_n (lv9 := [(1, _), (0, _)]) C 1 dX11_deadLoads_1 rfl (by decide) rfl ?_
  refine s_iconst C (0 : Int32) dX11_deadLoads_2 (by decide) ?_
  refine z_gi h (fun x12 h => ?_)
  refine i_istore_n (lv9 := [(2, _), (1, _), (0, _)]) C 2 dX11_deadLoads_3 rfl (by decide) rfl ?_
  exact sg_T.to (tX11_deadLoads_4 C E _ _ h hq0) [2, 1, 0] rfl
theorem ctX11_deadLoads {ad : Nat → Nat} {V : sg_V} {N : Nat} (hi : sg_inj Yr ad) {a0_ : Nat} {M : sg_M} (hq0 : sg_K Yr a0_ 11) : ∀ res, fX11_deadLoads N a0_ M = some res → sg_cI Yr ad V yX11_deadLoads cX11_deadLoads 3 .int 2 [.ref (ad a0_)] M res := fun res h => sg_bodyI (by decide) hi (Nat.le_of_ble_eq_true rfl) (fun X hX C E => by subst hX; exact tX11_deadLoads C E _  _ hq0 h)
def fX11_doesHold (N : Nat) (a0_ : Nat) (M : sg_M) : Option (Int32 × sg_M) :=
  sg_bv (fX11_lays N a0_ M) (fun M1 : sg_M =>
  sg_b (fX11_deadLoads N a0_ M1) (fun (x3 : Int32) (M2 : sg_M) =>
  if x3 = 0 then (
  sg_b (fX11_mostDrop N a0_ M2) (fun (x5 : Int64) (M4 : sg_M) =>
  if sg_ib (2 : Int32) (Yr.2.2.1 (Yr.2.2.2 a0_ 1)) = true then
  if 0 < (lg_cmp x5 (((M4.1 (Yr.2.2.2 a0_ 1) ((2 : Int32)).toNatClampNeg)).toInt64 * (M4.2 a0_ 26))) then (
  some ((0 : Int32), M4)) else (
  some ((1 : Int32), M4))
  else none)) else (
  some ((0 : Int32), M2))))
set_option maxHeartbeats 4000000 in
set_option maxRecDepth 100000 in
theorem tX11_doesHold {ad : Nat → Nat} {X : sg_X} {N : Nat} {r : Int32 × sg_M} (C : sg_C Yr ad X cX11_doesHold RX11 1 5) (E : sg_eI Yr ad X cX11_doesHold .boolean r) : ∀ (a0_ : Nat) (M : sg_M), sg_K Yr a0_ 11 → fX11_doesHold N a0_ M = some r → sg_T Yr ad X 1 0 [(0, .ref (ad a0_))] [] M := by
  intro a0_ M hq0 h
  unfold fX11_doesHold at h
  refine i_aload_n C dX11_doesHold_0 0 rfl ?_
  refine s_vcV C [] vmX11_lays lkX11_292 rfl rfl (by decide) hq0 (by decide) rfl rfl (Nat.le_of_ble_eq_true rfl) dX11_doesHold_1 (ctX11_lays C.inj hq0) h (fun M1 h => ?_)
  refine i_aload_n C dX11_doesHold_4 0 rfl ?_
  refine s_vcI C [] vmX11_deadLoads lkX11_295 rfl rfl (by decide) hq0 (by decide) rfl rfl (Nat.le_of_ble_eq_true rfl) dX11_doesHold_5 (ctX11_deadLoads C.inj hq0) h (fun x3 M2 h => ?_)
  refine s_if_ne C 35 (by decide) dX11_doesHold_8 h (fun _ h => ?_) (fun _ h => ?_)
  · refine i_aload_n C dX11_doesHold_11 0 rfl ?_
    refine s_vcL C [] vmX11_mostDrop lkX11_298 rfl rfl (by decide) hq0 (by decide) rfl rfl (Nat.le_of_ble_eq_true rfl) dX11_doesHold_12 (ctX11_mostDrop C.inj hq0) h (fun x5 M4 h => ?_)
    refine i_aload_n C dX11_doesHold_15 0 rfl ?_
    refine gf11_9 C hq0 dX11_doesHold_16 ?_
    refine s_iconst C (2 : Int32) dX11_doesHold_19 (by decide) ?_
    refine s_iald C (ky11_1 hq0) dX11_doesHold_20 h (fun h => ?_)
    refine s_i2l C dX11_doesHold_21 ?_
    refine i_aload_n C dX11_doesHold_22 0 rfl ?_
    refine gf11_50 C hq0 dX11_doesHold_23 ?_
    refine s_lmul C dX11_doesHold_26 ?_
    refine s_lcmp C dX11_doesHold_27 ?_
    refine s_if_gt C 35 (by decide) dX11_doesHold_28 h (fun _ h => ?_) (fun _ h => ?_)
    · refine s_iconst C (0 : Int32) dX11_doesHold_35 (by decide) ?_
      exact s_zret1 C E (by decide) dX11_doesHold_36 h
    · refine s_iconst C (1 : Int32) dX11_doesHold_31 (by decide) ?_
      refine s_goto C 36 (by decide) dX11_doesHold_32 ?_
      exact s_zret1 C E (by decide) dX11_doesHold_36 h
  · refine s_iconst C (0 : Int32) dX11_doesHold_35 (by decide) ?_
    exact s_zret1 C E (by decide) dX11_doesHold_36 h
theorem ctX11_doesHold {ad : Nat → Nat} {V : sg_V} {N : Nat} (hi : sg_inj Yr ad) {a0_ : Nat} {M : sg_M} (hq0 : sg_K Yr a0_ 11) : ∀ res, fX11_doesHold N a0_ M = some res → sg_cI Yr ad V yX11_doesHold cX11_doesHold 1 .boolean 5 [.ref (ad a0_)] M res := fun res h => sg_bodyI (by decide) hi (Nat.le_of_ble_eq_true rfl) (fun X hX C E => by subst hX; exact tX11_doesHold C E _  _ hq0 h)
def gX11_asks_11 (N : Nat)  (a0_ : Nat) (M : sg_M) : Option (Int32 × sg_M) :=
  sg_b (fX11_isGrid N a0_ M) (fun (x2 : Int32) (M1 : sg_M) =>
  if sg_bz x2 = true then some (x2, M1) else none)
set_option maxHeartbeats 4000000 in
set_option maxRecDepth 100000 in
theorem tX11_asks_11 {ad : Nat → Nat} {X : sg_X} {N : Nat} {r : Int32 × sg_M} (C : sg_C Yr ad X cX11_asks RX11 1 5) (E : sg_eI Yr ad X cX11_asks .boolean r)  : ∀ (a0_ : Nat) (M : sg_M), gX11_asks_11 N a0_ M = some r → sg_K Yr a0_ 11 → sg_T Yr ad X 1 11 [(0, .ref (ad a0_))] [] M := by
  intro a0_ M h hq0
  unfold gX11_asks_11 at h
  refine i_aload_n C dX11_asks_11 0 rfl ?_
  refine s_vcI C [] vmX11_isGrid lkX11_109 rfl rfl (by decide) hq0 (by decide) rfl rfl (Nat.le_of_ble_eq_true rfl) dX11_asks_12 (ctX11_isGrid C.inj hq0) h (fun x2 M1 h => ?_)
  exact s_zret C E dX11_asks_15 h
def fX11_asks (N : Nat) (a0_ : Nat) (M : sg_M) : Option (Int32 × sg_M) :=
  sg_b (fX11_isGrid N a0_ M) (fun (x4 : Int32) (M3 : sg_M) =>
  if x4 = 0 then (
  gX11_asks_11 N a0_ M3) else (
  sg_bv (fX11_lays N a0_ M3) (fun M5 : sg_M =>
  gX11_asks_11 N a0_ M5)))
set_option maxHeartbeats 4000000 in
set_option maxRecDepth 100000 in
theorem tX11_asks {ad : Nat → Nat} {X : sg_X} {N : Nat} {r : Int32 × sg_M} (C : sg_C Yr ad X cX11_asks RX11 1 5) (E : sg_eI Yr ad X cX11_asks .boolean r) : ∀ (a0_ : Nat) (M : sg_M), sg_K Yr a0_ 11 → fX11_asks N a0_ M = some r → sg_T Yr ad X 1 0 [(0, .ref (ad a0_))] [] M := by
  intro a0_ M hq0 h
  unfold fX11_asks at h
  refine i_aload_n C dX11_asks_0 0 rfl ?_
  refine s_vcI C [] vmX11_isGrid lkX11_109 rfl rfl (by decide) hq0 (by decide) rfl rfl (Nat.le_of_ble_eq_true rfl) dX11_asks_1 (ctX11_isGrid C.inj hq0) h (fun x4 M3 h => ?_)
  refine s_if_eq C 11 (by decide) dX11_asks_4 h (fun _ h => ?_) (fun _ h => ?_)
  · exact sg_T.to (tX11_asks_11 C E _ _ h hq0) [0] rfl
  · refine i_aload_n C dX11_asks_7 0 rfl ?_
    refine s_vcV C [] vmX11_lays lkX11_292 rfl rfl (by decide) hq0 (by decide) rfl rfl (Nat.le_of_ble_eq_true rfl) dX11_asks_8 (ctX11_lays C.inj hq0) h (fun M5 h => ?_)
    exact sg_T.to (tX11_asks_11 C E _ _ h hq0) [0] rfl
theorem ctX11_asks {ad : Nat → Nat} {V : sg_V} {N : Nat} (hi : sg_inj Yr ad) {a0_ : Nat} {M : sg_M} (hq0 : sg_K Yr a0_ 11) : ∀ res, fX11_asks N a0_ M = some res → sg_cI Yr ad V yX11_asks cX11_asks 1 .boolean 5 [.ref (ad a0_)] M res := fun res h => sg_bodyI (by decide) hi (Nat.le_of_ble_eq_true rfl) (fun X hX C E => by subst hX; exact tX11_asks C E _  _ hq0 h)
def fX11_isPart (N : Nat) (x0_ : Int32) (M : sg_M) : Option (Int32 × sg_M) :=
  sg_b (fX11_in N (x0_).toInt64 (0 : Int64) (1 : Int64) M) (fun (x2 : Int32) (M1 : sg_M) =>
  if sg_bz x2 = true then some (x2, M1) else none)
set_option maxHeartbeats 4000000 in
set_option maxRecDepth 100000 in
theorem tX11_isPart {ad : Nat → Nat} {X : sg_X} {N : Nat} {r : Int32 × sg_M} (C : sg_C Yr ad X cX11_isPart RX11 1 1) (E : sg_eI Yr ad X cX11_isPart .boolean r) : ∀ (x0_ : Int32) (M : sg_M), fX11_isPart N x0_ M = some r → sg_T Yr ad X 1 0 [(0, .int x0_)] [] M := by
  intro x0_ M  h
  unfold fX11_isPart at h
  refine i_iload_n C dX11_isPart_0 0 rfl ?_
  refine s_i2l C dX11_isPart_1 ?_
  refine s_lconst C (0 : Int64) dX11_isPart_2 (by decide) ?_
  refine s_lconst C (1 : Int64) dX11_isPart_3 (by decide) ?_
  refine s_scI C [_, _, _] smX11_in lkX11_87 (by decide) rfl rfl (Nat.le_of_ble_eq_true rfl) dX11_isPart_4 (ctX11_in C.inj ) h (fun x2 M1 h => ?_)
  exact s_zret C E dX11_isPart_7 h
theorem ctX11_isPart {ad : Nat → Nat} {V : sg_V} {N : Nat} (hi : sg_inj Yr ad) {x0_ : Int32} {M : sg_M}  : ∀ res, fX11_isPart N x0_ M = some res → sg_cI Yr ad V yX11_isPart cX11_isPart 1 .boolean 1 [.int x0_] M res := fun res h => sg_bodyI (by decide) hi (Nat.le_of_ble_eq_true rfl) (fun X hX C E => by subst hX; exact tX11_isPart C E _  _ h)
def fX11_count (N : Nat) (a0_ : Nat) (x1_ : Int32) (M : sg_M) : Option (Int32 × sg_M) :=
  if x1_ = (0 : Int32) then (
  if sg_ib (0 : Int32) (Yr.2.2.1 (Yr.2.2.2 a0_ 1)) = true then
  some ((M.1 (Yr.2.2.2 a0_ 1) ((0 : Int32)).toNatClampNeg), M)
  else none) else (
  if x1_ = (1 : Int32) then (
  if sg_ib (1 : Int32) (Yr.2.2.1 (Yr.2.2.2 a0_ 1)) = true then
  some ((M.1 (Yr.2.2.2 a0_ 1) ((1 : Int32)).toNatClampNeg), M)
  else none) else (
  if x1_ = (2 : Int32) then (
  if sg_ib (2 : Int32) (Yr.2.2.1 (Yr.2.2.2 a0_ 1)) = true then
  some ((M.1 (Yr.2.2.2 a0_ 1) ((2 : Int32)).toNatClampNeg), M)
  else none) else (
  if x1_ = (3 : Int32) then (
  if sg_ib (3 : Int32) (Yr.2.2.1 (Yr.2.2.2 a0_ 1)) = true then
  some ((M.1 (Yr.2.2.2 a0_ 1) ((3 : Int32)).toNatClampNeg), M)
  else none) else (
  if x1_ = (4 : Int32) then (
  sg_b (fX11_straps N a0_ M) (fun (x2 : Int32) (M1 : sg_M) =>
  some (x2, M1))) else (
  if x1_ = (5 : Int32) then (
  some ((M.1 a0_ 4), M)) else (
  if x1_ = (6 : Int32) then (
  if sg_ib (4 : Int32) (Yr.2.2.1 (Yr.2.2.2 a0_ 1)) = true then
  some ((M.1 (Yr.2.2.2 a0_ 1) ((4 : Int32)).toNatClampNeg), M)
  else none) else (
  if x1_ = (7 : Int32) then (
  some ((M.1 a0_ 10), M)) else (
  if x1_ = (8 : Int32) then (
  if sg_ib (5 : Int32) (Yr.2.2.1 (Yr.2.2.2 a0_ 1)) = true then
  some ((M.1 (Yr.2.2.2 a0_ 1) ((5 : Int32)).toNatClampNeg), M)
  else none) else (
  if x1_ = (9 : Int32) then (
  sg_b (fX11_asks N a0_ M) (fun (x4 : Int32) (M3 : sg_M) =>
  if x4 = 0 then (
  some ((0 : Int32), M3)) else (
  some ((M3.1 a0_ 21), M3)))) else (
  some ((-1 : Int32), M)))))))))))
set_option maxHeartbeats 4000000 in
set_option maxRecDepth 100000 in
theorem tX11_count {ad : Nat → Nat} {X : sg_X} {N : Nat} {r : Int32 × sg_M} (C : sg_C Yr ad X cX11_count RX11 2 6) (E : sg_eI Yr ad X cX11_count .int r) : ∀ (a0_ : Nat) (x1_ : Int32) (M : sg_M), sg_K Yr a0_ 11 → fX11_count N a0_ x1_ M = some r → sg_T Yr ad X 2 0 [(0, .ref (ad a0_)), (1, .int x1_)] [] M := by
  intro a0_ x1_ M hq0 h
  unfold fX11_count at h
  refine i_iload_n C dX11_count_0 1 rfl ?_
  refine z_if h (fun e h => ?_) (fun e0 h => ?_)
  · refine s_tabIn (off := 55) C 56 e (by decide) (by decide) dX11_count_1 ?_
    refine i_aload_n C dX11_count_56 0 rfl ?_
    refine gf11_9 C hq0 dX11_count_57 ?_
    refine s_iconst C (0 : Int32) dX11_count_60 (by decide) ?_
    refine s_iald C (ky11_1 hq0) dX11_count_61 h (fun h => ?_)
    exact s_iret C E dX11_count_62 h
  refine z_if h (fun e h => ?_) (fun e1 h => ?_)
  · refine s_tabIn (off := 62) C 63 e (by decide) (by decide) dX11_count_1 ?_
    refine i_aload_n C dX11_count_63 0 rfl ?_
    refine gf11_9 C hq0 dX11_count_64 ?_
    refine s_iconst C (1 : Int32) dX11_count_67 (by decide) ?_
    refine s_iald C (ky11_1 hq0) dX11_count_68 h (fun h => ?_)
    exact s_iret C E dX11_count_69 h
  refine z_if h (fun e h => ?_) (fun e2 h => ?_)
  · refine s_tabIn (off := 69) C 70 e (by decide) (by decide) dX11_count_1 ?_
    refine i_aload_n C dX11_count_70 0 rfl ?_
    refine gf11_9 C hq0 dX11_count_71 ?_
    refine s_iconst C (2 : Int32) dX11_count_74 (by decide) ?_
    refine s_iald C (ky11_1 hq0) dX11_count_75 h (fun h => ?_)
    exact s_iret C E dX11_count_76 h
  refine z_if h (fun e h => ?_) (fun e3 h => ?_)
  · refine s_tabIn (off := 76) C 77 e (by decide) (by decide) dX11_count_1 ?_
    refine i_aload_n C dX11_count_77 0 rfl ?_
    refine gf11_9 C hq0 dX11_count_78 ?_
    refine s_iconst C (3 : Int32) dX11_count_81 (by decide) ?_
    refine s_iald C (ky11_1 hq0) dX11_count_82 h (fun h => ?_)
    exact s_iret C E dX11_count_83 h
  refine z_if h (fun e h => ?_) (fun e4 h => ?_)
  · refine s_tabIn (off := 83) C 84 e (by decide) (by decide) dX11_count_1 ?_
    refine i_aload_n C dX11_count_84 0 rfl ?_
    refine s_vcI C [] vmX11_straps lkX11_116 rfl rfl (by decide) hq0 (by decide) rfl rfl (Nat.le_of_ble_eq_true rfl) dX11_count_85 (ctX11_straps C.inj hq0) h (fun x2 M1 h => ?_)
    exact s_iret C E dX11_count_88 h
  refine z_if h (fun e h => ?_) (fun e5 h => ?_)
  · refine s_tabIn (off := 88) C 89 e (by decide) (by decide) dX11_count_1 ?_
    refine i_aload_n C dX11_count_89 0 rfl ?_
    refine gf11_91 C hq0 dX11_count_90 ?_
    exact s_iret C E dX11_count_93 h
  refine z_if h (fun e h => ?_) (fun e6 h => ?_)
  · refine s_tabIn (off := 93) C 94 e (by decide) (by decide) dX11_count_1 ?_
    refine i_aload_n C dX11_count_94 0 rfl ?_
    refine gf11_9 C hq0 dX11_count_95 ?_
    refine s_iconst C (4 : Int32) dX11_count_98 (by decide) ?_
    refine s_iald C (ky11_1 hq0) dX11_count_99 h (fun h => ?_)
    exact s_iret C E dX11_count_100 h
  refine z_if h (fun e h => ?_) (fun e7 h => ?_)
  · refine s_tabIn (off := 100) C 101 e (by decide) (by decide) dX11_count_1 ?_
    refine i_aload_n C dX11_count_101 0 rfl ?_
    refine gf11_126 C hq0 dX11_count_102 ?_
    exact s_iret C E dX11_count_105 h
  refine z_if h (fun e h => ?_) (fun e8 h => ?_)
  · refine s_tabIn (off := 105) C 106 e (by decide) (by decide) dX11_count_1 ?_
    refine i_aload_n C dX11_count_106 0 rfl ?_
    refine gf11_9 C hq0 dX11_count_107 ?_
    refine s_iconst C (5 : Int32) dX11_count_110 (by decide) ?_
    refine s_iald C (ky11_1 hq0) dX11_count_111 h (fun h => ?_)
    exact s_iret C E dX11_count_112 h
  refine z_if h (fun e h => ?_) (fun e9 h => ?_)
  · refine s_tabIn (off := 112) C 113 e (by decide) (by decide) dX11_count_1 ?_
    refine i_aload_n C dX11_count_113 0 rfl ?_
    refine s_vcI C [] vmX11_asks lkX11_302 rfl rfl (by decide) hq0 (by decide) rfl rfl (Nat.le_of_ble_eq_true rfl) dX11_count_114 (ctX11_asks C.inj hq0) h (fun x4 M3 h => ?_)
    refine s_if_eq C 127 (by decide) dX11_count_117 h (fun _ h => ?_) (fun _ h => ?_)
    · refine s_iconst C (0 : Int32) dX11_count_127 (by decide) ?_
      exact s_iret C E dX11_count_128 h
    · refine i_aload_n C dX11_count_120 0 rfl ?_
      refine gf11_266 C hq0 dX11_count_121 ?_
      refine s_goto C 128 (by decide) dX11_count_124 ?_
      exact s_iret C E dX11_count_128 h
  refine s_tabOut C 129 (by have q0 := sg_ne (a := 0) e0 (by decide); have q1 := sg_ne (a := 1) e1 (by decide); have q2 := sg_ne (a := 2) e2 (by decide); have q3 := sg_ne (a := 3) e3 (by decide); have q4 := sg_ne (a := 4) e4 (by decide); have q5 := sg_ne (a := 5) e5 (by decide); have q6 := sg_ne (a := 6) e6 (by decide); have q7 := sg_ne (a := 7) e7 (by decide); have q8 := sg_ne (a := 8) e8 (by decide); have q9 := sg_ne (a := 9) e9 (by decide); omega) (by decide) dX11_count_1 ?_
  refine s_iconst C (-1 : Int32) dX11_count_129 (by decide) ?_
  exact s_iret C E dX11_count_130 h
theorem ctX11_count {ad : Nat → Nat} {V : sg_V} {N : Nat} (hi : sg_inj Yr ad) {a0_ : Nat} {x1_ : Int32} {M : sg_M} (hq0 : sg_K Yr a0_ 11) : ∀ res, fX11_count N a0_ x1_ M = some res → sg_cI Yr ad V yX11_count cX11_count 2 .int 6 [.ref (ad a0_), .int x1_] M res := fun res h => sg_bodyI (by decide) hi (Nat.le_of_ble_eq_true rfl) (fun X hX C E => by subst hX; exact tX11_count C E _ _  _ hq0 h)
