def bJ7_fill_53178_5 (N : Nat)  (k5 : (Nat × Int32 × Int32 × Int32) → sg_M → Option (sg_M)) (s : Nat × Int32 × Int32 × Int32) (M : sg_M) : Option (sg_M) :=
  if s.2.2.2 ≤ s.2.2.1 then (
  some M) else (
  if sg_ib s.2.2.1 (Yc.2.2.1 s.1) = true then
  sg_m (sg_uI M s.1 (s.2.2.1).toNatClampNeg s.2.1) (fun M1 : sg_M =>
  sg_m (s.2.2.1 + (1 : Int32)) (fun x2 : Int32 =>
  k5 (s.1, s.2.1, x2, s.2.2.2) M1))
  else none)
def gJ7_fill_53178_5 (N : Nat)  : (Nat × Int32 × Int32 × Int32) → sg_M → Option (sg_M) := sg_lp (bJ7_fill_53178_5 N ) N
set_option maxHeartbeats 4000000 in
set_option maxRecDepth 100000 in
theorem tJ7_fill_53178_5 {ad : Nat → Nat} {X : sg_X} {N : Nat} {r : sg_M} (C : sg_C Yc ad X cJ7_fill_53178 RJ7 4 0) (E : sg_eV Yc ad X cJ7_fill_53178 r)  : ∀ (s : Nat × Int32 × Int32 × Int32) (M : sg_M), gJ7_fill_53178_5 N s M = some r → sg_K Yc s.1 13 → sg_T Yc ad X 4 5 [(0, .ref (ad (s.1))), (1, .int (s.2.1)), (2, .int (s.2.2.1)), (3, .int (s.2.2.2))] [] M := by
  have key : ∀ n : Nat, ∀ (s : Nat × Int32 × Int32 × Int32) (M : sg_M), sg_lp (bJ7_fill_53178_5 N) n s M = some r → sg_K Yc s.1 13 → sg_T Yc ad X 4 5 [(0, .ref (ad (s.1))), (1, .int (s.2.1)), (2, .int (s.2.2.1)), (3, .int (s.2.2.2))] [] M := by
    intro n
    induction n with
    | zero => intro s M h; cases h
    | succ n ih =>
      intro s M h hq0
      have h : bJ7_fill_53178_5 N (sg_lp (bJ7_fill_53178_5 N) n) s M = some r := h
      generalize sg_lp (bJ7_fill_53178_5 N) n = k5 at h ih
      have hk5 := ih
      unfold bJ7_fill_53178_5 at h
      refine i_iload_n C dJ7_fill_53178_5 2 rfl ?_
      refine i_iload_n C dJ7_fill_53178_6 3 rfl ?_
      refine s_icmp_ge C 20 (by decide) dJ7_fill_53178_7 h (fun _ h => ?_) (fun _ h => ?_)
      · exact s_vret C E dJ7_fill_53178_20 h
      · refine i_aload_n C dJ7_fill_53178_10 0 rfl ?_
        refine i_iload_n C dJ7_fill_53178_11 2 rfl ?_
        refine i_iload_n C dJ7_fill_53178_12 1 rfl ?_
        refine s_iast C hq0 dJ7_fill_53178_13 h (fun h => ?_)
        refine z_gM h (fun M1 h => ?_)
        refine z_iinc (n := 1) (c9 := (1 : Int32)) (by decide) h (fun x2 hx h => ?_)
        refine i_iinc (lv9 := [(2, _), (0, _), (1, _), (3, _)]) C dJ7_fill_53178_14 2 rfl hx (by decide) rfl ?_
        refine s_goto C 5 (by decide) dJ7_fill_53178_17 ?_
        exact sg_T.to (hk5 _ _ h hq0) [1, 2, 0, 3] rfl
  exact key N
def fJ7_fill_53178 (N : Nat) (a0_ : Nat) (x1_ : Int32) (M : sg_M) : Option (sg_M) :=
  sg_m (0 : Int32) (fun x3 : Int32 =>
  sg_m (Int32.ofNat (Yc.2.2.1 a0_)) (fun x4 : Int32 =>
  gJ7_fill_53178_5 N (a0_, x1_, x3, x4) M))
set_option maxHeartbeats 4000000 in
set_option maxRecDepth 100000 in
theorem tJ7_fill_53178 {ad : Nat → Nat} {X : sg_X} {N : Nat} {r : sg_M} (C : sg_C Yc ad X cJ7_fill_53178 RJ7 4 0) (E : sg_eV Yc ad X cJ7_fill_53178 r) : ∀ (a0_ : Nat) (x1_ : Int32) (M : sg_M), sg_K Yc a0_ 13 → fJ7_fill_53178 N a0_ x1_ M = some r → sg_T Yc ad X 4 0 [(0, .ref (ad a0_)), (1, .int x1_)] [] M := by
  intro a0_ x1_ M hq0 h
  unfold fJ7_fill_53178 at h
  refine s_iconst C (0 : Int32) dJ7_fill_53178_0 (by decide) ?_
  refine z_gi h (fun x3 h => ?_)
  refine i_istore_n (lv9 := [(2, _), (0, _), (1, _)]) C 2 dJ7_fill_53178_1 rfl (by decide) rfl ?_
  refine i_aload_n C dJ7_fill_53178_2 1 rfl ?_
  refine s_alenI C hq0 dJ7_fill_53178_3 ?_
  refine z_gi h (fun x4 h => ?_)
  refine i_istore_n (lv9 := [(3, _), (2, _), (0, _), (1, _)]) C 3 dJ7_fill_53178_4 rfl (by decide) rfl ?_
  exact sg_T.to (tJ7_fill_53178_5 C E _ _ h hq0) [2, 3, 1, 0] rfl
theorem ctJ7_fill_53178 {ad : Nat → Nat} {V : sg_V} {N : Nat} (hi : sg_inj Yc ad) {a0_ : Nat} {x1_ : Int32} {M : sg_M} (hq0 : sg_K Yc a0_ 13) : ∀ res, fJ7_fill_53178 N a0_ x1_ M = some res → sg_cV Yc ad V yJ7_fill_53178 cJ7_fill_53178 4 0 [.ref (ad a0_), .int x1_] M res := fun res h => sg_bodyV (by decide) hi (Nat.le_of_ble_eq_true rfl) (fun X hX C E => by subst hX; exact tJ7_fill_53178 C E _ _  _ hq0 h)
def bX4_spread_18 (N : Nat) (k5 : (Nat × Nat × Int32 × Int32) → sg_M → Option (Int32 × sg_M)) (k18 : (Nat × Nat × Int32 × Int32 × Int32 × Int32) → sg_M → Option (Int32 × sg_M)) (s : Nat × Nat × Int32 × Int32 × Int32 × Int32) (M : sg_M) : Option (Int32 × sg_M) :=
  if (M.1 s.1 6) ≤ s.2.2.2.2.2 then (
  if s.2.2.1 = s.2.2.2.2.1 then (
  some (s.2.2.1, M)) else (
  sg_m (s.2.2.2.1 + (1 : Int32)) (fun x1 : Int32 =>
  k5 (s.1, s.2.1, s.2.2.1, x1) M))) else (
  if sg_ib s.2.2.2.2.2 (Yc.2.2.1 (Yc.2.2.2 s.1 9)) = true then
  if sg_ib s.2.2.2.2.2 (Yc.2.2.1 (Yc.2.2.2 s.1 10)) = true then
  sg_m (((1 : Int32) <<< ((M.1 (Yc.2.2.2 s.1 9) (s.2.2.2.2.2).toNatClampNeg) &&& 31)) ||| ((1 : Int32) <<< ((M.1 (Yc.2.2.2 s.1 10) (s.2.2.2.2.2).toNatClampNeg) &&& 31))) (fun x2 : Int32 =>
  if sg_ib s.2.2.2.2.2 (Yc.2.2.1 s.2.1) = true then
  if (M.1 s.2.1 (s.2.2.2.2.2).toNatClampNeg) ≤ 0 then (
  sg_m (s.2.2.2.2.2 + (1 : Int32)) (fun x3 : Int32 =>
  k18 (s.1, s.2.1, s.2.2.1, s.2.2.2.1, s.2.2.2.2.1, x3) M)) else (
  if (s.2.2.1 &&& x2) = 0 then (
  sg_m (s.2.2.2.2.2 + (1 : Int32)) (fun x4 : Int32 =>
  k18 (s.1, s.2.1, s.2.2.1, s.2.2.2.1, s.2.2.2.2.1, x4) M)) else (
  sg_m (s.2.2.1 ||| x2) (fun x5 : Int32 =>
  sg_m (s.2.2.2.2.2 + (1 : Int32)) (fun x6 : Int32 =>
  k18 (s.1, s.2.1, x5, s.2.2.2.1, s.2.2.2.2.1, x6) M))))
  else none)
  else none
  else none)
def gX4_spread_18 (N : Nat) (k5 : (Nat × Nat × Int32 × Int32) → sg_M → Option (Int32 × sg_M)) : (Nat × Nat × Int32 × Int32 × Int32 × Int32) → sg_M → Option (Int32 × sg_M) := sg_lp (bX4_spread_18 N k5) N
set_option maxHeartbeats 4000000 in
set_option maxRecDepth 100000 in
theorem tX4_spread_18 {ad : Nat → Nat} {X : sg_X} {N : Nat} {r : Int32 × sg_M} (C : sg_C Yc ad X cX4_spread RX4 8 0) (E : sg_eI Yc ad X cX4_spread .int r) {k5 : (Nat × Nat × Int32 × Int32) → sg_M → Option (Int32 × sg_M)} (hk5 : ∀ (s : Nat × Nat × Int32 × Int32) (M : sg_M), k5 s M = some r → sg_K Yc s.1 4 → sg_K Yc s.2.1 13 → sg_T Yc ad X 8 5 [(0, .ref (ad (s.1))), (1, .ref (ad (s.2.1))), (3, .int (s.2.2.1)), (4, .int (s.2.2.2))] [] M) : ∀ (s : Nat × Nat × Int32 × Int32 × Int32 × Int32) (M : sg_M), gX4_spread_18 N k5 s M = some r → sg_K Yc s.1 4 → sg_K Yc s.2.1 13 → sg_T Yc ad X 8 18 [(0, .ref (ad (s.1))), (1, .ref (ad (s.2.1))), (3, .int (s.2.2.1)), (4, .int (s.2.2.2.1)), (5, .int (s.2.2.2.2.1)), (6, .int (s.2.2.2.2.2))] [] M := by
  have key : ∀ n : Nat, ∀ (s : Nat × Nat × Int32 × Int32 × Int32 × Int32) (M : sg_M), sg_lp (bX4_spread_18 N k5) n s M = some r → sg_K Yc s.1 4 → sg_K Yc s.2.1 13 → sg_T Yc ad X 8 18 [(0, .ref (ad (s.1))), (1, .ref (ad (s.2.1))), (3, .int (s.2.2.1)), (4, .int (s.2.2.2.1)), (5, .int (s.2.2.2.2.1)), (6, .int (s.2.2.2.2.2))] [] M := by
    intro n
    induction n with
    | zero => intro s M h; cases h
    | succ n ih =>
      intro s M h hq0 hq1
      have h : bX4_spread_18 N k5 (sg_lp (bX4_spread_18 N k5) n) s M = some r := h
      generalize sg_lp (bX4_spread_18 N k5) n = k18 at h ih
      have hk18 := ih
      unfold bX4_spread_18 at h
      refine i_iload C dX4_spread_18 5 rfl ?_
      refine i_aload_n C dX4_spread_20 0 rfl ?_
      refine gf4_30 C hq0 dX4_spread_21 ?_
      refine s_icmp_ge C 73 (by decide) dX4_spread_24 h (fun _ h => ?_) (fun _ h => ?_)
      · refine i_iload_n C dX4_spread_73 2 rfl ?_
        refine i_iload C dX4_spread_74 4 rfl ?_
        refine s_icmp_ne C 82 (by decide) dX4_spread_76 h (fun _ h => ?_) (fun _ h => ?_)
        · refine s_goto C 88 (by decide) dX4_spread_79 ?_
          refine i_iload_n C dX4_spread_88 2 rfl ?_
          exact s_iret C E dX4_spread_89 h
        · refine z_iinc (n := 1) (c9 := (1 : Int32)) (by decide) h (fun x1 hx h => ?_)
          refine i_iinc (lv9 := [(4, _), (0, _), (1, _), (3, _), (5, _), (6, _)]) C dX4_spread_82 3 rfl hx (by decide) rfl ?_
          refine s_goto C 5 (by decide) dX4_spread_85 ?_
          exact sg_T.to (hk5 _ _ h hq0 hq1) [1, 2, 3, 0] rfl
      · refine s_iconst C (1 : Int32) dX4_spread_27 (by decide) ?_
        refine i_aload_n C dX4_spread_28 0 rfl ?_
        refine gf4_39 C hq0 dX4_spread_29 ?_
        refine i_iload C dX4_spread_32 5 rfl ?_
        refine s_iald C (ky4_9 hq0) dX4_spread_34 h (fun h => ?_)
        refine s_ishl C dX4_spread_35 ?_
        refine s_iconst C (1 : Int32) dX4_spread_36 (by decide) ?_
        refine i_aload_n C dX4_spread_37 0 rfl ?_
        refine gf4_43 C hq0 dX4_spread_38 ?_
        refine i_iload C dX4_spread_41 5 rfl ?_
        refine s_iald C (ky4_10 hq0) dX4_spread_43 h (fun h => ?_)
        refine s_ishl C dX4_spread_44 ?_
        refine s_ior C dX4_spread_45 ?_
        refine z_gi h (fun x2 h => ?_)
        refine i_istore (lv9 := [(7, _), (0, _), (1, _), (3, _), (4, _), (5, _), (6, _)]) C dX4_spread_46 (by decide) rfl ?_
        refine i_aload_n C dX4_spread_48 2 rfl ?_
        refine i_iload C dX4_spread_49 6 rfl ?_
        refine s_iald C hq1 dX4_spread_51 h (fun h => ?_)
        refine s_if_le C 67 (by decide) dX4_spread_52 h (fun _ h => ?_) (fun _ h => ?_)
        · refine z_iinc (n := 1) (c9 := (1 : Int32)) (by decide) h (fun x3 hx h => ?_)
          refine i_iinc (lv9 := [(6, _), (7, _), (0, _), (1, _), (3, _), (4, _), (5, _)]) C dX4_spread_67 6 rfl hx (by decide) rfl ?_
          refine s_goto C 18 (by decide) dX4_spread_70 ?_
          exact sg_T.to (hk18 _ _ h hq0 hq1) [2, 3, 4, 5, 6, 0] rfl
        · refine i_iload_n C dX4_spread_55 3 rfl ?_
          refine i_iload C dX4_spread_56 0 rfl ?_
          refine s_iand C dX4_spread_58 ?_
          refine s_if_eq C 67 (by decide) dX4_spread_59 h (fun _ h => ?_) (fun _ h => ?_)
          · refine z_iinc (n := 1) (c9 := (1 : Int32)) (by decide) h (fun x4 hx h => ?_)
            refine i_iinc (lv9 := [(6, _), (7, _), (0, _), (1, _), (3, _), (4, _), (5, _)]) C dX4_spread_67 6 rfl hx (by decide) rfl ?_
            refine s_goto C 18 (by decide) dX4_spread_70 ?_
            exact sg_T.to (hk18 _ _ h hq0 hq1) [2, 3, 4, 5, 6, 0] rfl
          · refine i_iload_n C dX4_spread_62 3 rfl ?_
            refine i_iload C dX4_spread_63 0 rfl ?_
            refine s_ior C dX4_spread_65 ?_
            refine z_gi h (fun x5 h => ?_)
            refine i_istore_n (lv9 := [(3, _), (7, _), (0, _), (1, _), (4, _), (5, _), (6, _)]) C 3 dX4_spread_66 rfl (by decide) rfl ?_
            refine z_iinc (n := 1) (c9 := (1 : Int32)) (by decide) h (fun x6 hx h => ?_)
            refine i_iinc (lv9 := [(6, _), (3, _), (7, _), (0, _), (1, _), (4, _), (5, _)]) C dX4_spread_67 6 rfl hx (by decide) rfl ?_
            refine s_goto C 18 (by decide) dX4_spread_70 ?_
            exact sg_T.to (hk18 _ _ h hq0 hq1) [3, 4, 1, 5, 6, 0] rfl
  exact key N
def bX4_spread_5 (N : Nat)  (k5 : (Nat × Nat × Int32 × Int32) → sg_M → Option (Int32 × sg_M)) (s : Nat × Nat × Int32 × Int32) (M : sg_M) : Option (Int32 × sg_M) :=
  if (9 : Int32) ≤ s.2.2.2 then (
  some (s.2.2.1, M)) else (
  sg_m s.2.2.1 (fun x7 : Int32 =>
  sg_m (0 : Int32) (fun x8 : Int32 =>
  gX4_spread_18 N k5 (s.1, s.2.1, s.2.2.1, s.2.2.2, x7, x8) M)))
def gX4_spread_5 (N : Nat)  : (Nat × Nat × Int32 × Int32) → sg_M → Option (Int32 × sg_M) := sg_lp (bX4_spread_5 N ) N
set_option maxHeartbeats 4000000 in
set_option maxRecDepth 100000 in
theorem tX4_spread_5 {ad : Nat → Nat} {X : sg_X} {N : Nat} {r : Int32 × sg_M} (C : sg_C Yc ad X cX4_spread RX4 8 0) (E : sg_eI Yc ad X cX4_spread .int r)  : ∀ (s : Nat × Nat × Int32 × Int32) (M : sg_M), gX4_spread_5 N s M = some r → sg_K Yc s.1 4 → sg_K Yc s.2.1 13 → sg_T Yc ad X 8 5 [(0, .ref (ad (s.1))), (1, .ref (ad (s.2.1))), (3, .int (s.2.2.1)), (4, .int (s.2.2.2))] [] M := by
  have key : ∀ n : Nat, ∀ (s : Nat × Nat × Int32 × Int32) (M : sg_M), sg_lp (bX4_spread_5 N) n s M = some r → sg_K Yc s.1 4 → sg_K Yc s.2.1 13 → sg_T Yc ad X 8 5 [(0, .ref (ad (s.1))), (1, .ref (ad (s.2.1))), (3, .int (s.2.2.1)), (4, .int (s.2.2.2))] [] M := by
    intro n
    induction n with
    | zero => intro s M h; cases h
    | succ n ih =>
      intro s M h hq0 hq1
      have h : bX4_spread_5 N (sg_lp (bX4_spread_5 N) n) s M = some r := h
      generalize sg_lp (bX4_spread_5 N) n = k5 at h ih
      have hk5 := ih
      unfold bX4_spread_5 at h
      refine i_iload C dX4_spread_5 3 rfl ?_
      refine s_bipush C (9 : Int32) dX4_spread_7 (by decide) ?_
      refine s_icmp_ge C 88 (by decide) dX4_spread_9 h (fun _ h => ?_) (fun _ h => ?_)
      · refine i_iload_n C dX4_spread_88 2 rfl ?_
        exact s_iret C E dX4_spread_89 h
      · refine i_iload_n C dX4_spread_12 2 rfl ?_
        refine z_gi h (fun x7 h => ?_)
        refine i_istore (lv9 := [(5, _), (0, _), (1, _), (3, _), (4, _)]) C dX4_spread_13 (by decide) rfl ?_
        refine s_iconst C (0 : Int32) dX4_spread_15 (by decide) ?_
        refine z_gi h (fun x8 h => ?_)
        refine i_istore (lv9 := [(6, _), (5, _), (0, _), (1, _), (3, _), (4, _)]) C dX4_spread_16 (by decide) rfl ?_
        exact sg_T.to (tX4_spread_18 C E hk5 _ _ h hq0 hq1) [2, 3, 4, 5, 1, 0] rfl
  exact key N
def fX4_spread (N : Nat) (a0_ : Nat) (a1_ : Nat) (x2_ : Int32) (M : sg_M) : Option (Int32 × sg_M) :=
  sg_m x2_ (fun x9 : Int32 =>
  sg_m (0 : Int32) (fun x10 : Int32 =>
  gX4_spread_5 N (a0_, a1_, x9, x10) M))
set_option maxHeartbeats 4000000 in
set_option maxRecDepth 100000 in
theorem tX4_spread {ad : Nat → Nat} {X : sg_X} {N : Nat} {r : Int32 × sg_M} (C : sg_C Yc ad X cX4_spread RX4 8 0) (E : sg_eI Yc ad X cX4_spread .int r) : ∀ (a0_ : Nat) (a1_ : Nat) (x2_ : Int32) (M : sg_M), sg_K Yc a0_ 4 → sg_K Yc a1_ 13 → fX4_spread N a0_ a1_ x2_ M = some r → sg_T Yc ad X 8 0 [(0, .ref (ad a0_)), (1, .ref (ad a1_)), (2, .int x2_)] [] M := by
  intro a0_ a1_ x2_ M hq0 hq1 h
  unfold fX4_spread at h
  refine i_iload_n C dX4_spread_0 2 rfl ?_
  refine z_gi h (fun x9 h => ?_)
  refine i_istore_n (lv9 := [(3, _), (0, _), (1, _), (2, _)]) C 3 dX4_spread_1 rfl (by decide) rfl ?_
  refine s_iconst C (0 : Int32) dX4_spread_2 (by decide) ?_
  refine z_gi h (fun x10 h => ?_)
  refine i_istore (lv9 := [(4, _), (3, _), (0, _), (1, _), (2, _)]) C dX4_spread_3 (by decide) rfl ?_
  exact sg_T.to (tX4_spread_5 C E _ _ h hq0 hq1) [2, 3, 1, 0] rfl
theorem ctX4_spread {ad : Nat → Nat} {V : sg_V} {N : Nat} (hi : sg_inj Yc ad) {a0_ : Nat} {a1_ : Nat} {x2_ : Int32} {M : sg_M} (hq0 : sg_K Yc a0_ 4) (hq1 : sg_K Yc a1_ 13) : ∀ res, fX4_spread N a0_ a1_ x2_ M = some res → sg_cI Yc ad V yX4_spread cX4_spread 8 .int 0 [.ref (ad a0_), .ref (ad a1_), .int x2_] M res := fun res h => sg_bodyI (by decide) hi (Nat.le_of_ble_eq_true rfl) (fun X hX C E => by subst hX; exact tX4_spread C E _ _ _  _ hq0 hq1 h)
def bJ7_fill_d0a16_6 (N : Nat)  (k6 : (Nat × Int64 × Int32 × Int32) → sg_M → Option (sg_M)) (s : Nat × Int64 × Int32 × Int32) (M : sg_M) : Option (sg_M) :=
  if s.2.2.2 ≤ s.2.2.1 then (
  some M) else (
  if sg_ib s.2.2.1 (Yc.2.2.1 s.1) = true then
  sg_m (sg_uJ M s.1 (s.2.2.1).toNatClampNeg s.2.1) (fun M1 : sg_M =>
  sg_m (s.2.2.1 + (1 : Int32)) (fun x2 : Int32 =>
  k6 (s.1, s.2.1, x2, s.2.2.2) M1))
  else none)
def gJ7_fill_d0a16_6 (N : Nat)  : (Nat × Int64 × Int32 × Int32) → sg_M → Option (sg_M) := sg_lp (bJ7_fill_d0a16_6 N ) N
set_option maxHeartbeats 4000000 in
set_option maxRecDepth 100000 in
theorem tJ7_fill_d0a16_6 {ad : Nat → Nat} {X : sg_X} {N : Nat} {r : sg_M} (C : sg_C Yc ad X cJ7_fill_d0a16 RJ7 5 0) (E : sg_eV Yc ad X cJ7_fill_d0a16 r)  : ∀ (s : Nat × Int64 × Int32 × Int32) (M : sg_M), gJ7_fill_d0a16_6 N s M = some r → sg_K Yc s.1 14 → sg_T Yc ad X 5 6 [(0, .ref (ad (s.1))), (1, .long (s.2.1)), (3, .int (s.2.2.1)), (4, .int (s.2.2.2))] [] M := by
  have key : ∀ n : Nat, ∀ (s : Nat × Int64 × Int32 × Int32) (M : sg_M), sg_lp (bJ7_fill_d0a16_6 N) n s M = some r → sg_K Yc s.1 14 → sg_T Yc ad X 5 6 [(0, .ref (ad (s.1))), (1, .long (s.2.1)), (3, .int (s.2.2.1)), (4, .int (s.2.2.2))] [] M := by
    intro n
    induction n with
    | zero => intro s M h; cases h
    | succ n ih =>
      intro s M h hq0
      have h : bJ7_fill_d0a16_6 N (sg_lp (bJ7_fill_d0a16_6 N) n) s M = some r := h
      generalize sg_lp (bJ7_fill_d0a16_6 N) n = k6 at h ih
      have hk6 := ih
      unfold bJ7_fill_d0a16_6 at h
      refine i_iload_n C dJ7_fill_d0a16_6 2 rfl ?_
      refine i_iload C dJ7_fill_d0a16_7 3 rfl ?_
      refine s_icmp_ge C 22 (by decide) dJ7_fill_d0a16_9 h (fun _ h => ?_) (fun _ h => ?_)
      · exact s_vret C E dJ7_fill_d0a16_22 h
      · refine i_aload_n C dJ7_fill_d0a16_12 0 rfl ?_
        refine i_iload_n C dJ7_fill_d0a16_13 2 rfl ?_
        refine i_lload_n C dJ7_fill_d0a16_14 1 rfl ?_
        refine s_last C hq0 dJ7_fill_d0a16_15 h (fun h => ?_)
        refine z_gM h (fun M1 h => ?_)
        refine z_iinc (n := 1) (c9 := (1 : Int32)) (by decide) h (fun x2 hx h => ?_)
        refine i_iinc (lv9 := [(3, _), (0, _), (1, _), (4, _)]) C dJ7_fill_d0a16_16 2 rfl hx (by decide) rfl ?_
        refine s_goto C 6 (by decide) dJ7_fill_d0a16_19 ?_
        exact sg_T.to (hk6 _ _ h hq0) [1, 2, 0, 3] rfl
  exact key N
def fJ7_fill_d0a16 (N : Nat) (a0_ : Nat) (x1_ : Int64) (M : sg_M) : Option (sg_M) :=
  sg_m (0 : Int32) (fun x3 : Int32 =>
  sg_m (Int32.ofNat (Yc.2.2.1 a0_)) (fun x4 : Int32 =>
  gJ7_fill_d0a16_6 N (a0_, x1_, x3, x4) M))
set_option maxHeartbeats 4000000 in
set_option maxRecDepth 100000 in
theorem tJ7_fill_d0a16 {ad : Nat → Nat} {X : sg_X} {N : Nat} {r : sg_M} (C : sg_C Yc ad X cJ7_fill_d0a16 RJ7 5 0) (E : sg_eV Yc ad X cJ7_fill_d0a16 r) : ∀ (a0_ : Nat) (x1_ : Int64) (M : sg_M), sg_K Yc a0_ 14 → fJ7_fill_d0a16 N a0_ x1_ M = some r → sg_T Yc ad X 5 0 [(0, .ref (ad a0_)), (1, .long x1_)] [] M := by
  intro a0_ x1_ M hq0 h
  unfold fJ7_fill_d0a16 at h
  refine s_iconst C (0 : Int32) dJ7_fill_d0a16_0 (by decide) ?_
  refine z_gi h (fun x3 h => ?_)
  refine i_istore_n (lv9 := [(3, _), (0, _), (1, _)]) C 3 dJ7_fill_d0a16_1 rfl (by decide) rfl ?_
  refine i_aload_n C dJ7_fill_d0a16_2 1 rfl ?_
  refine s_alenJ C hq0 dJ7_fill_d0a16_3 ?_
  refine z_gi h (fun x4 h => ?_)
  refine i_istore (lv9 := [(4, _), (3, _), (0, _), (1, _)]) C dJ7_fill_d0a16_4 (by decide) rfl ?_
  exact sg_T.to (tJ7_fill_d0a16_6 C E _ _ h hq0) [2, 3, 1, 0] rfl
theorem ctJ7_fill_d0a16 {ad : Nat → Nat} {V : sg_V} {N : Nat} (hi : sg_inj Yc ad) {a0_ : Nat} {x1_ : Int64} {M : sg_M} (hq0 : sg_K Yc a0_ 14) : ∀ res, fJ7_fill_d0a16 N a0_ x1_ M = some res → sg_cV Yc ad V yJ7_fill_d0a16 cJ7_fill_d0a16 5 0 [.ref (ad a0_), .long x1_] M res := fun res h => sg_bodyV (by decide) hi (Nat.le_of_ble_eq_true rfl) (fun X hX C E => by subst hX; exact tJ7_fill_d0a16 C E _ _  _ hq0 h)
def fX7_isWithin (N : Nat) (a0_ : Nat) (x1_ : Int32) (M : sg_M) : Option (Int32 × sg_M) :=
  if (M.1 a0_ 0) = 0 then (
  if 0 < (lg_cmp (M.2 a0_ 1) ((x1_).toInt64 * (M.2 a0_ 2))) then (
  some ((0 : Int32), M)) else (
  some ((1 : Int32), M))) else (
  some ((0 : Int32), M))
set_option maxHeartbeats 4000000 in
set_option maxRecDepth 100000 in
theorem tX7_isWithin {ad : Nat → Nat} {X : sg_X} {N : Nat} {r : Int32 × sg_M} (C : sg_C Yc ad X cX7_isWithin RX7 2 0) (E : sg_eI Yc ad X cX7_isWithin .boolean r) : ∀ (a0_ : Nat) (x1_ : Int32) (M : sg_M), sg_K Yc a0_ 7 → fX7_isWithin N a0_ x1_ M = some r → sg_T Yc ad X 2 0 [(0, .ref (ad a0_)), (1, .int x1_)] [] M := by
  intro a0_ x1_ M hq0 h
  unfold fX7_isWithin at h
  refine i_aload_n C dX7_isWithin_0 0 rfl ?_
  refine gf7_7 C hq0 dX7_isWithin_1 ?_
  refine s_if_ne C 26 (by decide) dX7_isWithin_4 h (fun _ h => ?_) (fun _ h => ?_)
  · refine i_aload_n C dX7_isWithin_7 0 rfl ?_
    refine gf7_13 C hq0 dX7_isWithin_8 ?_
    refine i_iload_n C dX7_isWithin_11 1 rfl ?_
    refine s_i2l C dX7_isWithin_12 ?_
    refine i_aload_n C dX7_isWithin_13 0 rfl ?_
    refine gf7_17 C hq0 dX7_isWithin_14 ?_
    refine s_lmul C dX7_isWithin_17 ?_
    refine s_lcmp C dX7_isWithin_18 ?_
    refine s_if_gt C 26 (by decide) dX7_isWithin_19 h (fun _ h => ?_) (fun _ h => ?_)
    · refine s_iconst C (0 : Int32) dX7_isWithin_26 (by decide) ?_
      exact s_zret1 C E (by decide) dX7_isWithin_27 h
    · refine s_iconst C (1 : Int32) dX7_isWithin_22 (by decide) ?_
      refine s_goto C 27 (by decide) dX7_isWithin_23 ?_
      exact s_zret1 C E (by decide) dX7_isWithin_27 h
  · refine s_iconst C (0 : Int32) dX7_isWithin_26 (by decide) ?_
    exact s_zret1 C E (by decide) dX7_isWithin_27 h
theorem ctX7_isWithin {ad : Nat → Nat} {V : sg_V} {N : Nat} (hi : sg_inj Yc ad) {a0_ : Nat} {x1_ : Int32} {M : sg_M} (hq0 : sg_K Yc a0_ 7) : ∀ res, fX7_isWithin N a0_ x1_ M = some res → sg_cI Yc ad V yX7_isWithin cX7_isWithin 2 .boolean 0 [.ref (ad a0_), .int x1_] M res := fun res h => sg_bodyI (by decide) hi (Nat.le_of_ble_eq_true rfl) (fun X hX C E => by subst hX; exact tX7_isWithin C E _ _  _ hq0 h)
def fX7_isDeeperThan (N : Nat) (a0_ : Nat) (a1_ : Nat) (M : sg_M) : Option (Int32 × sg_M) :=
  if (lg_cmp ((M.2 a0_ 1) * (M.2 a1_ 2)) ((M.2 a1_ 1) * (M.2 a0_ 2))) ≤ 0 then (
  some ((0 : Int32), M)) else (
  some ((1 : Int32), M))
set_option maxHeartbeats 4000000 in
set_option maxRecDepth 100000 in
theorem tX7_isDeeperThan {ad : Nat → Nat} {X : sg_X} {N : Nat} {r : Int32 × sg_M} (C : sg_C Yc ad X cX7_isDeeperThan RX7 2 0) (E : sg_eI Yc ad X cX7_isDeeperThan .boolean r) : ∀ (a0_ : Nat) (a1_ : Nat) (M : sg_M), sg_K Yc a0_ 7 → sg_K Yc a1_ 7 → fX7_isDeeperThan N a0_ a1_ M = some r → sg_T Yc ad X 2 0 [(0, .ref (ad a0_)), (1, .ref (ad a1_))] [] M := by
  intro a0_ a1_ M hq0 hq1 h
  unfold fX7_isDeeperThan at h
  refine i_aload_n C dX7_isDeeperThan_0 0 rfl ?_
  refine gf7_13 C hq0 dX7_isDeeperThan_1 ?_
  refine i_aload_n C dX7_isDeeperThan_4 1 rfl ?_
  refine gf7_17 C hq1 dX7_isDeeperThan_5 ?_
  refine s_lmul C dX7_isDeeperThan_8 ?_
  refine i_aload_n C dX7_isDeeperThan_9 1 rfl ?_
  refine gf7_13 C hq1 dX7_isDeeperThan_10 ?_
  refine i_aload_n C dX7_isDeeperThan_13 0 rfl ?_
  refine gf7_17 C hq0 dX7_isDeeperThan_14 ?_
  refine s_lmul C dX7_isDeeperThan_17 ?_
  refine s_lcmp C dX7_isDeeperThan_18 ?_
  refine s_if_le C 26 (by decide) dX7_isDeeperThan_19 h (fun _ h => ?_) (fun _ h => ?_)
  · refine s_iconst C (0 : Int32) dX7_isDeeperThan_26 (by decide) ?_
    exact s_zret1 C E (by decide) dX7_isDeeperThan_27 h
  · refine s_iconst C (1 : Int32) dX7_isDeeperThan_22 (by decide) ?_
    refine s_goto C 27 (by decide) dX7_isDeeperThan_23 ?_
    exact s_zret1 C E (by decide) dX7_isDeeperThan_27 h
theorem ctX7_isDeeperThan {ad : Nat → Nat} {V : sg_V} {N : Nat} (hi : sg_inj Yc ad) {a0_ : Nat} {a1_ : Nat} {M : sg_M} (hq0 : sg_K Yc a0_ 7) (hq1 : sg_K Yc a1_ 7) : ∀ res, fX7_isDeeperThan N a0_ a1_ M = some res → sg_cI Yc ad V yX7_isDeeperThan cX7_isDeeperThan 2 .boolean 0 [.ref (ad a0_), .ref (ad a1_)] M res := fun res h => sg_bodyI (by decide) hi (Nat.le_of_ble_eq_true rfl) (fun X hX C E => by subst hX; exact tX7_isDeeperThan C E _ _  _ hq0 hq1 h)
def fX7_copyFrom (N : Nat) (a0_ : Nat) (a1_ : Nat) (M : sg_M) : Option (sg_M) :=
  sg_m (sg_uI M a0_ 0 (M.1 a1_ 0)) (fun M1 : sg_M =>
  sg_m (sg_uJ M1 a0_ 1 (M1.2 a1_ 1)) (fun M2 : sg_M =>
  sg_m (sg_uJ M2 a0_ 2 (M2.2 a1_ 2)) (fun M3 : sg_M =>
  some M3)))
set_option maxHeartbeats 4000000 in
set_option maxRecDepth 100000 in
theorem tX7_copyFrom {ad : Nat → Nat} {X : sg_X} {N : Nat} {r : sg_M} (C : sg_C Yc ad X cX7_copyFrom RX7 2 0) (E : sg_eV Yc ad X cX7_copyFrom r) : ∀ (a0_ : Nat) (a1_ : Nat) (M : sg_M), sg_K Yc a0_ 7 → sg_K Yc a1_ 7 → fX7_copyFrom N a0_ a1_ M = some r → sg_T Yc ad X 2 0 [(0, .ref (ad a0_)), (1, .ref (ad a1_))] [] M := by
  intro a0_ a1_ M hq0 hq1 h
  unfold fX7_copyFrom at h
  refine i_aload_n C dX7_copyFrom_0 0 rfl ?_
  refine i_aload_n C dX7_copyFrom_1 1 rfl ?_
  refine gf7_7 C hq1 dX7_copyFrom_2 ?_
  refine pf7_7 C hq0 dX7_copyFrom_5 ?_
  refine z_gM h (fun M1 h => ?_)
  refine i_aload_n C dX7_copyFrom_8 0 rfl ?_
  refine i_aload_n C dX7_copyFrom_9 1 rfl ?_
  refine gf7_13 C hq1 dX7_copyFrom_10 ?_
  refine pf7_13 C hq0 dX7_copyFrom_13 ?_
  refine z_gM h (fun M2 h => ?_)
  refine i_aload_n C dX7_copyFrom_16 0 rfl ?_
  refine i_aload_n C dX7_copyFrom_17 1 rfl ?_
  refine gf7_17 C hq1 dX7_copyFrom_18 ?_
  refine pf7_17 C hq0 dX7_copyFrom_21 ?_
  refine z_gM h (fun M3 h => ?_)
  exact s_vret C E dX7_copyFrom_24 h
theorem ctX7_copyFrom {ad : Nat → Nat} {V : sg_V} {N : Nat} (hi : sg_inj Yc ad) {a0_ : Nat} {a1_ : Nat} {M : sg_M} (hq0 : sg_K Yc a0_ 7) (hq1 : sg_K Yc a1_ 7) : ∀ res, fX7_copyFrom N a0_ a1_ M = some res → sg_cV Yc ad V yX7_copyFrom cX7_copyFrom 2 0 [.ref (ad a0_), .ref (ad a1_)] M res := fun res h => sg_bodyV (by decide) hi (Nat.le_of_ble_eq_true rfl) (fun X hX C E => by subst hX; exact tX7_copyFrom C E _ _  _ hq0 hq1 h)
def fX7_isBetterThan (N : Nat) (a0_ : Nat) (a1_ : Nat) (M : sg_M) : Option (Int32 × sg_M) :=
  if (M.1 a0_ 0) = (M.1 a1_ 0) then (
  sg_b (fX7_isDeeperThan N a1_ a0_ M) (fun (x2 : Int32) (M1 : sg_M) =>
  if sg_bz x2 = true then some (x2, M1) else none)) else (
  if (M.1 a1_ 0) ≤ (M.1 a0_ 0) then (
  some ((0 : Int32), M)) else (
  some ((1 : Int32), M)))
set_option maxHeartbeats 4000000 in
set_option maxRecDepth 100000 in
theorem tX7_isBetterThan {ad : Nat → Nat} {X : sg_X} {N : Nat} {r : Int32 × sg_M} (C : sg_C Yc ad X cX7_isBetterThan RX7 2 1) (E : sg_eI Yc ad X cX7_isBetterThan .boolean r) : ∀ (a0_ : Nat) (a1_ : Nat) (M : sg_M), sg_K Yc a0_ 7 → sg_K Yc a1_ 7 → fX7_isBetterThan N a0_ a1_ M = some r → sg_T Yc ad X 2 0 [(0, .ref (ad a0_)), (1, .ref (ad a1_))] [] M := by
  intro a0_ a1_ M hq0 hq1 h
  unfold fX7_isBetterThan at h
  refine i_aload_n C dX7_isBetterThan_0 0 rfl ?_
  refine gf7_7 C hq0 dX7_isBetterThan_1 ?_
  refine i_aload_n C dX7_isBetterThan_4 1 rfl ?_
  refine gf7_7 C hq1 dX7_isBetterThan_5 ?_
  refine s_icmp_eq C 28 (by decide) dX7_isBetterThan_8 h (fun _ h => ?_) (fun _ h => ?_)
  · refine i_aload_n C dX7_isBetterThan_28 1 rfl ?_
    refine i_aload_n C dX7_isBetterThan_29 0 rfl ?_
    refine s_vcI C [_] vmX7_isDeeperThan lkX7_20 rfl rfl (by decide) hq1 (by decide) rfl rfl (Nat.le_of_ble_eq_true rfl) dX7_isBetterThan_30 (ctX7_isDeeperThan C.inj hq1 hq0) h (fun x2 M1 h => ?_)
    exact s_zret C E dX7_isBetterThan_33 h
  · refine i_aload_n C dX7_isBetterThan_11 0 rfl ?_
    refine gf7_7 C hq0 dX7_isBetterThan_12 ?_
    refine i_aload_n C dX7_isBetterThan_15 1 rfl ?_
    refine gf7_7 C hq1 dX7_isBetterThan_16 ?_
    refine s_icmp_ge C 26 (by decide) dX7_isBetterThan_19 h (fun _ h => ?_) (fun _ h => ?_)
    · refine s_iconst C (0 : Int32) dX7_isBetterThan_26 (by decide) ?_
      exact s_zret1 C E (by decide) dX7_isBetterThan_27 h
    · refine s_iconst C (1 : Int32) dX7_isBetterThan_22 (by decide) ?_
      refine s_goto C 27 (by decide) dX7_isBetterThan_23 ?_
      exact s_zret1 C E (by decide) dX7_isBetterThan_27 h
theorem ctX7_isBetterThan {ad : Nat → Nat} {V : sg_V} {N : Nat} (hi : sg_inj Yc ad) {a0_ : Nat} {a1_ : Nat} {M : sg_M} (hq0 : sg_K Yc a0_ 7) (hq1 : sg_K Yc a1_ 7) : ∀ res, fX7_isBetterThan N a0_ a1_ M = some res → sg_cI Yc ad V yX7_isBetterThan cX7_isBetterThan 2 .boolean 1 [.ref (ad a0_), .ref (ad a1_)] M res := fun res h => sg_bodyI (by decide) hi (Nat.le_of_ble_eq_true rfl) (fun X hX C E => by subst hX; exact tX7_isBetterThan C E _ _  _ hq0 hq1 h)
def fX4_clear (N : Nat) (a0_ : Nat) (M : sg_M) : Option (sg_M) :=
  sg_m (sg_uI M a0_ 0 (0 : Int32)) (fun M1 : sg_M =>
  sg_m (sg_uI M1 a0_ 1 (0 : Int32)) (fun M2 : sg_M =>
  sg_m (sg_uI M2 a0_ 2 (0 : Int32)) (fun M3 : sg_M =>
  sg_m (sg_uI M3 a0_ 3 (0 : Int32)) (fun M4 : sg_M =>
  sg_m (sg_uI M4 a0_ 4 (0 : Int32)) (fun M5 : sg_M =>
  sg_m (sg_uI M5 a0_ 5 (0 : Int32)) (fun M6 : sg_M =>
  sg_m (sg_uI M6 a0_ 6 (0 : Int32)) (fun M7 : sg_M =>
  sg_m (sg_uI M7 a0_ 7 (0 : Int32)) (fun M8 : sg_M =>
  sg_m (sg_uI M8 a0_ 8 (0 : Int32)) (fun M9 : sg_M =>
  sg_bv (fJ7_fill_53178 N (Yc.2.2.2 a0_ 11) (0 : Int32) M9) (fun M10 : sg_M =>
  sg_bv (fJ7_fill_53178 N (Yc.2.2.2 a0_ 12) (0 : Int32) M10) (fun M11 : sg_M =>
  sg_bv (fJ7_fill_53178 N (Yc.2.2.2 a0_ 13) (0 : Int32) M11) (fun M12 : sg_M =>
  sg_bv (fJ7_fill_53178 N (Yc.2.2.2 a0_ 14) (999 : Int32) M12) (fun M13 : sg_M =>
  some M13)))))))))))))
set_option maxHeartbeats 4000000 in
set_option maxRecDepth 100000 in
theorem tX4_clear {ad : Nat → Nat} {X : sg_X} {N : Nat} {r : sg_M} (C : sg_C Yc ad X cX4_clear RX4 1 1) (E : sg_eV Yc ad X cX4_clear r) : ∀ (a0_ : Nat) (M : sg_M), sg_K Yc a0_ 4 → fX4_clear N a0_ M = some r → sg_T Yc ad X 1 0 [(0, .ref (ad a0_))] [] M := by
  intro a0_ M hq0 h
  unfold fX4_clear at h
  refine i_aload_n C dX4_clear_0 0 rfl ?_
  refine s_iconst C (0 : Int32) dX4_clear_1 (by decide) ?_
  refine pf4_9 C hq0 dX4_clear_2 ?_
  refine z_gM h (fun M1 h => ?_)
  refine i_aload_n C dX4_clear_5 0 rfl ?_
  refine s_iconst C (0 : Int32) dX4_clear_6 (by decide) ?_
  refine pf4_15 C hq0 dX4_clear_7 ?_
  refine z_gM h (fun M2 h => ?_)
  refine i_aload_n C dX4_clear_10 0 rfl ?_
  refine s_iconst C (0 : Int32) dX4_clear_11 (by decide) ?_
  refine pf4_18 C hq0 dX4_clear_12 ?_
  refine z_gM h (fun M3 h => ?_)
  refine i_aload_n C dX4_clear_15 0 rfl ?_
  refine s_iconst C (0 : Int32) dX4_clear_16 (by decide) ?_
  refine pf4_21 C hq0 dX4_clear_17 ?_
  refine z_gM h (fun M4 h => ?_)
  refine i_aload_n C dX4_clear_20 0 rfl ?_
  refine s_iconst C (0 : Int32) dX4_clear_21 (by decide) ?_
  refine pf4_24 C hq0 dX4_clear_22 ?_
  refine z_gM h (fun M5 h => ?_)
  refine i_aload_n C dX4_clear_25 0 rfl ?_
  refine s_iconst C (0 : Int32) dX4_clear_26 (by decide) ?_
  refine pf4_27 C hq0 dX4_clear_27 ?_
  refine z_gM h (fun M6 h => ?_)
  refine i_aload_n C dX4_clear_30 0 rfl ?_
  refine s_iconst C (0 : Int32) dX4_clear_31 (by decide) ?_
  refine pf4_30 C hq0 dX4_clear_32 ?_
  refine z_gM h (fun M7 h => ?_)
  refine i_aload_n C dX4_clear_35 0 rfl ?_
  refine s_iconst C (0 : Int32) dX4_clear_36 (by decide) ?_
  refine pf4_33 C hq0 dX4_clear_37 ?_
  refine z_gM h (fun M8 h => ?_)
  refine i_aload_n C dX4_clear_40 0 rfl ?_
  refine s_iconst C (0 : Int32) dX4_clear_41 (by decide) ?_
  refine pf4_36 C hq0 dX4_clear_42 ?_
  refine z_gM h (fun M9 h => ?_)
  refine i_aload_n C dX4_clear_45 0 rfl ?_
  refine gf4_46 C hq0 dX4_clear_46 ?_
  refine s_iconst C (0 : Int32) dX4_clear_49 (by decide) ?_
  refine s_scV C [_, _] smJ7_fill_53178 lkX4_67 (by decide) rfl rfl (Nat.le_of_ble_eq_true rfl) dX4_clear_50 (ctJ7_fill_53178 C.inj (ky4_11 hq0)) h (fun M10 h => ?_)
  refine i_aload_n C dX4_clear_53 0 rfl ?_
  refine gf4_49 C hq0 dX4_clear_54 ?_
  refine s_iconst C (0 : Int32) dX4_clear_57 (by decide) ?_
  refine s_scV C [_, _] smJ7_fill_53178 lkX4_67 (by decide) rfl rfl (Nat.le_of_ble_eq_true rfl) dX4_clear_58 (ctJ7_fill_53178 C.inj (ky4_12 hq0)) h (fun M11 h => ?_)
  refine i_aload_n C dX4_clear_61 0 rfl ?_
  refine gf4_52 C hq0 dX4_clear_62 ?_
  refine s_iconst C (0 : Int32) dX4_clear_65 (by decide) ?_
  refine s_scV C [_, _] smJ7_fill_53178 lkX4_67 (by decide) rfl rfl (Nat.le_of_ble_eq_true rfl) dX4_clear_66 (ctJ7_fill_53178 C.inj (ky4_13 hq0)) h (fun M12 h => ?_)
  refine i_aload_n C dX4_clear_69 0 rfl ?_
  refine gf4_55 C hq0 dX4_clear_70 ?_
  refine s_sipush C (999 : Int32) dX4_clear_73 (by decide) ?_
  refine s_scV C [_, _] smJ7_fill_53178 lkX4_67 (by decide) rfl rfl (Nat.le_of_ble_eq_true rfl) dX4_clear_76 (ctJ7_fill_53178 C.inj (ky4_14 hq0)) h (fun M13 h => ?_)
  exact s_vret C E dX4_clear_79 h
theorem ctX4_clear {ad : Nat → Nat} {V : sg_V} {N : Nat} (hi : sg_inj Yc ad) {a0_ : Nat} {M : sg_M} (hq0 : sg_K Yc a0_ 4) : ∀ res, fX4_clear N a0_ M = some res → sg_cV Yc ad V yX4_clear cX4_clear 1 1 [.ref (ad a0_)] M res := fun res h => sg_bodyV (by decide) hi (Nat.le_of_ble_eq_true rfl) (fun X hX C E => by subst hX; exact tX4_clear C E _  _ hq0 h)
def fX4_copyFrom (N : Nat) (a0_ : Nat) (a1_ : Nat) (M : sg_M) : Option (sg_M) :=
  sg_m (sg_uI M a0_ 0 (M.1 a1_ 0)) (fun M1 : sg_M =>
  sg_m (sg_uI M1 a0_ 1 (M1.1 a1_ 1)) (fun M2 : sg_M =>
  sg_m (sg_uI M2 a0_ 2 (M2.1 a1_ 2)) (fun M3 : sg_M =>
  sg_m (sg_uI M3 a0_ 3 (M3.1 a1_ 3)) (fun M4 : sg_M =>
  sg_m (sg_uI M4 a0_ 4 (M4.1 a1_ 4)) (fun M5 : sg_M =>
  sg_m (sg_uI M5 a0_ 5 (M5.1 a1_ 5)) (fun M6 : sg_M =>
  sg_m (sg_uI M6 a0_ 6 (M6.1 a1_ 6)) (fun M7 : sg_M =>
  sg_m (sg_uI M7 a0_ 7 (M7.1 a1_ 7)) (fun M8 : sg_M =>
  sg_m (sg_uI M8 a0_ 8 (M8.1 a1_ 8)) (fun M9 : sg_M =>
  if sg_cb (0 : Int32) (0 : Int32) (12 : Int32) (Yc.2.2.1 (Yc.2.2.2 a1_ 9)) (Yc.2.2.1 (Yc.2.2.2 a0_ 9)) = true then
  sg_m (sg_cpy M9 (Yc.2.2.2 a1_ 9) (Yc.2.2.2 a0_ 9) ((0 : Int32)).toNatClampNeg ((0 : Int32)).toNatClampNeg ((12 : Int32)).toNatClampNeg) (fun M10 : sg_M =>
  if sg_cb (0 : Int32) (0 : Int32) (12 : Int32) (Yc.2.2.1 (Yc.2.2.2 a1_ 10)) (Yc.2.2.1 (Yc.2.2.2 a0_ 10)) = true then
  sg_m (sg_cpy M10 (Yc.2.2.2 a1_ 10) (Yc.2.2.2 a0_ 10) ((0 : Int32)).toNatClampNeg ((0 : Int32)).toNatClampNeg ((12 : Int32)).toNatClampNeg) (fun M11 : sg_M =>
  if sg_cb (0 : Int32) (0 : Int32) (12 : Int32) (Yc.2.2.1 (Yc.2.2.2 a1_ 11)) (Yc.2.2.1 (Yc.2.2.2 a0_ 11)) = true then
  sg_m (sg_cpy M11 (Yc.2.2.2 a1_ 11) (Yc.2.2.2 a0_ 11) ((0 : Int32)).toNatClampNeg ((0 : Int32)).toNatClampNeg ((12 : Int32)).toNatClampNeg) (fun M12 : sg_M =>
  if sg_cb (0 : Int32) (0 : Int32) (9 : Int32) (Yc.2.2.1 (Yc.2.2.2 a1_ 12)) (Yc.2.2.1 (Yc.2.2.2 a0_ 12)) = true then
  sg_m (sg_cpy M12 (Yc.2.2.2 a1_ 12) (Yc.2.2.2 a0_ 12) ((0 : Int32)).toNatClampNeg ((0 : Int32)).toNatClampNeg ((9 : Int32)).toNatClampNeg) (fun M13 : sg_M =>
  if sg_cb (0 : Int32) (0 : Int32) (9 : Int32) (Yc.2.2.1 (Yc.2.2.2 a1_ 13)) (Yc.2.2.1 (Yc.2.2.2 a0_ 13)) = true then
  sg_m (sg_cpy M13 (Yc.2.2.2 a1_ 13) (Yc.2.2.2 a0_ 13) ((0 : Int32)).toNatClampNeg ((0 : Int32)).toNatClampNeg ((9 : Int32)).toNatClampNeg) (fun M14 : sg_M =>
  if sg_cb (0 : Int32) (0 : Int32) (4 : Int32) (Yc.2.2.1 (Yc.2.2.2 a1_ 14)) (Yc.2.2.1 (Yc.2.2.2 a0_ 14)) = true then
  sg_m (sg_cpy M14 (Yc.2.2.2 a1_ 14) (Yc.2.2.2 a0_ 14) ((0 : Int32)).toNatClampNeg ((0 : Int32)).toNatClampNeg ((4 : Int32)).toNatClampNeg) (fun M15 : sg_M =>
  if sg_cb (0 : Int32) (0 : Int32) (20 : Int32) (Yc.2.2.1 (Yc.2.2.2 a1_ 15)) (Yc.2.2.1 (Yc.2.2.2 a0_ 15)) = true then
  sg_m (sg_cpy M15 (Yc.2.2.2 a1_ 15) (Yc.2.2.2 a0_ 15) ((0 : Int32)).toNatClampNeg ((0 : Int32)).toNatClampNeg ((20 : Int32)).toNatClampNeg) (fun M16 : sg_M =>
  if sg_cb (0 : Int32) (0 : Int32) (20 : Int32) (Yc.2.2.1 (Yc.2.2.2 a1_ 16)) (Yc.2.2.1 (Yc.2.2.2 a0_ 16)) = true then
  sg_m (sg_cpy M16 (Yc.2.2.2 a1_ 16) (Yc.2.2.2 a0_ 16) ((0 : Int32)).toNatClampNeg ((0 : Int32)).toNatClampNeg ((20 : Int32)).toNatClampNeg) (fun M17 : sg_M =>
  if sg_cb (0 : Int32) (0 : Int32) (20 : Int32) (Yc.2.2.1 (Yc.2.2.2 a1_ 17)) (Yc.2.2.1 (Yc.2.2.2 a0_ 17)) = true then
  sg_m (sg_cpy M17 (Yc.2.2.2 a1_ 17) (Yc.2.2.2 a0_ 17) ((0 : Int32)).toNatClampNeg ((0 : Int32)).toNatClampNeg ((20 : Int32)).toNatClampNeg) (fun M18 : sg_M =>
  some M18)
  else none)
  else none)
  else none)
  else none)
  else none)
  else none)
  else none)
  else none)
  else none)))))))))
set_option maxHeartbeats 4000000 in
set_option maxRecDepth 100000 in
theorem tX4_copyFrom {ad : Nat → Nat} {X : sg_X} {N : Nat} {r : sg_M} (C : sg_C Yc ad X cX4_copyFrom RX4 2 1) (E : sg_eV Yc ad X cX4_copyFrom r) : ∀ (a0_ : Nat) (a1_ : Nat) (M : sg_M), sg_K Yc a0_ 4 → sg_K Yc a1_ 4 → fX4_copyFrom N a0_ a1_ M = some r → sg_T Yc ad X 2 0 [(0, .ref (ad a0_)), (1, .ref (ad a1_))] [] M := by
  intro a0_ a1_ M hq0 hq1 h
  unfold fX4_copyFrom at h
  refine i_aload_n C dX4_copyFrom_0 0 rfl ?_
  refine i_aload_n C dX4_copyFrom_1 1 rfl ?_
  refine gf4_9 C hq1 dX4_copyFrom_2 ?_
  refine pf4_9 C hq0 dX4_copyFrom_5 ?_
  refine z_gM h (fun M1 h => ?_)
  refine i_aload_n C dX4_copyFrom_8 0 rfl ?_
  refine i_aload_n C dX4_copyFrom_9 1 rfl ?_
  refine gf4_15 C hq1 dX4_copyFrom_10 ?_
  refine pf4_15 C hq0 dX4_copyFrom_13 ?_
  refine z_gM h (fun M2 h => ?_)
  refine i_aload_n C dX4_copyFrom_16 0 rfl ?_
  refine i_aload_n C dX4_copyFrom_17 1 rfl ?_
  refine gf4_18 C hq1 dX4_copyFrom_18 ?_
  refine pf4_18 C hq0 dX4_copyFrom_21 ?_
  refine z_gM h (fun M3 h => ?_)
  refine i_aload_n C dX4_copyFrom_24 0 rfl ?_
  refine i_aload_n C dX4_copyFrom_25 1 rfl ?_
  refine gf4_21 C hq1 dX4_copyFrom_26 ?_
  refine pf4_21 C hq0 dX4_copyFrom_29 ?_
  refine z_gM h (fun M4 h => ?_)
  refine i_aload_n C dX4_copyFrom_32 0 rfl ?_
  refine i_aload_n C dX4_copyFrom_33 1 rfl ?_
  refine gf4_24 C hq1 dX4_copyFrom_34 ?_
  refine pf4_24 C hq0 dX4_copyFrom_37 ?_
  refine z_gM h (fun M5 h => ?_)
  refine i_aload_n C dX4_copyFrom_40 0 rfl ?_
  refine i_aload_n C dX4_copyFrom_41 1 rfl ?_
  refine gf4_27 C hq1 dX4_copyFrom_42 ?_
  refine pf4_27 C hq0 dX4_copyFrom_45 ?_
  refine z_gM h (fun M6 h => ?_)
  refine i_aload_n C dX4_copyFrom_48 0 rfl ?_
  refine i_aload_n C dX4_copyFrom_49 1 rfl ?_
  refine gf4_30 C hq1 dX4_copyFrom_50 ?_
  refine pf4_30 C hq0 dX4_copyFrom_53 ?_
  refine z_gM h (fun M7 h => ?_)
  refine i_aload_n C dX4_copyFrom_56 0 rfl ?_
  refine i_aload_n C dX4_copyFrom_57 1 rfl ?_
  refine gf4_33 C hq1 dX4_copyFrom_58 ?_
  refine pf4_33 C hq0 dX4_copyFrom_61 ?_
  refine z_gM h (fun M8 h => ?_)
  refine i_aload_n C dX4_copyFrom_64 0 rfl ?_
  refine i_aload_n C dX4_copyFrom_65 1 rfl ?_
  refine gf4_36 C hq1 dX4_copyFrom_66 ?_
  refine pf4_36 C hq0 dX4_copyFrom_69 ?_
  refine z_gM h (fun M9 h => ?_)
  refine i_aload_n C dX4_copyFrom_72 1 rfl ?_
  refine gf4_39 C hq1 dX4_copyFrom_73 ?_
  refine s_iconst C (0 : Int32) dX4_copyFrom_76 (by decide) ?_
  refine i_aload_n C dX4_copyFrom_77 0 rfl ?_
  refine gf4_39 C hq0 dX4_copyFrom_78 ?_
  refine s_iconst C (0 : Int32) dX4_copyFrom_81 (by decide) ?_
  refine s_bipush C (12 : Int32) dX4_copyFrom_82 (by decide) ?_
  refine s_copy C (by decide) (ky4_9 hq1) (ky4_9 hq0) copy_X4_73 copy_1 copy_2 copy_3 (Nat.le_of_ble_eq_true rfl) dX4_copyFrom_84 h (fun h => ?_)
  refine z_gM h (fun M10 h => ?_)
  refine i_aload_n C dX4_copyFrom_87 1 rfl ?_
  refine gf4_43 C hq1 dX4_copyFrom_88 ?_
  refine s_iconst C (0 : Int32) dX4_copyFrom_91 (by decide) ?_
  refine i_aload_n C dX4_copyFrom_92 0 rfl ?_
  refine gf4_43 C hq0 dX4_copyFrom_93 ?_
  refine s_iconst C (0 : Int32) dX4_copyFrom_96 (by decide) ?_
  refine s_bipush C (12 : Int32) dX4_copyFrom_97 (by decide) ?_
  refine s_copy C (by decide) (ky4_10 hq1) (ky4_10 hq0) copy_X4_73 copy_1 copy_2 copy_3 (Nat.le_of_ble_eq_true rfl) dX4_copyFrom_99 h (fun h => ?_)
  refine z_gM h (fun M11 h => ?_)
  refine i_aload_n C dX4_copyFrom_102 1 rfl ?_
  refine gf4_46 C hq1 dX4_copyFrom_103 ?_
  refine s_iconst C (0 : Int32) dX4_copyFrom_106 (by decide) ?_
  refine i_aload_n C dX4_copyFrom_107 0 rfl ?_
  refine gf4_46 C hq0 dX4_copyFrom_108 ?_
  refine s_iconst C (0 : Int32) dX4_copyFrom_111 (by decide) ?_
  refine s_bipush C (12 : Int32) dX4_copyFrom_112 (by decide) ?_
  refine s_copy C (by decide) (ky4_11 hq1) (ky4_11 hq0) copy_X4_73 copy_1 copy_2 copy_3 (Nat.le_of_ble_eq_true rfl) dX4_copyFrom_114 h (fun h => ?_)
  refine z_gM h (fun M12 h => ?_)
  refine i_aload_n C dX4_copyFrom_117 1 rfl ?_
  refine gf4_49 C hq1 dX4_copyFrom_118 ?_
  refine s_iconst C (0 : Int32) dX4_copyFrom_121 (by decide) ?_
  refine i_aload_n C dX4_copyFrom_122 0 rfl ?_
  refine gf4_49 C hq0 dX4_copyFrom_123 ?_
  refine s_iconst C (0 : Int32) dX4_copyFrom_126 (by decide) ?_
  refine s_bipush C (9 : Int32) dX4_copyFrom_127 (by decide) ?_
  refine s_copy C (by decide) (ky4_12 hq1) (ky4_12 hq0) copy_X4_73 copy_1 copy_2 copy_3 (Nat.le_of_ble_eq_true rfl) dX4_copyFrom_129 h (fun h => ?_)
  refine z_gM h (fun M13 h => ?_)
  refine i_aload_n C dX4_copyFrom_132 1 rfl ?_
  refine gf4_52 C hq1 dX4_copyFrom_133 ?_
  refine s_iconst C (0 : Int32) dX4_copyFrom_136 (by decide) ?_
  refine i_aload_n C dX4_copyFrom_137 0 rfl ?_
  refine gf4_52 C hq0 dX4_copyFrom_138 ?_
  refine s_iconst C (0 : Int32) dX4_copyFrom_141 (by decide) ?_
  refine s_bipush C (9 : Int32) dX4_copyFrom_142 (by decide) ?_
  refine s_copy C (by decide) (ky4_13 hq1) (ky4_13 hq0) copy_X4_73 copy_1 copy_2 copy_3 (Nat.le_of_ble_eq_true rfl) dX4_copyFrom_144 h (fun h => ?_)
  refine z_gM h (fun M14 h => ?_)
  refine i_aload_n C dX4_copyFrom_147 1 rfl ?_
  refine gf4_55 C hq1 dX4_copyFrom_148 ?_
  refine s_iconst C (0 : Int32) dX4_copyFrom_151 (by decide) ?_
  refine i_aload_n C dX4_copyFrom_152 0 rfl ?_
  refine gf4_55 C hq0 dX4_copyFrom_153 ?_
  refine s_iconst C (0 : Int32) dX4_copyFrom_156 (by decide) ?_
  refine s_iconst C (4 : Int32) dX4_copyFrom_157 (by decide) ?_
  refine s_copy C (by decide) (ky4_14 hq1) (ky4_14 hq0) copy_X4_73 copy_1 copy_2 copy_3 (Nat.le_of_ble_eq_true rfl) dX4_copyFrom_158 h (fun h => ?_)
  refine z_gM h (fun M15 h => ?_)
  refine i_aload_n C dX4_copyFrom_161 1 rfl ?_
  refine gf4_58 C hq1 dX4_copyFrom_162 ?_
  refine s_iconst C (0 : Int32) dX4_copyFrom_165 (by decide) ?_
  refine i_aload_n C dX4_copyFrom_166 0 rfl ?_
  refine gf4_58 C hq0 dX4_copyFrom_167 ?_
  refine s_iconst C (0 : Int32) dX4_copyFrom_170 (by decide) ?_
  refine s_bipush C (20 : Int32) dX4_copyFrom_171 (by decide) ?_
  refine s_copy C (by decide) (ky4_15 hq1) (ky4_15 hq0) copy_X4_73 copy_1 copy_2 copy_3 (Nat.le_of_ble_eq_true rfl) dX4_copyFrom_173 h (fun h => ?_)
  refine z_gM h (fun M16 h => ?_)
  refine i_aload_n C dX4_copyFrom_176 1 rfl ?_
  refine gf4_61 C hq1 dX4_copyFrom_177 ?_
  refine s_iconst C (0 : Int32) dX4_copyFrom_180 (by decide) ?_
  refine i_aload_n C dX4_copyFrom_181 0 rfl ?_
  refine gf4_61 C hq0 dX4_copyFrom_182 ?_
  refine s_iconst C (0 : Int32) dX4_copyFrom_185 (by decide) ?_
  refine s_bipush C (20 : Int32) dX4_copyFrom_186 (by decide) ?_
  refine s_copy C (by decide) (ky4_16 hq1) (ky4_16 hq0) copy_X4_73 copy_1 copy_2 copy_3 (Nat.le_of_ble_eq_true rfl) dX4_copyFrom_188 h (fun h => ?_)
  refine z_gM h (fun M17 h => ?_)
  refine i_aload_n C dX4_copyFrom_191 1 rfl ?_
  refine gf4_64 C hq1 dX4_copyFrom_192 ?_
  refine s_iconst C (0 : Int32) dX4_copyFrom_195 (by decide) ?_
  refine i_aload_n C dX4_copyFrom_196 0 rfl ?_
  refine gf4_64 C hq0 dX4_copyFrom_197 ?_
  refine s_iconst C (0 : Int32) dX4_copyFrom_200 (by decide) ?_
  refine s_bipush C (20 : Int32) dX4_copyFrom_201 (by decide) ?_
  refine s_copy C (by decide) (ky4_17 hq1) (ky4_17 hq0) copy_X4_73 copy_1 copy_2 copy_3 (Nat.le_of_ble_eq_true rfl) dX4_copyFrom_203 h (fun h => ?_)
  refine z_gM h (fun M18 h => ?_)
  exact s_vret C E dX4_copyFrom_206 h
theorem ctX4_copyFrom {ad : Nat → Nat} {V : sg_V} {N : Nat} (hi : sg_inj Yc ad) {a0_ : Nat} {a1_ : Nat} {M : sg_M} (hq0 : sg_K Yc a0_ 4) (hq1 : sg_K Yc a1_ 4) : ∀ res, fX4_copyFrom N a0_ a1_ M = some res → sg_cV Yc ad V yX4_copyFrom cX4_copyFrom 2 1 [.ref (ad a0_), .ref (ad a1_)] M res := fun res h => sg_bodyV (by decide) hi (Nat.le_of_ble_eq_true rfl) (fun X hX C E => by subst hX; exact tX4_copyFrom C E _ _  _ hq0 hq1 h)
def fX4_addStrap (N : Nat) (a0_ : Nat) (x1_ : Int32) (x2_ : Int32) (x3_ : Int32) (M : sg_M) : Option (sg_M) :=
  if (12 : Int32) ≤ (M.1 a0_ 6) then (
  some M) else (
  if sg_ib (M.1 a0_ 6) (Yc.2.2.1 (Yc.2.2.2 a0_ 9)) = true then
  sg_m (sg_uI M (Yc.2.2.2 a0_ 9) ((M.1 a0_ 6)).toNatClampNeg x1_) (fun M1 : sg_M =>
  if sg_ib (M1.1 a0_ 6) (Yc.2.2.1 (Yc.2.2.2 a0_ 10)) = true then
  sg_m (sg_uI M1 (Yc.2.2.2 a0_ 10) ((M1.1 a0_ 6)).toNatClampNeg x2_) (fun M2 : sg_M =>
  if sg_ib (M2.1 a0_ 6) (Yc.2.2.1 (Yc.2.2.2 a0_ 11)) = true then
  sg_m (sg_uI M2 (Yc.2.2.2 a0_ 11) ((M2.1 a0_ 6)).toNatClampNeg x3_) (fun M3 : sg_M =>
  sg_m (sg_uI M3 a0_ 6 ((M3.1 a0_ 6) + (1 : Int32))) (fun M4 : sg_M =>
  some M4))
  else none)
  else none)
  else none)
set_option maxHeartbeats 4000000 in
set_option maxRecDepth 100000 in
theorem tX4_addStrap {ad : Nat → Nat} {X : sg_X} {N : Nat} {r : sg_M} (C : sg_C Yc ad X cX4_addStrap RX4 4 0) (E : sg_eV Yc ad X cX4_addStrap r) : ∀ (a0_ : Nat) (x1_ : Int32) (x2_ : Int32) (x3_ : Int32) (M : sg_M), sg_K Yc a0_ 4 → fX4_addStrap N a0_ x1_ x2_ x3_ M = some r → sg_T Yc ad X 4 0 [(0, .ref (ad a0_)), (1, .int x1_), (2, .int x2_), (3, .int x3_)] [] M := by
  intro a0_ x1_ x2_ x3_ M hq0 h
  unfold fX4_addStrap at h
  refine i_aload_n C dX4_addStrap_0 0 rfl ?_
  refine gf4_30 C hq0 dX4_addStrap_1 ?_
  refine s_bipush C (12 : Int32) dX4_addStrap_4 (by decide) ?_
  refine s_icmp_ge C 49 (by decide) dX4_addStrap_6 h (fun _ h => ?_) (fun _ h => ?_)
  · exact s_vret C E dX4_addStrap_49 h
  · refine i_aload_n C dX4_addStrap_9 0 rfl ?_
    refine gf4_39 C hq0 dX4_addStrap_10 ?_
    refine i_aload_n C dX4_addStrap_13 0 rfl ?_
    refine gf4_30 C hq0 dX4_addStrap_14 ?_
    refine i_iload_n C dX4_addStrap_17 1 rfl ?_
    refine s_iast C (ky4_9 hq0) dX4_addStrap_18 h (fun h => ?_)
    refine z_gM h (fun M1 h => ?_)
    refine i_aload_n C dX4_addStrap_19 0 rfl ?_
    refine gf4_43 C hq0 dX4_addStrap_20 ?_
    refine i_aload_n C dX4_addStrap_23 0 rfl ?_
    refine gf4_30 C hq0 dX4_addStrap_24 ?_
    refine i_iload_n C dX4_addStrap_27 2 rfl ?_
    refine s_iast C (ky4_10 hq0) dX4_addStrap_28 h (fun h => ?_)
    refine z_gM h (fun M2 h => ?_)
    refine i_aload_n C dX4_addStrap_29 0 rfl ?_
    refine gf4_46 C hq0 dX4_addStrap_30 ?_
    refine i_aload_n C dX4_addStrap_33 0 rfl ?_
    refine gf4_30 C hq0 dX4_addStrap_34 ?_
    refine i_iload_n C dX4_addStrap_37 3 rfl ?_
    refine s_iast C (ky4_11 hq0) dX4_addStrap_38 h (fun h => ?_)
    refine z_gM h (fun M3 h => ?_)
    refine i_aload_n C dX4_addStrap_39 0 rfl ?_
    refine s_dup C dX4_addStrap_40 rfl ?_
    refine gf4_30 C hq0 dX4_addStrap_41 ?_
    refine s_iconst C (1 : Int32) dX4_addStrap_44 (by decide) ?_
    refine s_iadd C dX4_addStrap_45 ?_
    refine pf4_30 C hq0 dX4_addStrap_46 ?_
    refine z_gM h (fun M4 h => ?_)
    exact s_vret C E dX4_addStrap_49 h
theorem ctX4_addStrap {ad : Nat → Nat} {V : sg_V} {N : Nat} (hi : sg_inj Yc ad) {a0_ : Nat} {x1_ : Int32} {x2_ : Int32} {x3_ : Int32} {M : sg_M} (hq0 : sg_K Yc a0_ 4) : ∀ res, fX4_addStrap N a0_ x1_ x2_ x3_ M = some res → sg_cV Yc ad V yX4_addStrap cX4_addStrap 4 0 [.ref (ad a0_), .int x1_, .int x2_, .int x3_] M res := fun res h => sg_bodyV (by decide) hi (Nat.le_of_ble_eq_true rfl) (fun X hX C E => by subst hX; exact tX4_addStrap C E _ _ _ _  _ hq0 h)
def gX4_layOut_69 (N : Nat) (k25 : (Nat × Int32 × Int32 × Int32 × Int32) → sg_M → Option (sg_M)) (k34 : (Nat × Int32 × Int32 × Int32 × Int32 × Int32) → sg_M → Option (sg_M)) (a0_ : Nat) (x1_ : Int32) (x2_ : Int32) (x3_ : Int32) (x4_ : Int32) (x5_ : Int32) (M : sg_M) : Option (sg_M) :=
  if x2_ ≤ (x4_ + (1 : Int32)) then (
  sg_m (x5_ + (1 : Int32)) (fun x1 : Int32 =>
  k34 (a0_, x1_, x2_, x3_, x4_, x1) M)) else (
  sg_bv (fX4_addStrap N a0_ ((x4_ * x1_) + x5_) (((x4_ + (1 : Int32)) * x1_) + x5_) x3_ M) (fun M2 : sg_M =>
  sg_m (x5_ + (1 : Int32)) (fun x3 : Int32 =>
  k34 (a0_, x1_, x2_, x3_, x4_, x3) M2)))
set_option maxHeartbeats 4000000 in
set_option maxRecDepth 100000 in
theorem tX4_layOut_69 {ad : Nat → Nat} {X : sg_X} {N : Nat} {r : sg_M} (C : sg_C Yc ad X cX4_layOut RX4 6 1) (E : sg_eV Yc ad X cX4_layOut r) {k25 : (Nat × Int32 × Int32 × Int32 × Int32) → sg_M → Option (sg_M)} (hk25 : ∀ (s : Nat × Int32 × Int32 × Int32 × Int32) (M : sg_M), k25 s M = some r → sg_K Yc s.1 4 → sg_T Yc ad X 6 25 [(0, .ref (ad (s.1))), (1, .int (s.2.1)), (2, .int (s.2.2.1)), (3, .int (s.2.2.2.1)), (4, .int (s.2.2.2.2))] [] M) {k34 : (Nat × Int32 × Int32 × Int32 × Int32 × Int32) → sg_M → Option (sg_M)} (hk34 : ∀ (s : Nat × Int32 × Int32 × Int32 × Int32 × Int32) (M : sg_M), k34 s M = some r → sg_K Yc s.1 4 → sg_T Yc ad X 6 34 [(0, .ref (ad (s.1))), (1, .int (s.2.1)), (2, .int (s.2.2.1)), (3, .int (s.2.2.2.1)), (4, .int (s.2.2.2.2.1)), (5, .int (s.2.2.2.2.2))] [] M) : ∀ (a0_ : Nat) (x1_ : Int32) (x2_ : Int32) (x3_ : Int32) (x4_ : Int32) (x5_ : Int32) (M : sg_M), gX4_layOut_69 N k25 k34 a0_ x1_ x2_ x3_ x4_ x5_ M = some r → sg_K Yc a0_ 4 → sg_T Yc ad X 6 69 [(0, .ref (ad a0_)), (1, .int x1_), (2, .int x2_), (3, .int x3_), (4, .int x4_), (5, .int x5_)] [] M := by
  intro a0_ x1_ x2_ x3_ x4_ x5_ M h hq0
  unfold gX4_layOut_69 at h
  refine i_iload C dX4_layOut_69 4 rfl ?_
  refine s_iconst C (1 : Int32) dX4_layOut_71 (by decide) ?_
  refine s_iadd C dX4_layOut_72 ?_
  refine i_iload_n C dX4_layOut_73 2 rfl ?_
  refine s_icmp_ge C 98 (by decide) dX4_layOut_74 h (fun _ h => ?_) (fun _ h => ?_)
  · refine z_iinc (n := 1) (c9 := (1 : Int32)) (by decide) h (fun x1 hx h => ?_)
    refine i_iinc (lv9 := [(5, _), (0, _), (1, _), (2, _), (3, _), (4, _)]) C dX4_layOut_98 5 rfl hx (by decide) rfl ?_
    refine s_goto C 34 (by decide) dX4_layOut_101 ?_
    exact sg_T.to (hk34 _ _ h hq0) [1, 2, 3, 4, 5, 0] rfl
  · refine i_aload_n C dX4_layOut_77 0 rfl ?_
    refine i_iload C dX4_layOut_78 4 rfl ?_
    refine i_iload_n C dX4_layOut_80 1 rfl ?_
    refine s_imul C dX4_layOut_81 ?_
    refine i_iload C dX4_layOut_82 5 rfl ?_
    refine s_iadd C dX4_layOut_84 ?_
    refine i_iload C dX4_layOut_85 4 rfl ?_
    refine s_iconst C (1 : Int32) dX4_layOut_87 (by decide) ?_
    refine s_iadd C dX4_layOut_88 ?_
    refine i_iload_n C dX4_layOut_89 1 rfl ?_
    refine s_imul C dX4_layOut_90 ?_
    refine i_iload C dX4_layOut_91 5 rfl ?_
    refine s_iadd C dX4_layOut_93 ?_
    refine i_iload_n C dX4_layOut_94 3 rfl ?_
    refine s_vcV C [_, _, _] vmX4_addStrap lkX4_79 rfl rfl (by decide) hq0 (by decide) rfl rfl (Nat.le_of_ble_eq_true rfl) dX4_layOut_95 (ctX4_addStrap C.inj hq0) h (fun M2 h => ?_)
    refine z_iinc (n := 1) (c9 := (1 : Int32)) (by decide) h (fun x3 hx h => ?_)
    refine i_iinc (lv9 := [(5, _), (0, _), (1, _), (2, _), (3, _), (4, _)]) C dX4_layOut_98 5 rfl hx (by decide) rfl ?_
    refine s_goto C 34 (by decide) dX4_layOut_101 ?_
    exact sg_T.to (hk34 _ _ h hq0) [1, 2, 3, 4, 5, 0] rfl
def bX4_layOut_34 (N : Nat) (k25 : (Nat × Int32 × Int32 × Int32 × Int32) → sg_M → Option (sg_M)) (k34 : (Nat × Int32 × Int32 × Int32 × Int32 × Int32) → sg_M → Option (sg_M)) (s : Nat × Int32 × Int32 × Int32 × Int32 × Int32) (M : sg_M) : Option (sg_M) :=
  if s.2.1 ≤ s.2.2.2.2.2 then (
  sg_m (s.2.2.2.2.1 + (1 : Int32)) (fun x4 : Int32 =>
  k25 (s.1, s.2.1, s.2.2.1, s.2.2.2.1, x4) M)) else (
  if s.2.1 ≤ (s.2.2.2.2.2 + (1 : Int32)) then (
  gX4_layOut_69 N k25 k34 s.1 s.2.1 s.2.2.1 s.2.2.2.1 s.2.2.2.2.1 s.2.2.2.2.2 M) else (
  sg_bv (fX4_addStrap N s.1 ((s.2.2.2.2.1 * s.2.1) + s.2.2.2.2.2) (((s.2.2.2.2.1 * s.2.1) + s.2.2.2.2.2) + (1 : Int32)) s.2.2.2.1 M) (fun M5 : sg_M =>
  gX4_layOut_69 N k25 k34 s.1 s.2.1 s.2.2.1 s.2.2.2.1 s.2.2.2.2.1 s.2.2.2.2.2 M5)))
def gX4_layOut_34 (N : Nat) (k25 : (Nat × Int32 × Int32 × Int32 × Int32) → sg_M → Option (sg_M)) : (Nat × Int32 × Int32 × Int32 × Int32 × Int32) → sg_M → Option (sg_M) := sg_lp (bX4_layOut_34 N k25) N
set_option maxHeartbeats 4000000 in
set_option maxRecDepth 100000 in
theorem tX4_layOut_34 {ad : Nat → Nat} {X : sg_X} {N : Nat} {r : sg_M} (C : sg_C Yc ad X cX4_layOut RX4 6 1) (E : sg_eV Yc ad X cX4_layOut r) {k25 : (Nat × Int32 × Int32 × Int32 × Int32) → sg_M → Option (sg_M)} (hk25 : ∀ (s : Nat × Int32 × Int32 × Int32 × Int32) (M : sg_M), k25 s M = some r → sg_K Yc s.1 4 → sg_T Yc ad X 6 25 [(0, .ref (ad (s.1))), (1, .int (s.2.1)), (2, .int (s.2.2.1)), (3, .int (s.2.2.2.1)), (4, .int (s.2.2.2.2))] [] M) : ∀ (s : Nat × Int32 × Int32 × Int32 × Int32 × Int32) (M : sg_M), gX4_layOut_34 N k25 s M = some r → sg_K Yc s.1 4 → sg_T Yc ad X 6 34 [(0, .ref (ad (s.1))), (1, .int (s.2.1)), (2, .int (s.2.2.1)), (3, .int (s.2.2.2.1)), (4, .int (s.2.2.2.2.1)), (5, .int (s.2.2.2.2.2))] [] M := by
  have key : ∀ n : Nat, ∀ (s : Nat × Int32 × Int32 × Int32 × Int32 × Int32) (M : sg_M), sg_lp (bX4_layOut_34 N k25) n s M = some r → sg_K Yc s.1 4 → sg_T Yc ad X 6 34 [(0, .ref (ad (s.1))), (1, .int (s.2.1)), (2, .int (s.2.2.1)), (3, .int (s.2.2.2.1)), (4, .int (s.2.2.2.2.1)), (5, .int (s.2.2.2.2.2))] [] M := by
    intro n
    induction n with
    | zero => intro s M h; cases h
    | succ n ih =>
      intro s M h hq0
      have h : bX4_layOut_34 N k25 (sg_lp (bX4_layOut_34 N k25) n) s M = some r := h
      generalize sg_lp (bX4_layOut_34 N k25) n = k34 at h ih
      have hk34 := ih
      unfold bX4_layOut_34 at h
      refine i_iload C dX4_layOut_34 5 rfl ?_
      refine i_iload_n C dX4_layOut_36 1 rfl ?_
      refine s_icmp_ge C 104 (by decide) dX4_layOut_37 h (fun _ h => ?_) (fun _ h => ?_)
      · refine z_iinc (n := 1) (c9 := (1 : Int32)) (by decide) h (fun x4 hx h => ?_)
        refine i_iinc (lv9 := [(4, _), (0, _), (1, _), (2, _), (3, _), (5, _)]) C dX4_layOut_104 4 rfl hx (by decide) rfl ?_
        refine s_goto C 25 (by decide) dX4_layOut_107 ?_
        exact sg_T.to (hk25 _ _ h hq0) [1, 2, 3, 4, 0] rfl
      · refine i_iload C dX4_layOut_40 5 rfl ?_
        refine s_iconst C (1 : Int32) dX4_layOut_42 (by decide) ?_
        refine s_iadd C dX4_layOut_43 ?_
        refine i_iload_n C dX4_layOut_44 1 rfl ?_
        refine s_icmp_ge C 69 (by decide) dX4_layOut_45 h (fun _ h => ?_) (fun _ h => ?_)
        · exact sg_T.to (tX4_layOut_69 C E hk25 hk34 _ _ _ _ _ _ _ h hq0) [0, 1, 2, 3, 4, 5] rfl
        · refine i_aload_n C dX4_layOut_48 0 rfl ?_
          refine i_iload C dX4_layOut_49 4 rfl ?_
          refine i_iload_n C dX4_layOut_51 1 rfl ?_
          refine s_imul C dX4_layOut_52 ?_
          refine i_iload C dX4_layOut_53 5 rfl ?_
          refine s_iadd C dX4_layOut_55 ?_
          refine i_iload C dX4_layOut_56 4 rfl ?_
          refine i_iload_n C dX4_layOut_58 1 rfl ?_
          refine s_imul C dX4_layOut_59 ?_
          refine i_iload C dX4_layOut_60 5 rfl ?_
          refine s_iadd C dX4_layOut_62 ?_
          refine s_iconst C (1 : Int32) dX4_layOut_63 (by decide) ?_
          refine s_iadd C dX4_layOut_64 ?_
          refine i_iload_n C dX4_layOut_65 3 rfl ?_
          refine s_vcV C [_, _, _] vmX4_addStrap lkX4_79 rfl rfl (by decide) hq0 (by decide) rfl rfl (Nat.le_of_ble_eq_true rfl) dX4_layOut_66 (ctX4_addStrap C.inj hq0) h (fun M5 h => ?_)
          exact sg_T.to (tX4_layOut_69 C E hk25 hk34 _ _ _ _ _ _ _ h hq0) [0, 1, 2, 3, 4, 5] rfl
  exact key N
def bX4_layOut_25 (N : Nat)  (k25 : (Nat × Int32 × Int32 × Int32 × Int32) → sg_M → Option (sg_M)) (s : Nat × Int32 × Int32 × Int32 × Int32) (M : sg_M) : Option (sg_M) :=
  if s.2.2.1 ≤ s.2.2.2.2 then (
  some M) else (
  sg_m (0 : Int32) (fun x6 : Int32 =>
  gX4_layOut_34 N k25 (s.1, s.2.1, s.2.2.1, s.2.2.2.1, s.2.2.2.2, x6) M))
def gX4_layOut_25 (N : Nat)  : (Nat × Int32 × Int32 × Int32 × Int32) → sg_M → Option (sg_M) := sg_lp (bX4_layOut_25 N ) N
set_option maxHeartbeats 4000000 in
set_option maxRecDepth 100000 in
theorem tX4_layOut_25 {ad : Nat → Nat} {X : sg_X} {N : Nat} {r : sg_M} (C : sg_C Yc ad X cX4_layOut RX4 6 1) (E : sg_eV Yc ad X cX4_layOut r)  : ∀ (s : Nat × Int32 × Int32 × Int32 × Int32) (M : sg_M), gX4_layOut_25 N s M = some r → sg_K Yc s.1 4 → sg_T Yc ad X 6 25 [(0, .ref (ad (s.1))), (1, .int (s.2.1)), (2, .int (s.2.2.1)), (3, .int (s.2.2.2.1)), (4, .int (s.2.2.2.2))] [] M := by
  have key : ∀ n : Nat, ∀ (s : Nat × Int32 × Int32 × Int32 × Int32) (M : sg_M), sg_lp (bX4_layOut_25 N) n s M = some r → sg_K Yc s.1 4 → sg_T Yc ad X 6 25 [(0, .ref (ad (s.1))), (1, .int (s.2.1)), (2, .int (s.2.2.1)), (3, .int (s.2.2.2.1)), (4, .int (s.2.2.2.2))] [] M := by
    intro n
    induction n with
    | zero => intro s M h; cases h
    | succ n ih =>
      intro s M h hq0
      have h : bX4_layOut_25 N (sg_lp (bX4_layOut_25 N) n) s M = some r := h
      generalize sg_lp (bX4_layOut_25 N) n = k25 at h ih
      have hk25 := ih
      unfold bX4_layOut_25 at h
      refine i_iload C dX4_layOut_25 4 rfl ?_
      refine i_iload_n C dX4_layOut_27 2 rfl ?_
      refine s_icmp_ge C 110 (by decide) dX4_layOut_28 h (fun _ h => ?_) (fun _ h => ?_)
      · exact s_vret C E dX4_layOut_110 h
      · refine s_iconst C (0 : Int32) dX4_layOut_31 (by decide) ?_
        refine z_gi h (fun x6 h => ?_)
        refine i_istore (lv9 := [(5, _), (0, _), (1, _), (2, _), (3, _), (4, _)]) C dX4_layOut_32 (by decide) rfl ?_
        exact sg_T.to (tX4_layOut_34 C E hk25 _ _ h hq0) [1, 2, 3, 4, 5, 0] rfl
  exact key N
def fX4_layOut (N : Nat) (a0_ : Nat) (x1_ : Int32) (x2_ : Int32) (x3_ : Int32) (M : sg_M) : Option (sg_M) :=
  sg_m (sg_uI M a0_ 0 x1_) (fun M7 : sg_M =>
  sg_m (sg_uI M7 a0_ 1 x2_) (fun M8 : sg_M =>
  sg_m (sg_uI M8 a0_ 5 (x1_ * x2_)) (fun M9 : sg_M =>
  sg_m (sg_uI M9 a0_ 6 (0 : Int32)) (fun M10 : sg_M =>
  sg_m (0 : Int32) (fun x11 : Int32 =>
  gX4_layOut_25 N (a0_, x1_, x2_, x3_, x11) M10)))))
set_option maxHeartbeats 4000000 in
set_option maxRecDepth 100000 in
theorem tX4_layOut {ad : Nat → Nat} {X : sg_X} {N : Nat} {r : sg_M} (C : sg_C Yc ad X cX4_layOut RX4 6 1) (E : sg_eV Yc ad X cX4_layOut r) : ∀ (a0_ : Nat) (x1_ : Int32) (x2_ : Int32) (x3_ : Int32) (M : sg_M), sg_K Yc a0_ 4 → fX4_layOut N a0_ x1_ x2_ x3_ M = some r → sg_T Yc ad X 6 0 [(0, .ref (ad a0_)), (1, .int x1_), (2, .int x2_), (3, .int x3_)] [] M := by
  intro a0_ x1_ x2_ x3_ M hq0 h
  unfold fX4_layOut at h
  refine i_aload_n C dX4_layOut_0 0 rfl ?_
  refine i_iload_n C dX4_layOut_1 1 rfl ?_
  refine pf4_9 C hq0 dX4_layOut_2 ?_
  refine z_gM h (fun M7 h => ?_)
  refine i_aload_n C dX4_layOut_5 0 rfl ?_
  refine i_iload_n C dX4_layOut_6 2 rfl ?_
  refine pf4_15 C hq0 dX4_layOut_7 ?_
  refine z_gM h (fun M8 h => ?_)
  refine i_aload_n C dX4_layOut_10 0 rfl ?_
  refine i_iload_n C dX4_layOut_11 1 rfl ?_
  refine i_iload_n C dX4_layOut_12 2 rfl ?_
  refine s_imul C dX4_layOut_13 ?_
  refine pf4_27 C hq0 dX4_layOut_14 ?_
  refine z_gM h (fun M9 h => ?_)
  refine i_aload_n C dX4_layOut_17 0 rfl ?_
  refine s_iconst C (0 : Int32) dX4_layOut_18 (by decide) ?_
  refine pf4_30 C hq0 dX4_layOut_19 ?_
  refine z_gM h (fun M10 h => ?_)
  refine s_iconst C (0 : Int32) dX4_layOut_22 (by decide) ?_
  refine z_gi h (fun x11 h => ?_)
  refine i_istore (lv9 := [(4, _), (0, _), (1, _), (2, _), (3, _)]) C dX4_layOut_23 (by decide) rfl ?_
  exact sg_T.to (tX4_layOut_25 C E _ _ h hq0) [1, 2, 3, 4, 0] rfl
theorem ctX4_layOut {ad : Nat → Nat} {V : sg_V} {N : Nat} (hi : sg_inj Yc ad) {a0_ : Nat} {x1_ : Int32} {x2_ : Int32} {x3_ : Int32} {M : sg_M} (hq0 : sg_K Yc a0_ 4) : ∀ res, fX4_layOut N a0_ x1_ x2_ x3_ M = some res → sg_cV Yc ad V yX4_layOut cX4_layOut 6 1 [.ref (ad a0_), .int x1_, .int x2_, .int x3_] M res := fun res h => sg_bodyV (by decide) hi (Nat.le_of_ble_eq_true rfl) (fun X hX C E => by subst hX; exact tX4_layOut C E _ _ _ _  _ hq0 h)
def gX4_strapJoining_35 (N : Nat) (k2 : (Nat × Int32 × Int32 × Int32) → sg_M → Option (Int32 × sg_M)) (a0_ : Nat) (x1_ : Int32) (x2_ : Int32) (x3_ : Int32) (y0_ : Int32) (M : sg_M) : Option (Int32 × sg_M) :=
  sg_m y0_ (fun x1 : Int32 =>
  if x1 = 0 then (
  if sg_ib x3_ (Yc.2.2.1 (Yc.2.2.2 a0_ 9)) = true then
  if (M.1 (Yc.2.2.2 a0_ 9) (x3_).toNatClampNeg) = x2_ then (
  if sg_ib x3_ (Yc.2.2.1 (Yc.2.2.2 a0_ 10)) = true then
  if (M.1 (Yc.2.2.2 a0_ 10) (x3_).toNatClampNeg) = x1_ then (
  some (x3_, M)) else (
  sg_m (x3_ + (1 : Int32)) (fun x2 : Int32 =>
  k2 (a0_, x1_, x2_, x2) M))
  else none) else (
  sg_m (x3_ + (1 : Int32)) (fun x3 : Int32 =>
  k2 (a0_, x1_, x2_, x3) M))
  else none) else (
  some (x3_, M)))
set_option maxHeartbeats 4000000 in
set_option maxRecDepth 100000 in
theorem tX4_strapJoining_35 {ad : Nat → Nat} {X : sg_X} {N : Nat} {r : Int32 × sg_M} (C : sg_C Yc ad X cX4_strapJoining RX4 5 0) (E : sg_eI Yc ad X cX4_strapJoining .int r) {k2 : (Nat × Int32 × Int32 × Int32) → sg_M → Option (Int32 × sg_M)} (hk2 : ∀ (s : Nat × Int32 × Int32 × Int32) (M : sg_M), k2 s M = some r → sg_K Yc s.1 4 → sg_T Yc ad X 5 2 [(0, .ref (ad (s.1))), (1, .int (s.2.1)), (2, .int (s.2.2.1)), (3, .int (s.2.2.2))] [] M) : ∀ (a0_ : Nat) (x1_ : Int32) (x2_ : Int32) (x3_ : Int32) (y0_ : Int32) (M : sg_M), gX4_strapJoining_35 N k2 a0_ x1_ x2_ x3_ y0_ M = some r → sg_K Yc a0_ 4 → sg_T Yc ad X 5 35 [(0, .ref (ad a0_)), (1, .int x1_), (2, .int x2_), (3, .int x3_)] [.int y0_] M := by
  intro a0_ x1_ x2_ x3_ y0_ M h hq0
  unfold gX4_strapJoining_35 at h
  refine z_gi h (fun x1 h => ?_)
  refine i_istore (lv9 := [(4, _), (0, _), (1, _), (2, _), (3, _)]) C dX4_strapJoining_35 (by decide) rfl ?_
  refine i_iload C dX4_strapJoining_37 0 rfl ?_
  refine s_if_ne C 62 (by decide) dX4_strapJoining_39 h (fun _ h => ?_) (fun _ h => ?_)
  · refine i_aload_n C dX4_strapJoining_42 1 rfl ?_
    refine gf4_39 C hq0 dX4_strapJoining_43 ?_
    refine i_iload_n C dX4_strapJoining_46 4 rfl ?_
    refine s_iald C (ky4_9 hq0) dX4_strapJoining_47 h (fun h => ?_)
    refine i_iload_n C dX4_strapJoining_48 3 rfl ?_
    refine s_icmp_ne C 64 (by decide) dX4_strapJoining_49 h (fun _ h => ?_) (fun _ h => ?_)
    · refine i_aload_n C dX4_strapJoining_52 1 rfl ?_
      refine gf4_43 C hq0 dX4_strapJoining_53 ?_
      refine i_iload_n C dX4_strapJoining_56 4 rfl ?_
      refine s_iald C (ky4_10 hq0) dX4_strapJoining_57 h (fun h => ?_)
      refine i_iload_n C dX4_strapJoining_58 2 rfl ?_
      refine s_icmp_ne C 64 (by decide) dX4_strapJoining_59 h (fun _ h => ?_) (fun _ h => ?_)
      · refine i_iload_n C dX4_strapJoining_62 4 rfl ?_
        exact s_iret C E dX4_strapJoining_63 h
      · refine z_iinc (n := 1) (c9 := (1 : Int32)) (by decide) h (fun x2 hx h => ?_)
        refine i_iinc (lv9 := [(3, _), (4, _), (0, _), (1, _), (2, _)]) C dX4_strapJoining_64 4 rfl hx (by decide) rfl ?_
        refine s_goto C 2 (by decide) dX4_strapJoining_67 ?_
        exact sg_T.to (hk2 _ _ h hq0) [2, 3, 4, 0] rfl
    · refine z_iinc (n := 1) (c9 := (1 : Int32)) (by decide) h (fun x3 hx h => ?_)
      refine i_iinc (lv9 := [(3, _), (4, _), (0, _), (1, _), (2, _)]) C dX4_strapJoining_64 4 rfl hx (by decide) rfl ?_
      refine s_goto C 2 (by decide) dX4_strapJoining_67 ?_
      exact sg_T.to (hk2 _ _ h hq0) [2, 3, 4, 0] rfl
  · refine i_iload_n C dX4_strapJoining_62 4 rfl ?_
    exact s_iret C E dX4_strapJoining_63 h
def bX4_strapJoining_2 (N : Nat)  (k2 : (Nat × Int32 × Int32 × Int32) → sg_M → Option (Int32 × sg_M)) (s : Nat × Int32 × Int32 × Int32) (M : sg_M) : Option (Int32 × sg_M) :=
  if (M.1 s.1 6) ≤ s.2.2.2 then (
  some ((-1 : Int32), M)) else (
  if sg_ib s.2.2.2 (Yc.2.2.1 (Yc.2.2.2 s.1 9)) = true then
  if (M.1 (Yc.2.2.2 s.1 9) (s.2.2.2).toNatClampNeg) = s.2.1 then (
  if sg_ib s.2.2.2 (Yc.2.2.1 (Yc.2.2.2 s.1 10)) = true then
  if (M.1 (Yc.2.2.2 s.1 10) (s.2.2.2).toNatClampNeg) = s.2.2.1 then (
  gX4_strapJoining_35 N k2 s.1 s.2.1 s.2.2.1 s.2.2.2 (1 : Int32) M) else (
  gX4_strapJoining_35 N k2 s.1 s.2.1 s.2.2.1 s.2.2.2 (0 : Int32) M)
  else none) else (
  gX4_strapJoining_35 N k2 s.1 s.2.1 s.2.2.1 s.2.2.2 (0 : Int32) M)
  else none)
def gX4_strapJoining_2 (N : Nat)  : (Nat × Int32 × Int32 × Int32) → sg_M → Option (Int32 × sg_M) := sg_lp (bX4_strapJoining_2 N ) N
set_option maxHeartbeats 4000000 in
set_option maxRecDepth 100000 in
theorem tX4_strapJoining_2 {ad : Nat → Nat} {X : sg_X} {N : Nat} {r : Int32 × sg_M} (C : sg_C Yc ad X cX4_strapJoining RX4 5 0) (E : sg_eI Yc ad X cX4_strapJoining .int r)  : ∀ (s : Nat × Int32 × Int32 × Int32) (M : sg_M), gX4_strapJoining_2 N s M = some r → sg_K Yc s.1 4 → sg_T Yc ad X 5 2 [(0, .ref (ad (s.1))), (1, .int (s.2.1)), (2, .int (s.2.2.1)), (3, .int (s.2.2.2))] [] M := by
  have key : ∀ n : Nat, ∀ (s : Nat × Int32 × Int32 × Int32) (M : sg_M), sg_lp (bX4_strapJoining_2 N) n s M = some r → sg_K Yc s.1 4 → sg_T Yc ad X 5 2 [(0, .ref (ad (s.1))), (1, .int (s.2.1)), (2, .int (s.2.2.1)), (3, .int (s.2.2.2))] [] M := by
    intro n
    induction n with
    | zero => intro s M h; cases h
    | succ n ih =>
      intro s M h hq0
      have h : bX4_strapJoining_2 N (sg_lp (bX4_strapJoining_2 N) n) s M = some r := h
      generalize sg_lp (bX4_strapJoining_2 N) n = k2 at h ih
      have hk2 := ih
      unfold bX4_strapJoining_2 at h
      refine i_iload_n C dX4_strapJoining_2 3 rfl ?_
      refine i_aload_n C dX4_strapJoining_3 0 rfl ?_
      refine gf4_30 C hq0 dX4_strapJoining_4 ?_
      refine s_icmp_ge C 70 (by decide) dX4_strapJoining_7 h (fun _ h => ?_) (fun _ h => ?_)
      · refine s_iconst C (-1 : Int32) dX4_strapJoining_70 (by decide) ?_
        exact s_iret C E dX4_strapJoining_71 h
      · refine i_aload_n C dX4_strapJoining_10 0 rfl ?_
        refine gf4_39 C hq0 dX4_strapJoining_11 ?_
        refine i_iload_n C dX4_strapJoining_14 3 rfl ?_
        refine s_iald C (ky4_9 hq0) dX4_strapJoining_15 h (fun h => ?_)
        refine i_iload_n C dX4_strapJoining_16 1 rfl ?_
        refine s_icmp_ne C 34 (by decide) dX4_strapJoining_17 h (fun _ h => ?_) (fun _ h => ?_)
        · refine i_aload_n C dX4_strapJoining_20 0 rfl ?_
          refine gf4_43 C hq0 dX4_strapJoining_21 ?_
          refine i_iload_n C dX4_strapJoining_24 3 rfl ?_
          refine s_iald C (ky4_10 hq0) dX4_strapJoining_25 h (fun h => ?_)
          refine i_iload_n C dX4_strapJoining_26 2 rfl ?_
          refine s_icmp_ne C 34 (by decide) dX4_strapJoining_27 h (fun _ h => ?_) (fun _ h => ?_)
          · refine s_iconst C (1 : Int32) dX4_strapJoining_30 (by decide) ?_
            refine s_goto C 35 (by decide) dX4_strapJoining_31 ?_
            exact sg_T.to (tX4_strapJoining_35 C E hk2 _ _ _ _ _ _ h hq0) [0, 1, 2, 3] rfl
          · refine s_iconst C (0 : Int32) dX4_strapJoining_34 (by decide) ?_
            exact sg_T.to (tX4_strapJoining_35 C E hk2 _ _ _ _ _ _ h hq0) [0, 1, 2, 3] rfl
        · refine s_iconst C (0 : Int32) dX4_strapJoining_34 (by decide) ?_
          exact sg_T.to (tX4_strapJoining_35 C E hk2 _ _ _ _ _ _ h hq0) [0, 1, 2, 3] rfl
  exact key N
def fX4_strapJoining (N : Nat) (a0_ : Nat) (x1_ : Int32) (x2_ : Int32) (M : sg_M) : Option (Int32 × sg_M) :=
  sg_m (0 : Int32) (fun x4 : Int32 =>
  gX4_strapJoining_2 N (a0_, x1_, x2_, x4) M)
set_option maxHeartbeats 4000000 in
set_option maxRecDepth 100000 in
theorem tX4_strapJoining {ad : Nat → Nat} {X : sg_X} {N : Nat} {r : Int32 × sg_M} (C : sg_C Yc ad X cX4_strapJoining RX4 5 0) (E : sg_eI Yc ad X cX4_strapJoining .int r) : ∀ (a0_ : Nat) (x1_ : Int32) (x2_ : Int32) (M : sg_M), sg_K Yc a0_ 4 → fX4_strapJoining N a0_ x1_ x2_ M = some r → sg_T Yc ad X 5 0 [(0, .ref (ad a0_)), (1, .int x1_), (2, .int x2_)] [] M := by
  intro a0_ x1_ x2_ M hq0 h
  unfold fX4_strapJoining at h
  refine s_iconst C (0 : Int32) dX4_strapJoining_0 (by decide) ?_
  refine z_gi h (fun x4 h => ?_)
  refine i_istore_n (lv9 := [(3, _), (0, _), (1, _), (2, _)]) C 3 dX4_strapJoining_1 rfl (by decide) rfl ?_
  exact sg_T.to (tX4_strapJoining_2 C E _ _ h hq0) [1, 2, 3, 0] rfl
theorem ctX4_strapJoining {ad : Nat → Nat} {V : sg_V} {N : Nat} (hi : sg_inj Yc ad) {a0_ : Nat} {x1_ : Int32} {x2_ : Int32} {M : sg_M} (hq0 : sg_K Yc a0_ 4) : ∀ res, fX4_strapJoining N a0_ x1_ x2_ M = some res → sg_cI Yc ad V yX4_strapJoining cX4_strapJoining 5 .int 0 [.ref (ad a0_), .int x1_, .int x2_] M res := fun res h => sg_bodyI (by decide) hi (Nat.le_of_ble_eq_true rfl) (fun X hX C E => by subst hX; exact tX4_strapJoining C E _ _ _  _ hq0 h)
def fX4_isPad (N : Nat) (a0_ : Nat) (x1_ : Int32) (M : sg_M) : Option (Int32 × sg_M) :=
  if (((M.1 a0_ 7) >>> (x1_ &&& 31)) &&& (1 : Int32)) = (1 : Int32) then (
  some ((1 : Int32), M)) else (
  some ((0 : Int32), M))
set_option maxHeartbeats 4000000 in
set_option maxRecDepth 100000 in
theorem tX4_isPad {ad : Nat → Nat} {X : sg_X} {N : Nat} {r : Int32 × sg_M} (C : sg_C Yc ad X cX4_isPad RX4 2 0) (E : sg_eI Yc ad X cX4_isPad .boolean r) : ∀ (a0_ : Nat) (x1_ : Int32) (M : sg_M), sg_K Yc a0_ 4 → fX4_isPad N a0_ x1_ M = some r → sg_T Yc ad X 2 0 [(0, .ref (ad a0_)), (1, .int x1_)] [] M := by
  intro a0_ x1_ M hq0 h
  unfold fX4_isPad at h
  refine i_aload_n C dX4_isPad_0 0 rfl ?_
  refine gf4_33 C hq0 dX4_isPad_1 ?_
  refine i_iload_n C dX4_isPad_4 1 rfl ?_
  refine s_ishr C dX4_isPad_5 ?_
  refine s_iconst C (1 : Int32) dX4_isPad_6 (by decide) ?_
  refine s_iand C dX4_isPad_7 ?_
  refine s_iconst C (1 : Int32) dX4_isPad_8 (by decide) ?_
  refine s_icmp_ne C 16 (by decide) dX4_isPad_9 h (fun _ h => ?_) (fun _ h => ?_)
  · refine s_iconst C (1 : Int32) dX4_isPad_12 (by decide) ?_
    refine s_goto C 17 (by decide) dX4_isPad_13 ?_
    exact s_zret1 C E (by decide) dX4_isPad_17 h
  · refine s_iconst C (0 : Int32) dX4_isPad_16 (by decide) ?_
    exact s_zret1 C E (by decide) dX4_isPad_17 h
theorem ctX4_isPad {ad : Nat → Nat} {V : sg_V} {N : Nat} (hi : sg_inj Yc ad) {a0_ : Nat} {x1_ : Int32} {M : sg_M} (hq0 : sg_K Yc a0_ 4) : ∀ res, fX4_isPad N a0_ x1_ M = some res → sg_cI Yc ad V yX4_isPad cX4_isPad 2 .boolean 0 [.ref (ad a0_), .int x1_] M res := fun res h => sg_bodyI (by decide) hi (Nat.le_of_ble_eq_true rfl) (fun X hX C E => by subst hX; exact tX4_isPad C E _ _  _ hq0 h)
def bX4_shiftWidths_3 (N : Nat)  (k3 : (Nat × Nat × Int32 × Int32 × Int32) → sg_M → Option (sg_M)) (s : Nat × Nat × Int32 × Int32 × Int32) (M : sg_M) : Option (sg_M) :=
  if (M.1 s.1 6) ≤ s.2.2.2.2 then (
  some M) else (
  if ((s.2.2.1 >>> (s.2.2.2.2 &&& 31)) &&& (1 : Int32)) = (1 : Int32) then (
  if sg_ib s.2.2.2.2 (Yc.2.2.1 s.2.1) = true then
  if sg_ib s.2.2.2.2 (Yc.2.2.1 s.2.1) = true then
  sg_m (sg_uI M s.2.1 (s.2.2.2.2).toNatClampNeg ((M.1 s.2.1 (s.2.2.2.2).toNatClampNeg) + s.2.2.2.1)) (fun M1 : sg_M =>
  sg_m (s.2.2.2.2 + (1 : Int32)) (fun x2 : Int32 =>
  k3 (s.1, s.2.1, s.2.2.1, s.2.2.2.1, x2) M1))
  else none
  else none) else (
  sg_m (s.2.2.2.2 + (1 : Int32)) (fun x3 : Int32 =>
  k3 (s.1, s.2.1, s.2.2.1, s.2.2.2.1, x3) M)))
def gX4_shiftWidths_3 (N : Nat)  : (Nat × Nat × Int32 × Int32 × Int32) → sg_M → Option (sg_M) := sg_lp (bX4_shiftWidths_3 N ) N
set_option maxHeartbeats 4000000 in
set_option maxRecDepth 100000 in
theorem tX4_shiftWidths_3 {ad : Nat → Nat} {X : sg_X} {N : Nat} {r : sg_M} (C : sg_C Yc ad X cX4_shiftWidths RX4 5 0) (E : sg_eV Yc ad X cX4_shiftWidths r)  : ∀ (s : Nat × Nat × Int32 × Int32 × Int32) (M : sg_M), gX4_shiftWidths_3 N s M = some r → sg_K Yc s.1 4 → sg_K Yc s.2.1 13 → sg_T Yc ad X 5 3 [(0, .ref (ad (s.1))), (1, .ref (ad (s.2.1))), (2, .int (s.2.2.1)), (3, .int (s.2.2.2.1)), (4, .int (s.2.2.2.2))] [] M := by
  have key : ∀ n : Nat, ∀ (s : Nat × Nat × Int32 × Int32 × Int32) (M : sg_M), sg_lp (bX4_shiftWidths_3 N) n s M = some r → sg_K Yc s.1 4 → sg_K Yc s.2.1 13 → sg_T Yc ad X 5 3 [(0, .ref (ad (s.1))), (1, .ref (ad (s.2.1))), (2, .int (s.2.2.1)), (3, .int (s.2.2.2.1)), (4, .int (s.2.2.2.2))] [] M := by
    intro n
    induction n with
    | zero => intro s M h; cases h
    | succ n ih =>
      intro s M h hq0 hq1
      have h : bX4_shiftWidths_3 N (sg_lp (bX4_shiftWidths_3 N) n) s M = some r := h
      generalize sg_lp (bX4_shiftWidths_3 N) n = k3 at h ih
      have hk3 := ih
      unfold bX4_shiftWidths_3 at h
      refine i_iload C dX4_shiftWidths_3 4 rfl ?_
      refine i_aload_n C dX4_shiftWidths_5 0 rfl ?_
      refine gf4_30 C hq0 dX4_shiftWidths_6 ?_
      refine s_icmp_ge C 36 (by decide) dX4_shiftWidths_9 h (fun _ h => ?_) (fun _ h => ?_)
      · exact s_vret C E dX4_shiftWidths_36 h
      · refine i_iload_n C dX4_shiftWidths_12 2 rfl ?_
        refine i_iload C dX4_shiftWidths_13 4 rfl ?_
        refine s_ishr C dX4_shiftWidths_15 ?_
        refine s_iconst C (1 : Int32) dX4_shiftWidths_16 (by decide) ?_
        refine s_iand C dX4_shiftWidths_17 ?_
        refine s_iconst C (1 : Int32) dX4_shiftWidths_18 (by decide) ?_
        refine s_icmp_ne C 30 (by decide) dX4_shiftWidths_19 h (fun _ h => ?_) (fun _ h => ?_)
        · refine i_aload_n C dX4_shiftWidths_22 1 rfl ?_
          refine i_iload C dX4_shiftWidths_23 4 rfl ?_
          refine s_dup2 C dX4_shiftWidths_25 rfl rfl ?_
          refine s_iald C hq1 dX4_shiftWidths_26 h (fun h => ?_)
          refine i_iload_n C dX4_shiftWidths_27 3 rfl ?_
          refine s_iadd C dX4_shiftWidths_28 ?_
          refine s_iast C hq1 dX4_shiftWidths_29 h (fun h => ?_)
          refine z_gM h (fun M1 h => ?_)
          refine z_iinc (n := 1) (c9 := (1 : Int32)) (by decide) h (fun x2 hx h => ?_)
          refine i_iinc (lv9 := [(4, _), (0, _), (1, _), (2, _), (3, _)]) C dX4_shiftWidths_30 4 rfl hx (by decide) rfl ?_
          refine s_goto C 3 (by decide) dX4_shiftWidths_33 ?_
          exact sg_T.to (hk3 _ _ h hq0 hq1) [1, 2, 3, 4, 0] rfl
        · refine z_iinc (n := 1) (c9 := (1 : Int32)) (by decide) h (fun x3 hx h => ?_)
          refine i_iinc (lv9 := [(4, _), (0, _), (1, _), (2, _), (3, _)]) C dX4_shiftWidths_30 4 rfl hx (by decide) rfl ?_
          refine s_goto C 3 (by decide) dX4_shiftWidths_33 ?_
          exact sg_T.to (hk3 _ _ h hq0 hq1) [1, 2, 3, 4, 0] rfl
  exact key N
def fX4_shiftWidths (N : Nat) (a0_ : Nat) (a1_ : Nat) (x2_ : Int32) (x3_ : Int32) (M : sg_M) : Option (sg_M) :=
  sg_m (0 : Int32) (fun x4 : Int32 =>
  gX4_shiftWidths_3 N (a0_, a1_, x2_, x3_, x4) M)
set_option maxHeartbeats 4000000 in
set_option maxRecDepth 100000 in
theorem tX4_shiftWidths {ad : Nat → Nat} {X : sg_X} {N : Nat} {r : sg_M} (C : sg_C Yc ad X cX4_shiftWidths RX4 5 0) (E : sg_eV Yc ad X cX4_shiftWidths r) : ∀ (a0_ : Nat) (a1_ : Nat) (x2_ : Int32) (x3_ : Int32) (M : sg_M), sg_K Yc a0_ 4 → sg_K Yc a1_ 13 → fX4_shiftWidths N a0_ a1_ x2_ x3_ M = some r → sg_T Yc ad X 5 0 [(0, .ref (ad a0_)), (1, .ref (ad a1_)), (2, .int x2_), (3, .int x3_)] [] M := by
  intro a0_ a1_ x2_ x3_ M hq0 hq1 h
  unfold fX4_shiftWidths at h
  refine s_iconst C (0 : Int32) dX4_shiftWidths_0 (by decide) ?_
  refine z_gi h (fun x4 h => ?_)
  refine i_istore (lv9 := [(4, _), (0, _), (1, _), (2, _), (3, _)]) C dX4_shiftWidths_1 (by decide) rfl ?_
  exact sg_T.to (tX4_shiftWidths_3 C E _ _ h hq0 hq1) [1, 2, 3, 4, 0] rfl
theorem ctX4_shiftWidths {ad : Nat → Nat} {V : sg_V} {N : Nat} (hi : sg_inj Yc ad) {a0_ : Nat} {a1_ : Nat} {x2_ : Int32} {x3_ : Int32} {M : sg_M} (hq0 : sg_K Yc a0_ 4) (hq1 : sg_K Yc a1_ 13) : ∀ res, fX4_shiftWidths N a0_ a1_ x2_ x3_ M = some res → sg_cV Yc ad V yX4_shiftWidths cX4_shiftWidths 5 0 [.ref (ad a0_), .ref (ad a1_), .int x2_, .int x3_] M res := fun res h => sg_bodyV (by decide) hi (Nat.le_of_ble_eq_true rfl) (fun X hX C E => by subst hX; exact tX4_shiftWidths C E _ _ _ _  _ hq0 hq1 h)
def fX4_keepAct (N : Nat) (a0_ : Nat) (x1_ : Int32) (x2_ : Int32) (x3_ : Int32) (M : sg_M) : Option (sg_M) :=
  if (20 : Int32) ≤ (M.1 a0_ 8) then (
  some M) else (
  if sg_ib (M.1 a0_ 8) (Yc.2.2.1 (Yc.2.2.2 a0_ 15)) = true then
  sg_m (sg_uI M (Yc.2.2.2 a0_ 15) ((M.1 a0_ 8)).toNatClampNeg x1_) (fun M1 : sg_M =>
  if sg_ib (M1.1 a0_ 8) (Yc.2.2.1 (Yc.2.2.2 a0_ 16)) = true then
  sg_m (sg_uI M1 (Yc.2.2.2 a0_ 16) ((M1.1 a0_ 8)).toNatClampNeg x2_) (fun M2 : sg_M =>
  if sg_ib (M2.1 a0_ 8) (Yc.2.2.1 (Yc.2.2.2 a0_ 17)) = true then
  sg_m (sg_uI M2 (Yc.2.2.2 a0_ 17) ((M2.1 a0_ 8)).toNatClampNeg x3_) (fun M3 : sg_M =>
  sg_m (sg_uI M3 a0_ 8 ((M3.1 a0_ 8) + (1 : Int32))) (fun M4 : sg_M =>
  some M4))
  else none)
  else none)
  else none)
set_option maxHeartbeats 4000000 in
set_option maxRecDepth 100000 in
theorem tX4_keepAct {ad : Nat → Nat} {X : sg_X} {N : Nat} {r : sg_M} (C : sg_C Yc ad X cX4_keepAct RX4 4 0) (E : sg_eV Yc ad X cX4_keepAct r) : ∀ (a0_ : Nat) (x1_ : Int32) (x2_ : Int32) (x3_ : Int32) (M : sg_M), sg_K Yc a0_ 4 → fX4_keepAct N a0_ x1_ x2_ x3_ M = some r → sg_T Yc ad X 4 0 [(0, .ref (ad a0_)), (1, .int x1_), (2, .int x2_), (3, .int x3_)] [] M := by
  intro a0_ x1_ x2_ x3_ M hq0 h
  unfold fX4_keepAct at h
  refine i_aload_n C dX4_keepAct_0 0 rfl ?_
  refine gf4_36 C hq0 dX4_keepAct_1 ?_
  refine s_bipush C (20 : Int32) dX4_keepAct_4 (by decide) ?_
  refine s_icmp_ge C 49 (by decide) dX4_keepAct_6 h (fun _ h => ?_) (fun _ h => ?_)
  · exact s_vret C E dX4_keepAct_49 h
  · refine i_aload_n C dX4_keepAct_9 0 rfl ?_
    refine gf4_58 C hq0 dX4_keepAct_10 ?_
    refine i_aload_n C dX4_keepAct_13 0 rfl ?_
    refine gf4_36 C hq0 dX4_keepAct_14 ?_
    refine i_iload_n C dX4_keepAct_17 1 rfl ?_
    refine s_iast C (ky4_15 hq0) dX4_keepAct_18 h (fun h => ?_)
    refine z_gM h (fun M1 h => ?_)
    refine i_aload_n C dX4_keepAct_19 0 rfl ?_
    refine gf4_61 C hq0 dX4_keepAct_20 ?_
    refine i_aload_n C dX4_keepAct_23 0 rfl ?_
    refine gf4_36 C hq0 dX4_keepAct_24 ?_
    refine i_iload_n C dX4_keepAct_27 2 rfl ?_
    refine s_iast C (ky4_16 hq0) dX4_keepAct_28 h (fun h => ?_)
    refine z_gM h (fun M2 h => ?_)
    refine i_aload_n C dX4_keepAct_29 0 rfl ?_
    refine gf4_64 C hq0 dX4_keepAct_30 ?_
    refine i_aload_n C dX4_keepAct_33 0 rfl ?_
    refine gf4_36 C hq0 dX4_keepAct_34 ?_
    refine i_iload_n C dX4_keepAct_37 3 rfl ?_
    refine s_iast C (ky4_17 hq0) dX4_keepAct_38 h (fun h => ?_)
    refine z_gM h (fun M3 h => ?_)
    refine i_aload_n C dX4_keepAct_39 0 rfl ?_
    refine s_dup C dX4_keepAct_40 rfl ?_
    refine gf4_36 C hq0 dX4_keepAct_41 ?_
    refine s_iconst C (1 : Int32) dX4_keepAct_44 (by decide) ?_
    refine s_iadd C dX4_keepAct_45 ?_
    refine pf4_36 C hq0 dX4_keepAct_46 ?_
    refine z_gM h (fun M4 h => ?_)
    exact s_vret C E dX4_keepAct_49 h
theorem ctX4_keepAct {ad : Nat → Nat} {V : sg_V} {N : Nat} (hi : sg_inj Yc ad) {a0_ : Nat} {x1_ : Int32} {x2_ : Int32} {x3_ : Int32} {M : sg_M} (hq0 : sg_K Yc a0_ 4) : ∀ res, fX4_keepAct N a0_ x1_ x2_ x3_ M = some res → sg_cV Yc ad V yX4_keepAct cX4_keepAct 4 0 [.ref (ad a0_), .int x1_, .int x2_, .int x3_] M res := fun res h => sg_bodyV (by decide) hi (Nat.le_of_ble_eq_true rfl) (fun X hX C E => by subst hX; exact tX4_keepAct C E _ _ _ _  _ hq0 h)
def gX4_takeBack_92 (N : Nat)  (a0_ : Nat) (x1_ : Int32) (M : sg_M) : Option (sg_M) :=
  if sg_ib (M.1 a0_ 8) (Yc.2.2.1 (Yc.2.2.2 a0_ 15)) = true then
  if (M.1 (Yc.2.2.2 a0_ 15) ((M.1 a0_ 8)).toNatClampNeg) = (1 : Int32) then (
  sg_m (sg_uI M a0_ 7 ((M.1 a0_ 7) ^^^ ((1 : Int32) <<< (x1_ &&& 31)))) (fun M1 : sg_M =>
  some M1)) else (
  if sg_ib (M.1 a0_ 8) (Yc.2.2.1 (Yc.2.2.2 a0_ 15)) = true then
  if (M.1 (Yc.2.2.2 a0_ 15) ((M.1 a0_ 8)).toNatClampNeg) = (2 : Int32) then (
  if (M.1 a0_ 5) ≤ x1_ then (
  some M) else (
  if sg_ib (M.1 a0_ 8) (Yc.2.2.1 (Yc.2.2.2 a0_ 17)) = true then
  if sg_ib x1_ (Yc.2.2.1 (Yc.2.2.2 a0_ 12)) = true then
  sg_m (sg_uI M (Yc.2.2.2 a0_ 12) (x1_).toNatClampNeg (M.1 (Yc.2.2.2 a0_ 17) ((M.1 a0_ 8)).toNatClampNeg)) (fun M2 : sg_M =>
  some M2)
  else none
  else none)) else (
  some M)
  else none)
  else none
set_option maxHeartbeats 4000000 in
set_option maxRecDepth 100000 in
theorem tX4_takeBack_92 {ad : Nat → Nat} {X : sg_X} {N : Nat} {r : sg_M} (C : sg_C Yc ad X cX4_takeBack RX4 2 1) (E : sg_eV Yc ad X cX4_takeBack r)  : ∀ (a0_ : Nat) (x1_ : Int32) (M : sg_M), gX4_takeBack_92 N a0_ x1_ M = some r → sg_K Yc a0_ 4 → sg_T Yc ad X 2 92 [(0, .ref (ad a0_)), (1, .int x1_)] [] M := by
  intro a0_ x1_ M h hq0
  unfold gX4_takeBack_92 at h
  refine i_aload_n C dX4_takeBack_92 0 rfl ?_
  refine gf4_58 C hq0 dX4_takeBack_93 ?_
  refine i_aload_n C dX4_takeBack_96 0 rfl ?_
  refine gf4_36 C hq0 dX4_takeBack_97 ?_
  refine s_iald C (ky4_15 hq0) dX4_takeBack_100 h (fun h => ?_)
  refine s_iconst C (1 : Int32) dX4_takeBack_101 (by decide) ?_
  refine s_icmp_ne C 120 (by decide) dX4_takeBack_102 h (fun _ h => ?_) (fun _ h => ?_)
  · refine i_aload_n C dX4_takeBack_105 0 rfl ?_
    refine s_dup C dX4_takeBack_106 rfl ?_
    refine gf4_33 C hq0 dX4_takeBack_107 ?_
    refine s_iconst C (1 : Int32) dX4_takeBack_110 (by decide) ?_
    refine i_iload_n C dX4_takeBack_111 1 rfl ?_
    refine s_ishl C dX4_takeBack_112 ?_
    refine s_ixor C dX4_takeBack_113 ?_
    refine pf4_33 C hq0 dX4_takeBack_114 ?_
    refine z_gM h (fun M1 h => ?_)
    refine s_goto C 156 (by decide) dX4_takeBack_117 ?_
    exact s_vret C E dX4_takeBack_156 h
  · refine i_aload_n C dX4_takeBack_120 0 rfl ?_
    refine gf4_58 C hq0 dX4_takeBack_121 ?_
    refine i_aload_n C dX4_takeBack_124 0 rfl ?_
    refine gf4_36 C hq0 dX4_takeBack_125 ?_
    refine s_iald C (ky4_15 hq0) dX4_takeBack_128 h (fun h => ?_)
    refine s_iconst C (2 : Int32) dX4_takeBack_129 (by decide) ?_
    refine s_icmp_ne C 156 (by decide) dX4_takeBack_130 h (fun _ h => ?_) (fun _ h => ?_)
    · refine i_iload_n C dX4_takeBack_133 1 rfl ?_
      refine i_aload_n C dX4_takeBack_134 0 rfl ?_
      refine gf4_27 C hq0 dX4_takeBack_135 ?_
      refine s_icmp_ge C 156 (by decide) dX4_takeBack_138 h (fun _ h => ?_) (fun _ h => ?_)
      · exact s_vret C E dX4_takeBack_156 h
      · refine i_aload_n C dX4_takeBack_141 0 rfl ?_
        refine gf4_49 C hq0 dX4_takeBack_142 ?_
        refine i_iload_n C dX4_takeBack_145 1 rfl ?_
        refine i_aload_n C dX4_takeBack_146 0 rfl ?_
        refine gf4_64 C hq0 dX4_takeBack_147 ?_
        refine i_aload_n C dX4_takeBack_150 0 rfl ?_
        refine gf4_36 C hq0 dX4_takeBack_151 ?_
        refine s_iald C (ky4_17 hq0) dX4_takeBack_154 h (fun h => ?_)
        refine s_iast C (ky4_12 hq0) dX4_takeBack_155 h (fun h => ?_)
        refine z_gM h (fun M2 h => ?_)
        exact s_vret C E dX4_takeBack_156 h
    · exact s_vret C E dX4_takeBack_156 h
def fX4_takeBack (N : Nat) (a0_ : Nat) (M : sg_M) : Option (sg_M) :=
  if (M.1 a0_ 8) = 0 then (
  some M) else (
  sg_m (sg_uI M a0_ 8 ((M.1 a0_ 8) - (1 : Int32))) (fun M3 : sg_M =>
  if sg_ib (M3.1 a0_ 8) (Yc.2.2.1 (Yc.2.2.2 a0_ 16)) = true then
  sg_m (M3.1 (Yc.2.2.2 a0_ 16) ((M3.1 a0_ 8)).toNatClampNeg) (fun x4 : Int32 =>
  if sg_ib (M3.1 a0_ 8) (Yc.2.2.1 (Yc.2.2.2 a0_ 15)) = true then
  if (M3.1 (Yc.2.2.2 a0_ 15) ((M3.1 a0_ 8)).toNatClampNeg) = (3 : Int32) then (
  sg_bv (fX4_shiftWidths N a0_ (Yc.2.2.2 a0_ 11) x4 (1 : Int32) M3) (fun M5 : sg_M =>
  some M5)) else (
  if sg_ib (M3.1 a0_ 8) (Yc.2.2.1 (Yc.2.2.2 a0_ 15)) = true then
  if (M3.1 (Yc.2.2.2 a0_ 15) ((M3.1 a0_ 8)).toNatClampNeg) = 0 then (
  if (M3.1 a0_ 6) ≤ x4 then (
  gX4_takeBack_92 N a0_ x4 M3) else (
  if sg_ib (M3.1 a0_ 8) (Yc.2.2.1 (Yc.2.2.2 a0_ 17)) = true then
  if sg_ib x4 (Yc.2.2.1 (Yc.2.2.2 a0_ 11)) = true then
  sg_m (sg_uI M3 (Yc.2.2.2 a0_ 11) (x4).toNatClampNeg (M3.1 (Yc.2.2.2 a0_ 17) ((M3.1 a0_ 8)).toNatClampNeg)) (fun M6 : sg_M =>
  some M6)
  else none
  else none)) else (
  gX4_takeBack_92 N a0_ x4 M3)
  else none)
  else none)
  else none))
set_option maxHeartbeats 4000000 in
set_option maxRecDepth 100000 in
theorem tX4_takeBack {ad : Nat → Nat} {X : sg_X} {N : Nat} {r : sg_M} (C : sg_C Yc ad X cX4_takeBack RX4 2 1) (E : sg_eV Yc ad X cX4_takeBack r) : ∀ (a0_ : Nat) (M : sg_M), sg_K Yc a0_ 4 → fX4_takeBack N a0_ M = some r → sg_T Yc ad X 2 0 [(0, .ref (ad a0_))] [] M := by
  intro a0_ M hq0 h
  unfold fX4_takeBack at h
  refine i_aload_n C dX4_takeBack_0 0 rfl ?_
  refine gf4_36 C hq0 dX4_takeBack_1 ?_
  refine s_if_ne C 8 (by decide) dX4_takeBack_4 h (fun _ h => ?_) (fun _ h => ?_)
  · exact s_vret C E dX4_takeBack_7 h
  · refine i_aload_n C dX4_takeBack_8 0 rfl ?_
    refine s_dup C dX4_takeBack_9 rfl ?_
    refine gf4_36 C hq0 dX4_takeBack_10 ?_
    refine s_iconst C (1 : Int32) dX4_takeBack_13 (by decide) ?_
    refine s_isub C dX4_takeBack_14 ?_
    refine pf4_36 C hq0 dX4_takeBack_15 ?_
    refine z_gM h (fun M3 h => ?_)
    refine i_aload_n C dX4_takeBack_18 0 rfl ?_
    refine gf4_61 C hq0 dX4_takeBack_19 ?_
    refine i_aload_n C dX4_takeBack_22 0 rfl ?_
    refine gf4_36 C hq0 dX4_takeBack_23 ?_
    refine s_iald C (ky4_16 hq0) dX4_takeBack_26 h (fun h => ?_)
    refine z_gi h (fun x4 h => ?_)
    refine i_istore_n (lv9 := [(1, _), (0, _)]) C 1 dX4_takeBack_27 rfl (by decide) rfl ?_
    refine i_aload_n C dX4_takeBack_28 1 rfl ?_
    refine gf4_58 C hq0 dX4_takeBack_29 ?_
    refine i_aload_n C dX4_takeBack_32 1 rfl ?_
    refine gf4_36 C hq0 dX4_takeBack_33 ?_
    refine s_iald C (ky4_15 hq0) dX4_takeBack_36 h (fun h => ?_)
    refine s_iconst C (3 : Int32) dX4_takeBack_37 (by decide) ?_
    refine s_icmp_ne C 54 (by decide) dX4_takeBack_38 h (fun _ h => ?_) (fun _ h => ?_)
    · refine i_aload_n C dX4_takeBack_41 1 rfl ?_
      refine i_aload_n C dX4_takeBack_42 1 rfl ?_
      refine gf4_46 C hq0 dX4_takeBack_43 ?_
      refine i_iload_n C dX4_takeBack_46 0 rfl ?_
      refine s_iconst C (1 : Int32) dX4_takeBack_47 (by decide) ?_
      refine s_vcV C [_, _, _] vmX4_shiftWidths lkX4_83 rfl rfl (by decide) hq0 (by decide) rfl rfl (Nat.le_of_ble_eq_true rfl) dX4_takeBack_48 (ctX4_shiftWidths C.inj hq0 (ky4_11 hq0)) h (fun M5 h => ?_)
      refine s_goto C 156 (by decide) dX4_takeBack_51 ?_
      exact s_vret C E dX4_takeBack_156 h
    · refine i_aload_n C dX4_takeBack_54 1 rfl ?_
      refine gf4_58 C hq0 dX4_takeBack_55 ?_
      refine i_aload_n C dX4_takeBack_58 1 rfl ?_
      refine gf4_36 C hq0 dX4_takeBack_59 ?_
      refine s_iald C (ky4_15 hq0) dX4_takeBack_62 h (fun h => ?_)
      refine s_if_ne C 92 (by decide) dX4_takeBack_63 h (fun _ h => ?_) (fun _ h => ?_)
      · refine i_iload_n C dX4_takeBack_66 0 rfl ?_
        refine i_aload_n C dX4_takeBack_67 1 rfl ?_
        refine gf4_30 C hq0 dX4_takeBack_68 ?_
        refine s_icmp_ge C 92 (by decide) dX4_takeBack_71 h (fun _ h => ?_) (fun _ h => ?_)
        · exact sg_T.to (tX4_takeBack_92 C E _ _ _ h hq0) [1, 0] rfl
        · refine i_aload_n C dX4_takeBack_74 1 rfl ?_
          refine gf4_46 C hq0 dX4_takeBack_75 ?_
          refine i_iload_n C dX4_takeBack_78 0 rfl ?_
          refine i_aload_n C dX4_takeBack_79 1 rfl ?_
          refine gf4_64 C hq0 dX4_takeBack_80 ?_
          refine i_aload_n C dX4_takeBack_83 1 rfl ?_
          refine gf4_36 C hq0 dX4_takeBack_84 ?_
          refine s_iald C (ky4_17 hq0) dX4_takeBack_87 h (fun h => ?_)
          refine s_iast C (ky4_11 hq0) dX4_takeBack_88 h (fun h => ?_)
          refine z_gM h (fun M6 h => ?_)
          refine s_goto C 156 (by decide) dX4_takeBack_89 ?_
          exact s_vret C E dX4_takeBack_156 h
      · exact sg_T.to (tX4_takeBack_92 C E _ _ _ h hq0) [1, 0] rfl
theorem ctX4_takeBack {ad : Nat → Nat} {V : sg_V} {N : Nat} (hi : sg_inj Yc ad) {a0_ : Nat} {M : sg_M} (hq0 : sg_K Yc a0_ 4) : ∀ res, fX4_takeBack N a0_ M = some res → sg_cV Yc ad V yX4_takeBack cX4_takeBack 2 1 [.ref (ad a0_)] M res := fun res h => sg_bodyV (by decide) hi (Nat.le_of_ble_eq_true rfl) (fun X hX C E => by subst hX; exact tX4_takeBack C E _  _ hq0 h)
def fJ6_bitCount_0f7a4 (N : Nat) (x0_ : Int32) (M : sg_M) : Option (Int32 × sg_M) :=
  sg_m (x0_ - (((x0_).toUInt32 >>> (((1 : Int32)).toUInt32 &&& Int32.toUInt32 31)).toInt32 &&& (1431655765 : Int32))) (fun x1 : Int32 =>
  sg_m ((x1 &&& (858993459 : Int32)) + (((x1).toUInt32 >>> (((2 : Int32)).toUInt32 &&& Int32.toUInt32 31)).toInt32 &&& (858993459 : Int32))) (fun x2 : Int32 =>
  sg_m ((x2 + ((x2).toUInt32 >>> (((4 : Int32)).toUInt32 &&& Int32.toUInt32 31)).toInt32) &&& (252645135 : Int32)) (fun x3 : Int32 =>
  sg_m (x3 + ((x3).toUInt32 >>> (((8 : Int32)).toUInt32 &&& Int32.toUInt32 31)).toInt32) (fun x4 : Int32 =>
  sg_m (x4 + ((x4).toUInt32 >>> (((16 : Int32)).toUInt32 &&& Int32.toUInt32 31)).toInt32) (fun x5 : Int32 =>
  some ((x5 &&& (63 : Int32)), M))))))
set_option maxHeartbeats 4000000 in
set_option maxRecDepth 100000 in
theorem tJ6_bitCount_0f7a4 {ad : Nat → Nat} {X : sg_X} {N : Nat} {r : Int32 × sg_M} (C : sg_C Yc ad X cJ6_bitCount_0f7a4 RJ6 1 0) (E : sg_eI Yc ad X cJ6_bitCount_0f7a4 .int r) : ∀ (x0_ : Int32) (M : sg_M), fJ6_bitCount_0f7a4 N x0_ M = some r → sg_T Yc ad X 1 0 [(0, .int x0_)] [] M := by
  intro x0_ M  h
  unfold fJ6_bitCount_0f7a4 at h
  refine i_iload_n C dJ6_bitCount_0f7a4_0 0 rfl ?_
  refine i_iload_n C dJ6_bitCount_0f7a4_1 0 rfl ?_
  refine s_iconst C (1 : Int32) dJ6_bitCount_0f7a4_2 (by decide) ?_
  refine s_iushr C dJ6_bitCount_0f7a4_3 ?_
  refine s_ldcw C (1431655765 : Int32) kc_J6_265 dJ6_bitCount_0f7a4_4 ?_
  refine s_iand C dJ6_bitCount_0f7a4_7 ?_
  refine s_isub C dJ6_bitCount_0f7a4_8 ?_
  refine z_gi h (fun x1 h => ?_)
  refine i_istore_n (lv9 := [(0, _)]) C 0 dJ6_bitCount_0f7a4_9 rfl (by decide) rfl ?_
  refine i_iload_n C dJ6_bitCount_0f7a4_10 0 rfl ?_
  refine s_ldcw C (858993459 : Int32) kc_J6_266 dJ6_bitCount_0f7a4_11 ?_
  refine s_iand C dJ6_bitCount_0f7a4_14 ?_
  refine i_iload_n C dJ6_bitCount_0f7a4_15 0 rfl ?_
  refine s_iconst C (2 : Int32) dJ6_bitCount_0f7a4_16 (by decide) ?_
  refine s_iushr C dJ6_bitCount_0f7a4_17 ?_
  refine s_ldcw C (858993459 : Int32) kc_J6_266 dJ6_bitCount_0f7a4_18 ?_
  refine s_iand C dJ6_bitCount_0f7a4_21 ?_
  refine s_iadd C dJ6_bitCount_0f7a4_22 ?_
  refine z_gi h (fun x2 h => ?_)
  refine i_istore_n (lv9 := [(0, _)]) C 0 dJ6_bitCount_0f7a4_23 rfl (by decide) rfl ?_
  refine i_iload_n C dJ6_bitCount_0f7a4_24 0 rfl ?_
  refine i_iload_n C dJ6_bitCount_0f7a4_25 0 rfl ?_
  refine s_iconst C (4 : Int32) dJ6_bitCount_0f7a4_26 (by decide) ?_
  refine s_iushr C dJ6_bitCount_0f7a4_27 ?_
  refine s_iadd C dJ6_bitCount_0f7a4_28 ?_
  refine s_ldcw C (252645135 : Int32) kc_J6_267 dJ6_bitCount_0f7a4_29 ?_
  refine s_iand C dJ6_bitCount_0f7a4_32 ?_
  refine z_gi h (fun x3 h => ?_)
  refine i_istore_n (lv9 := [(0, _)]) C 0 dJ6_bitCount_0f7a4_33 rfl (by decide) rfl ?_
  refine i_iload_n C dJ6_bitCount_0f7a4_34 0 rfl ?_
  refine i_iload_n C dJ6_bitCount_0f7a4_35 0 rfl ?_
  refine s_bipush C (8 : Int32) dJ6_bitCount_0f7a4_36 (by decide) ?_
  refine s_iushr C dJ6_bitCount_0f7a4_38 ?_
  refine s_iadd C dJ6_bitCount_0f7a4_39 ?_
  refine z_gi h (fun x4 h => ?_)
  refine i_istore_n (lv9 := [(0, _)]) C 0 dJ6_bitCount_0f7a4_40 rfl (by decide) rfl ?_
  refine i_iload_n C dJ6_bitCount_0f7a4_41 0 rfl ?_
  refine i_iload_n C dJ6_bitCount_0f7a4_42 0 rfl ?_
  refine s_bipush C (16 : Int32) dJ6_bitCount_0f7a4_43 (by decide) ?_
  refine s_iushr C dJ6_bitCount_0f7a4_45 ?_
  refine s_iadd C dJ6_bitCount_0f7a4_46 ?_
  refine z_gi h (fun x5 h => ?_)
  refine i_istore_n (lv9 := [(0, _)]) C 0 dJ6_bitCount_0f7a4_47 rfl (by decide) rfl ?_
  refine i_iload_n C dJ6_bitCount_0f7a4_48 0 rfl ?_
  refine s_bipush C (63 : Int32) dJ6_bitCount_0f7a4_49 (by decide) ?_
  refine s_iand C dJ6_bitCount_0f7a4_51 ?_
  exact s_iret C E dJ6_bitCount_0f7a4_52 h
theorem ctJ6_bitCount_0f7a4 {ad : Nat → Nat} {V : sg_V} {N : Nat} (hi : sg_inj Yc ad) {x0_ : Int32} {M : sg_M}  : ∀ res, fJ6_bitCount_0f7a4 N x0_ M = some res → sg_cI Yc ad V yJ6_bitCount_0f7a4 cJ6_bitCount_0f7a4 1 .int 0 [.int x0_] M res := fun res h => sg_bodyI (by decide) hi (Nat.le_of_ble_eq_true rfl) (fun X hX C E => by subst hX; exact tJ6_bitCount_0f7a4 C E _  _ h)
