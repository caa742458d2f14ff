/-! the constructors -/
def kl7 : List Nat := [7]
def ll7 : List Nat := [0]
set_option maxRecDepth 100000 in
theorem ini7 (V : sg_V) : cn_ct V yX7_init cX7_init 1 7 1 0 0 kl7 ll7 := by
  refine cn_body (by decide) (by decide) rfl (fun X h0 hV C E => ?_)
  rw [show dfl 7 = [.int 0, .long 0, .long 0] by decide +kernel]
  refine k_al0 (pc := 0) C 0 rfl dX7_init_0 ?_
  refine k_oin (pc := 1) C (sg_w 217 (by decide +kernel) rfl) (Nat.le_of_ble_eq_true rfl) dX7_init_1 ?_
  refine k_al0 (pc := 4) C 0 rfl dX7_init_4 ?_
  refine k_ic (pc := 5) C (v := 0) dX7_init_5 (by decide +kernel) ?_
  refine k_put (pc := 6) C jnX7 rfl 0 (Nat.le_of_ble_eq_true rfl) (sg_w 218 (by decide +kernel) rfl) tyX7 tyX7_ok nmX7 rfl (ty := .int) (by decide +kernel) rfl rfl (fs' := [.int 0, .long 0, .long 0]) rfl (Nat.le_of_ble_eq_true rfl) dX7_init_6 ?_
  refine k_al0 (pc := 9) C 0 rfl dX7_init_9 ?_
  refine k_lc (pc := 10) C (v := 0) dX7_init_10 (by decide +kernel) ?_
  refine k_put (pc := 11) C jnX7 rfl 1 (Nat.le_of_ble_eq_true rfl) (sg_w 220 (by decide +kernel) rfl) tyX7 tyX7_ok nmX7 rfl (ty := .long) (by decide +kernel) rfl rfl (fs' := [.int 0, .long 0, .long 0]) rfl (Nat.le_of_ble_eq_true rfl) dX7_init_11 ?_
  refine k_al0 (pc := 14) C 0 rfl dX7_init_14 ?_
  refine k_lc (pc := 15) C (v := 1) dX7_init_15 (by decide +kernel) ?_
  refine k_put (pc := 16) C jnX7 rfl 2 (Nat.le_of_ble_eq_true rfl) (sg_w 224 (by decide +kernel) rfl) tyX7 tyX7_ok nmX7 rfl (ty := .long) (by decide +kernel) rfl rfl (fs' := [.int 0, .long 0, .long 1]) rfl (Nat.le_of_ble_eq_true rfl) dX7_init_16 ?_
  exact k_ret (pc := 19) C E (sh := []) rfl (by decide +kernel) rfl (by decide) (by decide +kernel) rfl dX7_init_19
def kl4 : List Nat := [4, 13, 13, 13, 13, 13, 13, 13, 13, 13]
def ll4 : List Nat := [0, 12, 12, 12, 9, 9, 4, 20, 20, 20]
set_option maxRecDepth 100000 in
theorem ini4 (V : sg_V) : cn_ct V yX4_init cX4_init 1 4 1 9 118 kl4 ll4 := by
  refine cn_body (by decide) (by decide) rfl (fun X h0 hV C E => ?_)
  rw [show dfl 4 = [.int 0, .int 0, .int 0, .int 0, .int 0, .int 0, .int 0, .int 0, .int 0, .null, .null, .null, .null, .null, .null, .null, .null, .null] by decide +kernel]
  refine k_al0 (pc := 0) C 0 rfl dX4_init_0 ?_
  refine k_oin (pc := 1) C (sg_w 40 (by decide +kernel) rfl) (Nat.le_of_ble_eq_true rfl) dX4_init_1 ?_
  refine k_al0 (pc := 4) C 0 rfl dX4_init_4 ?_
  refine k_ic (pc := 5) C (v := 0) dX4_init_5 (by decide +kernel) ?_
  refine k_put (pc := 6) C jnX4 rfl 0 (Nat.le_of_ble_eq_true rfl) (sg_w 41 (by decide +kernel) rfl) tyX4 tyX4_ok nmX4 rfl (ty := .int) (by decide +kernel) rfl rfl (fs' := [.int 0, .int 0, .int 0, .int 0, .int 0, .int 0, .int 0, .int 0, .int 0, .null, .null, .null, .null, .null, .null, .null, .null, .null]) rfl (Nat.le_of_ble_eq_true rfl) dX4_init_6 ?_
  refine k_al0 (pc := 9) C 0 rfl dX4_init_9 ?_
  refine k_ic (pc := 10) C (v := 0) dX4_init_10 (by decide +kernel) ?_
  refine k_put (pc := 11) C jnX4 rfl 1 (Nat.le_of_ble_eq_true rfl) (sg_w 44 (by decide +kernel) rfl) tyX4 tyX4_ok nmX4 rfl (ty := .int) (by decide +kernel) rfl rfl (fs' := [.int 0, .int 0, .int 0, .int 0, .int 0, .int 0, .int 0, .int 0, .int 0, .null, .null, .null, .null, .null, .null, .null, .null, .null]) rfl (Nat.le_of_ble_eq_true rfl) dX4_init_11 ?_
  refine k_al0 (pc := 14) C 0 rfl dX4_init_14 ?_
  refine k_ic (pc := 15) C (v := 0) dX4_init_15 (by decide +kernel) ?_
  refine k_put (pc := 16) C jnX4 rfl 2 (Nat.le_of_ble_eq_true rfl) (sg_w 47 (by decide +kernel) rfl) tyX4 tyX4_ok nmX4 rfl (ty := .int) (by decide +kernel) rfl rfl (fs' := [.int 0, .int 0, .int 0, .int 0, .int 0, .int 0, .int 0, .int 0, .int 0, .null, .null, .null, .null, .null, .null, .null, .null, .null]) rfl (Nat.le_of_ble_eq_true rfl) dX4_init_16 ?_
  refine k_al0 (pc := 19) C 0 rfl dX4_init_19 ?_
  refine k_ic (pc := 20) C (v := 0) dX4_init_20 (by decide +kernel) ?_
  refine k_put (pc := 21) C jnX4 rfl 3 (Nat.le_of_ble_eq_true rfl) (sg_w 54 (by decide +kernel) rfl) tyX4 tyX4_ok nmX4 rfl (ty := .int) (by decide +kernel) rfl rfl (fs' := [.int 0, .int 0, .int 0, .int 0, .int 0, .int 0, .int 0, .int 0, .int 0, .null, .null, .null, .null, .null, .null, .null, .null, .null]) rfl (Nat.le_of_ble_eq_true rfl) dX4_init_21 ?_
  refine k_al0 (pc := 24) C 0 rfl dX4_init_24 ?_
  refine k_ic (pc := 25) C (v := 0) dX4_init_25 (by decide +kernel) ?_
  refine k_put (pc := 26) C jnX4 rfl 4 (Nat.le_of_ble_eq_true rfl) (sg_w 58 (by decide +kernel) rfl) tyX4 tyX4_ok nmX4 rfl (ty := .int) (by decide +kernel) rfl rfl (fs' := [.int 0, .int 0, .int 0, .int 0, .int 0, .int 0, .int 0, .int 0, .int 0, .null, .null, .null, .null, .null, .null, .null, .null, .null]) rfl (Nat.le_of_ble_eq_true rfl) dX4_init_26 ?_
  refine k_al0 (pc := 29) C 0 rfl dX4_init_29 ?_
  refine k_ic (pc := 30) C (v := 0) dX4_init_30 (by decide +kernel) ?_
  refine k_put (pc := 31) C jnX4 rfl 5 (Nat.le_of_ble_eq_true rfl) (sg_w 61 (by decide +kernel) rfl) tyX4 tyX4_ok nmX4 rfl (ty := .int) (by decide +kernel) rfl rfl (fs' := [.int 0, .int 0, .int 0, .int 0, .int 0, .int 0, .int 0, .int 0, .int 0, .null, .null, .null, .null, .null, .null, .null, .null, .null]) rfl (Nat.le_of_ble_eq_true rfl) dX4_init_31 ?_
  refine k_al0 (pc := 34) C 0 rfl dX4_init_34 ?_
  refine k_ic (pc := 35) C (v := 0) dX4_init_35 (by decide +kernel) ?_
  refine k_put (pc := 36) C jnX4 rfl 6 (Nat.le_of_ble_eq_true rfl) (sg_w 67 (by decide +kernel) rfl) tyX4 tyX4_ok nmX4 rfl (ty := .int) (by decide +kernel) rfl rfl (fs' := [.int 0, .int 0, .int 0, .int 0, .int 0, .int 0, .int 0, .int 0, .int 0, .null, .null, .null, .null, .null, .null, .null, .null, .null]) rfl (Nat.le_of_ble_eq_true rfl) dX4_init_36 ?_
  refine k_al0 (pc := 39) C 0 rfl dX4_init_39 ?_
  refine k_ic (pc := 40) C (v := 0) dX4_init_40 (by decide +kernel) ?_
  refine k_put (pc := 41) C jnX4 rfl 7 (Nat.le_of_ble_eq_true rfl) (sg_w 72 (by decide +kernel) rfl) tyX4 tyX4_ok nmX4 rfl (ty := .int) (by decide +kernel) rfl rfl (fs' := [.int 0, .int 0, .int 0, .int 0, .int 0, .int 0, .int 0, .int 0, .int 0, .null, .null, .null, .null, .null, .null, .null, .null, .null]) rfl (Nat.le_of_ble_eq_true rfl) dX4_init_41 ?_
  refine k_al0 (pc := 44) C 0 rfl dX4_init_44 ?_
  refine k_ic (pc := 45) C (v := 0) dX4_init_45 (by decide +kernel) ?_
  refine k_put (pc := 46) C jnX4 rfl 8 (Nat.le_of_ble_eq_true rfl) (sg_w 81 (by decide +kernel) rfl) tyX4 tyX4_ok nmX4 rfl (ty := .int) (by decide +kernel) rfl rfl (fs' := [.int 0, .int 0, .int 0, .int 0, .int 0, .int 0, .int 0, .int 0, .int 0, .null, .null, .null, .null, .null, .null, .null, .null, .null]) rfl (Nat.le_of_ble_eq_true rfl) dX4_init_46 ?_
  refine k_al0 (pc := 49) C 0 rfl dX4_init_49 ?_
  refine k_bi (pc := 50) C (v := 12) dX4_init_50 (by decide +kernel) ?_
  refine k_nI (pc := 52) C (N' := 12) (by decide +kernel) (by decide +kernel) (Nat.le_of_ble_eq_true rfl) (k' := 1) (n' := 12) rfl rfl (Nat.le_of_ble_eq_true rfl) (Nat.le_of_ble_eq_true rfl) (flt_app _) dX4_init_52 (fun q32 => ?_)
  refine k_putF (pc := 54) C jnX4 rfl 9 (Nat.le_of_ble_eq_true rfl) (sg_w 83 (by decide +kernel) rfl) tyX4 tyX4_ok nmX4 rfl rfl (ty := (.array .int)) (by decide +kernel) rfl rfl (fs' := [.int 0, .int 0, .int 0, .int 0, .int 0, .int 0, .int 0, .int 0, .int 0, .ref q32, .null, .null, .null, .null, .null, .null, .null, .null]) rfl (Nat.le_of_ble_eq_true rfl) dX4_init_54 ?_
  refine k_al0 (pc := 57) C 0 rfl dX4_init_57 ?_
  refine k_bi (pc := 58) C (v := 12) dX4_init_58 (by decide +kernel) ?_
  refine k_nI (pc := 60) C (N' := 12) (by decide +kernel) (by decide +kernel) (Nat.le_of_ble_eq_true rfl) (k' := 2) (n' := 24) rfl rfl (Nat.le_of_ble_eq_true rfl) (Nat.le_of_ble_eq_true rfl) (flt_app _) dX4_init_60 (fun q36 => ?_)
  refine k_putF (pc := 62) C jnX4 rfl 10 (Nat.le_of_ble_eq_true rfl) (sg_w 86 (by decide +kernel) rfl) tyX4 tyX4_ok nmX4 rfl rfl (ty := (.array .int)) (by decide +kernel) rfl rfl (fs' := [.int 0, .int 0, .int 0, .int 0, .int 0, .int 0, .int 0, .int 0, .int 0, .ref q32, .ref q36, .null, .null, .null, .null, .null, .null, .null]) rfl (Nat.le_of_ble_eq_true rfl) dX4_init_62 ?_
  refine k_al0 (pc := 65) C 0 rfl dX4_init_65 ?_
  refine k_bi (pc := 66) C (v := 12) dX4_init_66 (by decide +kernel) ?_
  refine k_nI (pc := 68) C (N' := 12) (by decide +kernel) (by decide +kernel) (Nat.le_of_ble_eq_true rfl) (k' := 3) (n' := 36) rfl rfl (Nat.le_of_ble_eq_true rfl) (Nat.le_of_ble_eq_true rfl) (flt_app _) dX4_init_68 (fun q40 => ?_)
  refine k_putF (pc := 70) C jnX4 rfl 11 (Nat.le_of_ble_eq_true rfl) (sg_w 89 (by decide +kernel) rfl) tyX4 tyX4_ok nmX4 rfl rfl (ty := (.array .int)) (by decide +kernel) rfl rfl (fs' := [.int 0, .int 0, .int 0, .int 0, .int 0, .int 0, .int 0, .int 0, .int 0, .ref q32, .ref q36, .ref q40, .null, .null, .null, .null, .null, .null]) rfl (Nat.le_of_ble_eq_true rfl) dX4_init_70 ?_
  refine k_al0 (pc := 73) C 0 rfl dX4_init_73 ?_
  refine k_bi (pc := 74) C (v := 9) dX4_init_74 (by decide +kernel) ?_
  refine k_nI (pc := 76) C (N' := 9) (by decide +kernel) (by decide +kernel) (Nat.le_of_ble_eq_true rfl) (k' := 4) (n' := 45) rfl rfl (Nat.le_of_ble_eq_true rfl) (Nat.le_of_ble_eq_true rfl) (flt_app _) dX4_init_76 (fun q44 => ?_)
  refine k_putF (pc := 78) C jnX4 rfl 12 (Nat.le_of_ble_eq_true rfl) (sg_w 98 (by decide +kernel) rfl) tyX4 tyX4_ok nmX4 rfl rfl (ty := (.array .int)) (by decide +kernel) rfl rfl (fs' := [.int 0, .int 0, .int 0, .int 0, .int 0, .int 0, .int 0, .int 0, .int 0, .ref q32, .ref q36, .ref q40, .ref q44, .null, .null, .null, .null, .null]) rfl (Nat.le_of_ble_eq_true rfl) dX4_init_78 ?_
  refine k_al0 (pc := 81) C 0 rfl dX4_init_81 ?_
  refine k_bi (pc := 82) C (v := 9) dX4_init_82 (by decide +kernel) ?_
  refine k_nI (pc := 84) C (N' := 9) (by decide +kernel) (by decide +kernel) (Nat.le_of_ble_eq_true rfl) (k' := 5) (n' := 54) rfl rfl (Nat.le_of_ble_eq_true rfl) (Nat.le_of_ble_eq_true rfl) (flt_app _) dX4_init_84 (fun q48 => ?_)
  refine k_putF (pc := 86) C jnX4 rfl 13 (Nat.le_of_ble_eq_true rfl) (sg_w 108 (by decide +kernel) rfl) tyX4 tyX4_ok nmX4 rfl rfl (ty := (.array .int)) (by decide +kernel) rfl rfl (fs' := [.int 0, .int 0, .int 0, .int 0, .int 0, .int 0, .int 0, .int 0, .int 0, .ref q32, .ref q36, .ref q40, .ref q44, .ref q48, .null, .null, .null, .null]) rfl (Nat.le_of_ble_eq_true rfl) dX4_init_86 ?_
  refine k_al0 (pc := 89) C 0 rfl dX4_init_89 ?_
  refine k_ic (pc := 90) C (v := 4) dX4_init_90 (by decide +kernel) ?_
  refine k_nI (pc := 91) C (N' := 4) (by decide +kernel) (by decide +kernel) (Nat.le_of_ble_eq_true rfl) (k' := 6) (n' := 58) rfl rfl (Nat.le_of_ble_eq_true rfl) (Nat.le_of_ble_eq_true rfl) (flt_app _) dX4_init_91 (fun q52 => ?_)
  refine k_putF (pc := 93) C jnX4 rfl 14 (Nat.le_of_ble_eq_true rfl) (sg_w 112 (by decide +kernel) rfl) tyX4 tyX4_ok nmX4 rfl rfl (ty := (.array .int)) (by decide +kernel) rfl rfl (fs' := [.int 0, .int 0, .int 0, .int 0, .int 0, .int 0, .int 0, .int 0, .int 0, .ref q32, .ref q36, .ref q40, .ref q44, .ref q48, .ref q52, .null, .null, .null]) rfl (Nat.le_of_ble_eq_true rfl) dX4_init_93 ?_
  refine k_al0 (pc := 96) C 0 rfl dX4_init_96 ?_
  refine k_bi (pc := 97) C (v := 20) dX4_init_97 (by decide +kernel) ?_
  refine k_nI (pc := 99) C (N' := 20) (by decide +kernel) (by decide +kernel) (Nat.le_of_ble_eq_true rfl) (k' := 7) (n' := 78) rfl rfl (Nat.le_of_ble_eq_true rfl) (Nat.le_of_ble_eq_true rfl) (flt_app _) dX4_init_99 (fun q56 => ?_)
  refine k_putF (pc := 101) C jnX4 rfl 15 (Nat.le_of_ble_eq_true rfl) (sg_w 116 (by decide +kernel) rfl) tyX4 tyX4_ok nmX4 rfl rfl (ty := (.array .int)) (by decide +kernel) rfl rfl (fs' := [.int 0, .int 0, .int 0, .int 0, .int 0, .int 0, .int 0, .int 0, .int 0, .ref q32, .ref q36, .ref q40, .ref q44, .ref q48, .ref q52, .ref q56, .null, .null]) rfl (Nat.le_of_ble_eq_true rfl) dX4_init_101 ?_
  refine k_al0 (pc := 104) C 0 rfl dX4_init_104 ?_
  refine k_bi (pc := 105) C (v := 20) dX4_init_105 (by decide +kernel) ?_
  refine k_nI (pc := 107) C (N' := 20) (by decide +kernel) (by decide +kernel) (Nat.le_of_ble_eq_true rfl) (k' := 8) (n' := 98) rfl rfl (Nat.le_of_ble_eq_true rfl) (Nat.le_of_ble_eq_true rfl) (flt_app _) dX4_init_107 (fun q60 => ?_)
  refine k_putF (pc := 109) C jnX4 rfl 16 (Nat.le_of_ble_eq_true rfl) (sg_w 118 (by decide +kernel) rfl) tyX4 tyX4_ok nmX4 rfl rfl (ty := (.array .int)) (by decide +kernel) rfl rfl (fs' := [.int 0, .int 0, .int 0, .int 0, .int 0, .int 0, .int 0, .int 0, .int 0, .ref q32, .ref q36, .ref q40, .ref q44, .ref q48, .ref q52, .ref q56, .ref q60, .null]) rfl (Nat.le_of_ble_eq_true rfl) dX4_init_109 ?_
  refine k_al0 (pc := 112) C 0 rfl dX4_init_112 ?_
  refine k_bi (pc := 113) C (v := 20) dX4_init_113 (by decide +kernel) ?_
  refine k_nI (pc := 115) C (N' := 20) (by decide +kernel) (by decide +kernel) (Nat.le_of_ble_eq_true rfl) (k' := 9) (n' := 118) rfl rfl (Nat.le_of_ble_eq_true rfl) (Nat.le_of_ble_eq_true rfl) (flt_app _) dX4_init_115 (fun q64 => ?_)
  refine k_putF (pc := 117) C jnX4 rfl 17 (Nat.le_of_ble_eq_true rfl) (sg_w 119 (by decide +kernel) rfl) tyX4 tyX4_ok nmX4 rfl rfl (ty := (.array .int)) (by decide +kernel) rfl rfl (fs' := [.int 0, .int 0, .int 0, .int 0, .int 0, .int 0, .int 0, .int 0, .int 0, .ref q32, .ref q36, .ref q40, .ref q44, .ref q48, .ref q52, .ref q56, .ref q60, .ref q64]) rfl (Nat.le_of_ble_eq_true rfl) dX4_init_117 ?_
  exact k_ret (pc := 120) C E (sh := [([13], [12]), ([13], [12]), ([13], [12]), ([13], [9]), ([13], [9]), ([13], [4]), ([13], [20]), ([13], [20]), ([13], [20])]) rfl (by decide +kernel) rfl (by decide) (by decide +kernel) rfl dX4_init_120
def kl1 : List Nat := [1, 14, 7, 13, 13, 19, 14, 14, 14, 14, 14, 14, 14, 14, 14, 13]
def ll1 : List Nat := [0, 9, 0, 9, 9, 9, 10, 10, 10, 10, 10, 10, 10, 10, 10, 9]
def muJ_k : List Nat := [19, 14, 14, 14, 14, 14, 14, 14, 14, 14]
def muJ_l : List Nat := [9, 10, 10, 10, 10, 10, 10, 10, 10, 10]
theorem muJ_e (cy : Nat → ClassId) (u : Nat → Nat) (j : Nat) (hj : j < 9) : sg_E (mkY muJ_k muJ_l) u cy (M0 muJ_k) (1 + j) = .inl (cy 14, 10, .inr (.inl fun _ => 0)) := by
  have h : ∀ j, j < 9 → muJ_k.getD (1 + j) 99 = 14 ∧ muJ_l.getD (1 + j) 0 = 10 := by decide +kernel
  rw [sg_EJ (show (mkY muJ_k muJ_l).2.1 (1 + j) = 14 from (h j hj).1)]
  have e1 : (M0 muJ_k).2 (1 + j) = fun _ => 0 := by
    funext k
    show vL (muJ_k.getD (1 + j) 99) k = 0
    rw [(h j hj).1]
    rfl
  have e2 : (mkY muJ_k muJ_l).2.2.1 (1 + j) = 10 := (h j hj).2
  rw [e1, e2]
set_option maxRecDepth 100000 in
theorem ini1 (V : sg_V) : cn_ct V yX1_init cX1_init 1 1 2 15 138 kl1 ll1 := by
  refine cn_body (by decide) (by decide) rfl (fun X h0 hV C E => ?_)
  rw [show dfl 1 = [.int 0, .long 0, .null, .null, .int 0, .null, .null, .null, .null] by decide +kernel]
  refine k_al0 (pc := 0) C 0 rfl dX1_init_0 ?_
  refine k_oin (pc := 1) C (sg_w 211 (by decide +kernel) rfl) (Nat.le_of_ble_eq_true rfl) dX1_init_1 ?_
  refine k_al0 (pc := 4) C 0 rfl dX1_init_4 ?_
  refine k_ic (pc := 5) C (v := 0) dX1_init_5 (by decide +kernel) ?_
  refine k_put (pc := 6) C jnX1 rfl 0 (Nat.le_of_ble_eq_true rfl) (sg_w 239 (by decide +kernel) rfl) tyX1 tyX1_ok nmX1 rfl (ty := .int) (by decide +kernel) rfl rfl (fs' := [.int 0, .long 0, .null, .null, .int 0, .null, .null, .null, .null]) rfl (Nat.le_of_ble_eq_true rfl) dX1_init_6 ?_
  refine k_al0 (pc := 9) C 0 rfl dX1_init_9 ?_
  refine k_lc (pc := 10) C (v := 1) dX1_init_10 (by decide +kernel) ?_
  refine k_put (pc := 11) C jnX1 rfl 1 (Nat.le_of_ble_eq_true rfl) (sg_w 242 (by decide +kernel) rfl) tyX1 tyX1_ok nmX1 rfl (ty := .long) (by decide +kernel) rfl rfl (fs' := [.int 0, .long 1, .null, .null, .int 0, .null, .null, .null, .null]) rfl (Nat.le_of_ble_eq_true rfl) dX1_init_11 ?_
  refine k_al0 (pc := 14) C 0 rfl dX1_init_14 ?_
  refine k_bi (pc := 15) C (v := 9) dX1_init_15 (by decide +kernel) ?_
  refine k_nJ (pc := 17) C (N' := 9) (by decide +kernel) (by decide +kernel) (Nat.le_of_ble_eq_true rfl) (k' := 1) (n' := 9) rfl rfl (Nat.le_of_ble_eq_true rfl) (Nat.le_of_ble_eq_true rfl) (flt_app _) dX1_init_17 (fun q11 => ?_)
  refine k_putF (pc := 19) C jnX1 rfl 2 (Nat.le_of_ble_eq_true rfl) (sg_w 245 (by decide +kernel) rfl) tyX1 tyX1_ok nmX1 rfl rfl (ty := (.array .long)) (by decide +kernel) rfl rfl (fs' := [.int 0, .long 1, .ref q11, .null, .int 0, .null, .null, .null, .null]) rfl (Nat.le_of_ble_eq_true rfl) dX1_init_19 ?_
  refine k_al0 (pc := 22) C 0 rfl dX1_init_22 ?_
  refine k_obj3 (pc := 23) C (ini7 X.1) jnX7 tyX7 tyX7_ok (sg_w 212 (by decide +kernel) rfl) (sg_w 213 (by decide +kernel) rfl) (sg_w 5 (by decide +kernel) rfl) rfl (by decide +kernel) rfl (List.mem_of_getElem? (i := 4) rfl) (sg_w 216 (by decide +kernel) rfl) (sg_w 215 (by decide +kernel) rfl) rfl ⟨by decide, by decide, by decide +kernel⟩ (Nat.le_of_ble_eq_true rfl) (Nat.le_of_ble_eq_true rfl) (k' := 2) (n' := 12) rfl rfl (Nat.le_of_ble_eq_true rfl) (Nat.le_of_ble_eq_true rfl) (Nat.le_of_ble_eq_true rfl) (flt_app _) dX1_init_23 dX1_init_26 dX1_init_27 (fun u14 => ?_)
  refine k_putF (pc := 30) C jnX1 rfl 3 (Nat.le_of_ble_eq_true rfl) (sg_w 248 (by decide +kernel) rfl) tyX1 tyX1_ok nmX1 rfl rfl (ty := (.object "SupplyGrid$Score")) (by decide +kernel) rfl rfl (fs' := [.int 0, .long 1, .ref q11, .ref (u14 0), .int 0, .null, .null, .null, .null]) rfl (Nat.le_of_ble_eq_true rfl) dX1_init_30 ?_
  refine k_al0 (pc := 33) C 0 rfl dX1_init_33 ?_
  refine k_ic (pc := 34) C (v := 0) dX1_init_34 (by decide +kernel) ?_
  refine k_put (pc := 35) C jnX1 rfl 4 (Nat.le_of_ble_eq_true rfl) (sg_w 255 (by decide +kernel) rfl) tyX1 tyX1_ok nmX1 rfl (ty := .int) (by decide +kernel) rfl rfl (fs' := [.int 0, .long 1, .ref q11, .ref (u14 0), .int 0, .null, .null, .null, .null]) rfl (Nat.le_of_ble_eq_true rfl) dX1_init_35 ?_
  refine k_al0 (pc := 38) C 0 rfl dX1_init_38 ?_
  refine k_bi (pc := 39) C (v := 9) dX1_init_39 (by decide +kernel) ?_
  refine k_nI (pc := 41) C (N' := 9) (by decide +kernel) (by decide +kernel) (Nat.le_of_ble_eq_true rfl) (k' := 3) (n' := 21) rfl rfl (Nat.le_of_ble_eq_true rfl) (Nat.le_of_ble_eq_true rfl) (flt_app _) dX1_init_41 (fun q21 => ?_)
  refine k_putF (pc := 43) C jnX1 rfl 5 (Nat.le_of_ble_eq_true rfl) (sg_w 256 (by decide +kernel) rfl) tyX1 tyX1_ok nmX1 rfl rfl (ty := (.array .int)) (by decide +kernel) rfl rfl (fs' := [.int 0, .long 1, .ref q11, .ref (u14 0), .int 0, .ref q21, .null, .null, .null]) rfl (Nat.le_of_ble_eq_true rfl) dX1_init_43 ?_
  refine k_al0 (pc := 46) C 0 rfl dX1_init_46 ?_
  refine k_bi (pc := 47) C (v := 9) dX1_init_47 (by decide +kernel) ?_
  refine k_nI (pc := 49) C (N' := 9) (by decide +kernel) (by decide +kernel) (Nat.le_of_ble_eq_true rfl) (k' := 4) (n' := 30) rfl rfl (Nat.le_of_ble_eq_true rfl) (Nat.le_of_ble_eq_true rfl) (flt_app _) dX1_init_49 (fun q25 => ?_)
  refine k_putF (pc := 51) C jnX1 rfl 6 (Nat.le_of_ble_eq_true rfl) (sg_w 257 (by decide +kernel) rfl) tyX1 tyX1_ok nmX1 rfl rfl (ty := (.array .int)) (by decide +kernel) rfl rfl (fs' := [.int 0, .long 1, .ref q11, .ref (u14 0), .int 0, .ref q21, .ref q25, .null, .null]) rfl (Nat.le_of_ble_eq_true rfl) dX1_init_51 ?_
  refine k_al0 (pc := 54) C 0 rfl dX1_init_54 ?_
  refine k_bi (pc := 55) C (v := 9) dX1_init_55 (by decide +kernel) ?_
  refine k_bi (pc := 57) C (v := 10) dX1_init_57 (by decide +kernel) ?_
  refine k_mul (pc := 59) C (i0 := 7) (i1 := 2) (t := 19) (ti := 14) (N' := 9) (K' := 10) (ty := .long) (ks := muJ_k) (ls1 := muJ_l) (a0 := .inr (.inl fun _ => 0)) (sg_w 237 (by decide +kernel) rfl) (List.mem_of_getElem? (i := 3) rfl) (sg_w 236 (by decide +kernel) rfl) (fun _ => rfl) (fun _ => rfl) (fun _ _ h => h) (by decide +kernel) rfl (by decide) rfl (by decide +kernel) muJ_e (fun _ => rfl) (by decide +kernel) (by decide +kernel) (by decide +kernel) (by decide +kernel) (Nat.le_of_ble_eq_true rfl) (Nat.le_of_ble_eq_true rfl) (Nat.le_of_ble_eq_true rfl) rfl rfl (k' := 14) (n' := 129) rfl rfl (Nat.le_of_ble_eq_true rfl) (Nat.le_of_ble_eq_true rfl) (flt_app _) dX1_init_59 (fun u30 => ?_)
  refine k_putF (pc := 63) C jnX1 rfl 7 (Nat.le_of_ble_eq_true rfl) (sg_w 258 (by decide +kernel) rfl) tyX1 tyX1_ok nmX1 rfl rfl (ty := (.array (.array .long))) (by decide +kernel) rfl rfl (fs' := [.int 0, .long 1, .ref q11, .ref (u14 0), .int 0, .ref q21, .ref q25, .ref (u30 0), .null]) rfl (Nat.le_of_ble_eq_true rfl) dX1_init_63 ?_
  refine k_al0 (pc := 66) C 0 rfl dX1_init_66 ?_
  refine k_bi (pc := 67) C (v := 9) dX1_init_67 (by decide +kernel) ?_
  refine k_nI (pc := 69) C (N' := 9) (by decide +kernel) (by decide +kernel) (Nat.le_of_ble_eq_true rfl) (k' := 15) (n' := 138) rfl rfl (Nat.le_of_ble_eq_true rfl) (Nat.le_of_ble_eq_true rfl) (flt_app _) dX1_init_69 (fun q34 => ?_)
  refine k_putF (pc := 71) C jnX1 rfl 8 (Nat.le_of_ble_eq_true rfl) (sg_w 259 (by decide +kernel) rfl) tyX1 tyX1_ok nmX1 rfl rfl (ty := (.array .int)) (by decide +kernel) rfl rfl (fs' := [.int 0, .long 1, .ref q11, .ref (u14 0), .int 0, .ref q21, .ref q25, .ref (u30 0), .ref q34]) rfl (Nat.le_of_ble_eq_true rfl) dX1_init_71 ?_
  exact k_ret (pc := 74) C E (sh := [([14], [9]), ([7], [0]), ([13], [9]), ([13], [9]), ([19, 14, 14, 14, 14, 14, 14, 14, 14, 14], [9, 10, 10, 10, 10, 10, 10, 10, 10, 10]), ([13], [9])]) rfl (by decide +kernel) rfl (by decide) (by decide +kernel) rfl dX1_init_74
def kl6 : List Nat := [6, 4, 13, 13, 13, 13, 13, 13, 13, 13, 13, 13]
def ll6 : List Nat := [0, 0, 12, 12, 12, 9, 9, 4, 20, 20, 20, 700]
set_option maxRecDepth 100000 in
theorem ini6 (V : sg_V) : cn_ct V yX6_init cX6_init 1 6 2 11 836 kl6 ll6 := by
  refine cn_body (by decide) (by decide) rfl (fun X h0 hV C E => ?_)
  rw [show dfl 6 = [.int 0, .int 0, .int 0, .null, .null, .int 0, .int 0, .int 0, .int 0, .int 0, .int 0, .int 0, .int 0] by decide +kernel]
  refine k_al0 (pc := 0) C 0 rfl dX6_init_0 ?_
  refine k_oin (pc := 1) C (sg_w 34 (by decide +kernel) rfl) (Nat.le_of_ble_eq_true rfl) dX6_init_1 ?_
  refine k_al0 (pc := 4) C 0 rfl dX6_init_4 ?_
  refine k_ic (pc := 5) C (v := 0) dX6_init_5 (by decide +kernel) ?_
  refine k_put (pc := 6) C jnX6 rfl 0 (Nat.le_of_ble_eq_true rfl) (sg_w 159 (by decide +kernel) rfl) tyX6 tyX6_ok nmX6 rfl (ty := .int) (by decide +kernel) rfl rfl (fs' := [.int 0, .int 0, .int 0, .null, .null, .int 0, .int 0, .int 0, .int 0, .int 0, .int 0, .int 0, .int 0]) rfl (Nat.le_of_ble_eq_true rfl) dX6_init_6 ?_
  refine k_al0 (pc := 9) C 0 rfl dX6_init_9 ?_
  refine k_ic (pc := 10) C (v := 0) dX6_init_10 (by decide +kernel) ?_
  refine k_put (pc := 11) C jnX6 rfl 1 (Nat.le_of_ble_eq_true rfl) (sg_w 161 (by decide +kernel) rfl) tyX6 tyX6_ok nmX6 rfl (ty := .int) (by decide +kernel) rfl rfl (fs' := [.int 0, .int 0, .int 0, .null, .null, .int 0, .int 0, .int 0, .int 0, .int 0, .int 0, .int 0, .int 0]) rfl (Nat.le_of_ble_eq_true rfl) dX6_init_11 ?_
  refine k_al0 (pc := 14) C 0 rfl dX6_init_14 ?_
  refine k_ic (pc := 15) C (v := (-1)) dX6_init_15 (by decide +kernel) ?_
  refine k_put (pc := 16) C jnX6 rfl 2 (Nat.le_of_ble_eq_true rfl) (sg_w 163 (by decide +kernel) rfl) tyX6 tyX6_ok nmX6 rfl (ty := .int) (by decide +kernel) rfl rfl (fs' := [.int 0, .int 0, .int (-1), .null, .null, .int 0, .int 0, .int 0, .int 0, .int 0, .int 0, .int 0, .int 0]) rfl (Nat.le_of_ble_eq_true rfl) dX6_init_16 ?_
  refine k_al0 (pc := 19) C 0 rfl dX6_init_19 ?_
  refine k_obj3 (pc := 20) C (ini4 X.1) jnX4 tyX4 tyX4_ok (sg_w 35 (by decide +kernel) rfl) (sg_w 36 (by decide +kernel) rfl) (sg_w 3 (by decide +kernel) rfl) rfl (by decide +kernel) rfl (List.mem_of_getElem? (i := 1) rfl) (sg_w 39 (by decide +kernel) rfl) (sg_w 38 (by decide +kernel) rfl) rfl ⟨by decide, by decide, by decide +kernel⟩ (Nat.le_of_ble_eq_true rfl) (Nat.le_of_ble_eq_true rfl) (k' := 10) (n' := 136) rfl rfl (Nat.le_of_ble_eq_true rfl) (Nat.le_of_ble_eq_true rfl) (Nat.le_of_ble_eq_true rfl) (flt_app _) dX6_init_20 dX6_init_23 dX6_init_24 (fun u13 => ?_)
  refine k_putF (pc := 27) C jnX6 rfl 3 (Nat.le_of_ble_eq_true rfl) (sg_w 165 (by decide +kernel) rfl) tyX6 tyX6_ok nmX6 rfl rfl (ty := (.object "SupplyGrid$Net")) (by decide +kernel) rfl rfl (fs' := [.int 0, .int 0, .int (-1), .ref (u13 0), .null, .int 0, .int 0, .int 0, .int 0, .int 0, .int 0, .int 0, .int 0]) rfl (Nat.le_of_ble_eq_true rfl) dX6_init_27 ?_
  refine k_al0 (pc := 30) C 0 rfl dX6_init_30 ?_
  refine k_si (pc := 31) C (v := 700) dX6_init_31 (by decide +kernel) ?_
  refine k_nI (pc := 34) C (N' := 700) (by decide +kernel) (by decide +kernel) (Nat.le_of_ble_eq_true rfl) (k' := 11) (n' := 836) rfl rfl (Nat.le_of_ble_eq_true rfl) (Nat.le_of_ble_eq_true rfl) (flt_app _) dX6_init_34 (fun q17 => ?_)
  refine k_putF (pc := 36) C jnX6 rfl 4 (Nat.le_of_ble_eq_true rfl) (sg_w 167 (by decide +kernel) rfl) tyX6 tyX6_ok nmX6 rfl rfl (ty := (.array .int)) (by decide +kernel) rfl rfl (fs' := [.int 0, .int 0, .int (-1), .ref (u13 0), .ref q17, .int 0, .int 0, .int 0, .int 0, .int 0, .int 0, .int 0, .int 0]) rfl (Nat.le_of_ble_eq_true rfl) dX6_init_36 ?_
  refine k_al0 (pc := 39) C 0 rfl dX6_init_39 ?_
  refine k_ic (pc := 40) C (v := 0) dX6_init_40 (by decide +kernel) ?_
  refine k_put (pc := 41) C jnX6 rfl 5 (Nat.le_of_ble_eq_true rfl) (sg_w 168 (by decide +kernel) rfl) tyX6 tyX6_ok nmX6 rfl (ty := .int) (by decide +kernel) rfl rfl (fs' := [.int 0, .int 0, .int (-1), .ref (u13 0), .ref q17, .int 0, .int 0, .int 0, .int 0, .int 0, .int 0, .int 0, .int 0]) rfl (Nat.le_of_ble_eq_true rfl) dX6_init_41 ?_
  refine k_al0 (pc := 44) C 0 rfl dX6_init_44 ?_
  refine k_ic (pc := 45) C (v := 0) dX6_init_45 (by decide +kernel) ?_
  refine k_put (pc := 46) C jnX6 rfl 6 (Nat.le_of_ble_eq_true rfl) (sg_w 169 (by decide +kernel) rfl) tyX6 tyX6_ok nmX6 rfl (ty := .int) (by decide +kernel) rfl rfl (fs' := [.int 0, .int 0, .int (-1), .ref (u13 0), .ref q17, .int 0, .int 0, .int 0, .int 0, .int 0, .int 0, .int 0, .int 0]) rfl (Nat.le_of_ble_eq_true rfl) dX6_init_46 ?_
  refine k_al0 (pc := 49) C 0 rfl dX6_init_49 ?_
  refine k_ic (pc := 50) C (v := 0) dX6_init_50 (by decide +kernel) ?_
  refine k_put (pc := 51) C jnX6 rfl 7 (Nat.le_of_ble_eq_true rfl) (sg_w 170 (by decide +kernel) rfl) tyX6 tyX6_ok nmX6 rfl (ty := .int) (by decide +kernel) rfl rfl (fs' := [.int 0, .int 0, .int (-1), .ref (u13 0), .ref q17, .int 0, .int 0, .int 0, .int 0, .int 0, .int 0, .int 0, .int 0]) rfl (Nat.le_of_ble_eq_true rfl) dX6_init_51 ?_
  refine k_al0 (pc := 54) C 0 rfl dX6_init_54 ?_
  refine k_ic (pc := 55) C (v := 0) dX6_init_55 (by decide +kernel) ?_
  refine k_put (pc := 56) C jnX6 rfl 8 (Nat.le_of_ble_eq_true rfl) (sg_w 171 (by decide +kernel) rfl) tyX6 tyX6_ok nmX6 rfl (ty := .int) (by decide +kernel) rfl rfl (fs' := [.int 0, .int 0, .int (-1), .ref (u13 0), .ref q17, .int 0, .int 0, .int 0, .int 0, .int 0, .int 0, .int 0, .int 0]) rfl (Nat.le_of_ble_eq_true rfl) dX6_init_56 ?_
  refine k_al0 (pc := 59) C 0 rfl dX6_init_59 ?_
  refine k_ic (pc := 60) C (v := 0) dX6_init_60 (by decide +kernel) ?_
  refine k_put (pc := 61) C jnX6 rfl 9 (Nat.le_of_ble_eq_true rfl) (sg_w 172 (by decide +kernel) rfl) tyX6 tyX6_ok nmX6 rfl (ty := .int) (by decide +kernel) rfl rfl (fs' := [.int 0, .int 0, .int (-1), .ref (u13 0), .ref q17, .int 0, .int 0, .int 0, .int 0, .int 0, .int 0, .int 0, .int 0]) rfl (Nat.le_of_ble_eq_true rfl) dX6_init_61 ?_
  refine k_al0 (pc := 64) C 0 rfl dX6_init_64 ?_
  refine k_ic (pc := 65) C (v := 0) dX6_init_65 (by decide +kernel) ?_
  refine k_put (pc := 66) C jnX6 rfl 10 (Nat.le_of_ble_eq_true rfl) (sg_w 173 (by decide +kernel) rfl) tyX6 tyX6_ok nmX6 rfl (ty := .int) (by decide +kernel) rfl rfl (fs' := [.int 0, .int 0, .int (-1), .ref (u13 0), .ref q17, .int 0, .int 0, .int 0, .int 0, .int 0, .int 0, .int 0, .int 0]) rfl (Nat.le_of_ble_eq_true rfl) dX6_init_66 ?_
  refine k_al0 (pc := 69) C 0 rfl dX6_init_69 ?_
  refine k_ic (pc := 70) C (v := 0) dX6_init_70 (by decide +kernel) ?_
  refine k_put (pc := 71) C jnX6 rfl 11 (Nat.le_of_ble_eq_true rfl) (sg_w 174 (by decide +kernel) rfl) tyX6 tyX6_ok nmX6 rfl (ty := .int) (by decide +kernel) rfl rfl (fs' := [.int 0, .int 0, .int (-1), .ref (u13 0), .ref q17, .int 0, .int 0, .int 0, .int 0, .int 0, .int 0, .int 0, .int 0]) rfl (Nat.le_of_ble_eq_true rfl) dX6_init_71 ?_
  refine k_al0 (pc := 74) C 0 rfl dX6_init_74 ?_
  refine k_ic (pc := 75) C (v := 0) dX6_init_75 (by decide +kernel) ?_
  refine k_put (pc := 76) C jnX6 rfl 12 (Nat.le_of_ble_eq_true rfl) (sg_w 175 (by decide +kernel) rfl) tyX6 tyX6_ok nmX6 rfl (ty := .int) (by decide +kernel) rfl rfl (fs' := [.int 0, .int 0, .int (-1), .ref (u13 0), .ref q17, .int 0, .int 0, .int 0, .int 0, .int 0, .int 0, .int 0, .int 0]) rfl (Nat.le_of_ble_eq_true rfl) dX6_init_76 ?_
  exact k_ret (pc := 79) C E (sh := [([4, 13, 13, 13, 13, 13, 13, 13, 13, 13], [0, 12, 12, 12, 9, 9, 4, 20, 20, 20]), ([13], [700])]) rfl (by decide +kernel) rfl (by decide) (by decide +kernel) rfl dX6_init_79
def kl0 : List Nat := [0, 13, 13, 1, 14, 7, 13, 13, 19, 14, 14, 14, 14, 14, 14, 14, 14, 14, 13]
def ll0 : List Nat := [0, 9, 4, 0, 9, 0, 9, 9, 9, 10, 10, 10, 10, 10, 10, 10, 10, 10, 9]
set_option maxRecDepth 100000 in
theorem ini0 (V : sg_V) : cn_ct V yX0_init cX0_init 1 0 3 18 160 kl0 ll0 := by
  refine cn_body (by decide) (by decide) rfl (fun X h0 hV C E => ?_)
  rw [show dfl 0 = [.long 0, .long 0, .null, .null, .null] by decide +kernel]
  refine k_al0 (pc := 0) C 0 rfl dX0_init_0 ?_
  refine k_oin (pc := 1) C (sg_w 284 (by decide +kernel) rfl) (Nat.le_of_ble_eq_true rfl) dX0_init_1 ?_
  refine k_al0 (pc := 4) C 0 rfl dX0_init_4 ?_
  refine k_lc (pc := 5) C (v := 0) dX0_init_5 (by decide +kernel) ?_
  refine k_put (pc := 6) C jnX0 rfl 0 (Nat.le_of_ble_eq_true rfl) (sg_w 287 (by decide +kernel) rfl) tyX0 tyX0_ok nmX0 rfl (ty := .long) (by decide +kernel) rfl rfl (fs' := [.long 0, .long 0, .null, .null, .null]) rfl (Nat.le_of_ble_eq_true rfl) dX0_init_6 ?_
  refine k_al0 (pc := 9) C 0 rfl dX0_init_9 ?_
  refine k_lc (pc := 10) C (v := 1) dX0_init_10 (by decide +kernel) ?_
  refine k_put (pc := 11) C jnX0 rfl 1 (Nat.le_of_ble_eq_true rfl) (sg_w 289 (by decide +kernel) rfl) tyX0 tyX0_ok nmX0 rfl (ty := .long) (by decide +kernel) rfl rfl (fs' := [.long 0, .long 1, .null, .null, .null]) rfl (Nat.le_of_ble_eq_true rfl) dX0_init_11 ?_
  refine k_al0 (pc := 14) C 0 rfl dX0_init_14 ?_
  refine k_bi (pc := 15) C (v := 9) dX0_init_15 (by decide +kernel) ?_
  refine k_nI (pc := 17) C (N' := 9) (by decide +kernel) (by decide +kernel) (Nat.le_of_ble_eq_true rfl) (k' := 1) (n' := 9) rfl rfl (Nat.le_of_ble_eq_true rfl) (Nat.le_of_ble_eq_true rfl) (flt_app _) dX0_init_17 (fun q11 => ?_)
  refine k_putF (pc := 19) C jnX0 rfl 2 (Nat.le_of_ble_eq_true rfl) (sg_w 291 (by decide +kernel) rfl) tyX0 tyX0_ok nmX0 rfl rfl (ty := (.array .int)) (by decide +kernel) rfl rfl (fs' := [.long 0, .long 1, .ref q11, .null, .null]) rfl (Nat.le_of_ble_eq_true rfl) dX0_init_19 ?_
  refine k_al0 (pc := 22) C 0 rfl dX0_init_22 ?_
  refine k_ic (pc := 23) C (v := 4) dX0_init_23 (by decide +kernel) ?_
  refine k_nI (pc := 24) C (N' := 4) (by decide +kernel) (by decide +kernel) (Nat.le_of_ble_eq_true rfl) (k' := 2) (n' := 13) rfl rfl (Nat.le_of_ble_eq_true rfl) (Nat.le_of_ble_eq_true rfl) (flt_app _) dX0_init_24 (fun q15 => ?_)
  refine k_putF (pc := 26) C jnX0 rfl 3 (Nat.le_of_ble_eq_true rfl) (sg_w 293 (by decide +kernel) rfl) tyX0 tyX0_ok nmX0 rfl rfl (ty := (.array .int)) (by decide +kernel) rfl rfl (fs' := [.long 0, .long 1, .ref q11, .ref q15, .null]) rfl (Nat.le_of_ble_eq_true rfl) dX0_init_26 ?_
  refine k_al0 (pc := 29) C 0 rfl dX0_init_29 ?_
  refine k_obj3 (pc := 30) C (ini1 X.1) jnX1 tyX1 tyX1_ok (sg_w 285 (by decide +kernel) rfl) (sg_w 207 (by decide +kernel) rfl) (sg_w 4 (by decide +kernel) rfl) rfl (by decide +kernel) rfl (List.mem_of_getElem? (i := 6) rfl) (sg_w 210 (by decide +kernel) rfl) (sg_w 209 (by decide +kernel) rfl) rfl ⟨by decide, by decide, by decide +kernel⟩ (Nat.le_of_ble_eq_true rfl) (Nat.le_of_ble_eq_true rfl) (k' := 18) (n' := 160) rfl rfl (Nat.le_of_ble_eq_true rfl) (Nat.le_of_ble_eq_true rfl) (Nat.le_of_ble_eq_true rfl) (flt_app _) dX0_init_30 dX0_init_33 dX0_init_34 (fun u18 => ?_)
  refine k_putF (pc := 37) C jnX0 rfl 4 (Nat.le_of_ble_eq_true rfl) (sg_w 295 (by decide +kernel) rfl) tyX0 tyX0_ok nmX0 rfl rfl (ty := (.object "SupplyGrid$Flow")) (by decide +kernel) rfl rfl (fs' := [.long 0, .long 1, .ref q11, .ref q15, .ref (u18 0)]) rfl (Nat.le_of_ble_eq_true rfl) dX0_init_37 ?_
  exact k_ret (pc := 40) C E (sh := [([13], [9]), ([13], [4]), ([1, 14, 7, 13, 13, 19, 14, 14, 14, 14, 14, 14, 14, 14, 14, 13], [0, 9, 0, 9, 9, 9, 10, 10, 10, 10, 10, 10, 10, 10, 10, 9])]) rfl (by decide +kernel) rfl (by decide) (by decide +kernel) rfl dX0_init_40
def kl9 : List Nat := [9, 18, 13, 13, 13, 13, 13, 13, 13, 13, 13, 13, 13, 13, 13, 13, 13, 13, 13, 13, 13, 13, 13, 13, 13, 13, 13, 13, 13, 13, 13, 13, 13, 13, 13, 13, 13, 13, 13, 13, 13, 13, 13, 13, 13, 13, 13, 13, 13, 13, 13, 1, 14, 7, 13, 13, 19, 14, 14, 14, 14, 14, 14, 14, 14, 14, 13]
def ll9 : List Nat := [0, 49, 12, 12, 12, 12, 12, 12, 12, 12, 12, 12, 12, 12, 12, 12, 12, 12, 12, 12, 12, 12, 12, 12, 12, 12, 12, 12, 12, 12, 12, 12, 12, 12, 12, 12, 12, 12, 12, 12, 12, 12, 12, 12, 12, 12, 12, 12, 12, 12, 12, 0, 9, 0, 9, 9, 9, 10, 10, 10, 10, 10, 10, 10, 10, 10, 9]
def muI_k : List Nat := [18, 13, 13, 13, 13, 13, 13, 13, 13, 13, 13, 13, 13, 13, 13, 13, 13, 13, 13, 13, 13, 13, 13, 13, 13, 13, 13, 13, 13, 13, 13, 13, 13, 13, 13, 13, 13, 13, 13, 13, 13, 13, 13, 13, 13, 13, 13, 13, 13, 13]
def muI_l : List Nat := [49, 12, 12, 12, 12, 12, 12, 12, 12, 12, 12, 12, 12, 12, 12, 12, 12, 12, 12, 12, 12, 12, 12, 12, 12, 12, 12, 12, 12, 12, 12, 12, 12, 12, 12, 12, 12, 12, 12, 12, 12, 12, 12, 12, 12, 12, 12, 12, 12, 12]
theorem muI_e (cy : Nat → ClassId) (u : Nat → Nat) (j : Nat) (hj : j < 49) : sg_E (mkY muI_k muI_l) u cy (M0 muI_k) (1 + j) = .inl (cy 13, 12, .inl fun _ => 0) := by
  have h : ∀ j, j < 49 → muI_k.getD (1 + j) 99 = 13 ∧ muI_l.getD (1 + j) 0 = 12 := by decide +kernel
  rw [sg_EI (show (mkY muI_k muI_l).2.1 (1 + j) = 13 from (h j hj).1) (Or.inr (Or.inl rfl))]
  have e1 : (M0 muI_k).1 (1 + j) = fun _ => 0 := by
    funext k
    show vI (muI_k.getD (1 + j) 99) k = 0
    rw [(h j hj).1]
    rfl
  have e2 : (mkY muI_k muI_l).2.2.1 (1 + j) = 12 := (h j hj).2
  rw [e1, e2]
set_option maxRecDepth 100000 in
theorem ini9 (V : sg_V) : cn_ct V yX9_init cX9_init 1 9 3 66 784 kl9 ll9 := by
  refine cn_body (by decide) (by decide) rfl (fun X h0 hV C E => ?_)
  rw [show dfl 9 = [.int 0, .int 0, .int 0, .null, .null] by decide +kernel]
  refine k_al0 (pc := 0) C 0 rfl dX9_init_0 ?_
  refine k_oin (pc := 1) C (sg_w 312 (by decide +kernel) rfl) (Nat.le_of_ble_eq_true rfl) dX9_init_1 ?_
  refine k_al0 (pc := 4) C 0 rfl dX9_init_4 ?_
  refine k_ic (pc := 5) C (v := 0) dX9_init_5 (by decide +kernel) ?_
  refine k_put (pc := 6) C jnX9 rfl 0 (Nat.le_of_ble_eq_true rfl) (sg_w 317 (by decide +kernel) rfl) tyX9 tyX9_ok nmX9 rfl (ty := .boolean) (by decide +kernel) rfl rfl (fs' := [.int 0, .int 0, .int 0, .null, .null]) rfl (Nat.le_of_ble_eq_true rfl) dX9_init_6 ?_
  refine k_al0 (pc := 9) C 0 rfl dX9_init_9 ?_
  refine k_ic (pc := 10) C (v := 0) dX9_init_10 (by decide +kernel) ?_
  refine k_put (pc := 11) C jnX9 rfl 1 (Nat.le_of_ble_eq_true rfl) (sg_w 319 (by decide +kernel) rfl) tyX9 tyX9_ok nmX9 rfl (ty := .int) (by decide +kernel) rfl rfl (fs' := [.int 0, .int 0, .int 0, .null, .null]) rfl (Nat.le_of_ble_eq_true rfl) dX9_init_11 ?_
  refine k_al0 (pc := 14) C 0 rfl dX9_init_14 ?_
  refine k_ic (pc := 15) C (v := (-1)) dX9_init_15 (by decide +kernel) ?_
  refine k_put (pc := 16) C jnX9 rfl 2 (Nat.le_of_ble_eq_true rfl) (sg_w 321 (by decide +kernel) rfl) tyX9 tyX9_ok nmX9 rfl (ty := .int) (by decide +kernel) rfl rfl (fs' := [.int 0, .int 0, .int (-1), .null, .null]) rfl (Nat.le_of_ble_eq_true rfl) dX9_init_16 ?_
  refine k_al0 (pc := 19) C 0 rfl dX9_init_19 ?_
  refine k_bi (pc := 20) C (v := 49) dX9_init_20 (by decide +kernel) ?_
  refine k_bi (pc := 22) C (v := 12) dX9_init_22 (by decide +kernel) ?_
  refine k_mul (pc := 24) C (i0 := 6) (i1 := 1) (t := 18) (ti := 13) (N' := 49) (K' := 12) (ty := .int) (ks := muI_k) (ls1 := muI_l) (a0 := .inl fun _ => 0) (sg_w 313 (by decide +kernel) rfl) (List.mem_of_getElem? (i := 2) rfl) (sg_w 158 (by decide +kernel) rfl) (fun _ => rfl) (fun _ => rfl) (fun _ _ h => h) (by decide +kernel) rfl (by decide) rfl (by decide +kernel) muI_e (fun _ => rfl) (by decide +kernel) (by decide +kernel) (by decide +kernel) (by decide +kernel) (Nat.le_of_ble_eq_true rfl) (Nat.le_of_ble_eq_true rfl) (Nat.le_of_ble_eq_true rfl) rfl rfl (k' := 50) (n' := 637) rfl rfl (Nat.le_of_ble_eq_true rfl) (Nat.le_of_ble_eq_true rfl) (flt_app _) dX9_init_24 (fun u15 => ?_)
  refine k_putF (pc := 28) C jnX9 rfl 3 (Nat.le_of_ble_eq_true rfl) (sg_w 323 (by decide +kernel) rfl) tyX9 tyX9_ok nmX9 rfl rfl (ty := (.array (.array .int))) (by decide +kernel) rfl rfl (fs' := [.int 0, .int 0, .int (-1), .ref (u15 0), .null]) rfl (Nat.le_of_ble_eq_true rfl) dX9_init_28 ?_
  refine k_al0 (pc := 31) C 0 rfl dX9_init_31 ?_
  refine k_obj3 (pc := 32) C (ini1 X.1) jnX1 tyX1 tyX1_ok (sg_w 315 (by decide +kernel) rfl) (sg_w 207 (by decide +kernel) rfl) (sg_w 4 (by decide +kernel) rfl) rfl (by decide +kernel) rfl (List.mem_of_getElem? (i := 8) rfl) (sg_w 210 (by decide +kernel) rfl) (sg_w 209 (by decide +kernel) rfl) rfl ⟨by decide, by decide, by decide +kernel⟩ (Nat.le_of_ble_eq_true rfl) (Nat.le_of_ble_eq_true rfl) (k' := 66) (n' := 784) rfl rfl (Nat.le_of_ble_eq_true rfl) (Nat.le_of_ble_eq_true rfl) (Nat.le_of_ble_eq_true rfl) (flt_app _) dX9_init_32 dX9_init_35 dX9_init_36 (fun u18 => ?_)
  refine k_putF (pc := 39) C jnX9 rfl 4 (Nat.le_of_ble_eq_true rfl) (sg_w 325 (by decide +kernel) rfl) tyX9 tyX9_ok nmX9 rfl rfl (ty := (.object "SupplyGrid$Flow")) (by decide +kernel) rfl rfl (fs' := [.int 0, .int 0, .int (-1), .ref (u15 0), .ref (u18 0)]) rfl (Nat.le_of_ble_eq_true rfl) dX9_init_39 ?_
  exact k_ret (pc := 42) C E (sh := [([18, 13, 13, 13, 13, 13, 13, 13, 13, 13, 13, 13, 13, 13, 13, 13, 13, 13, 13, 13, 13, 13, 13, 13, 13, 13, 13, 13, 13, 13, 13, 13, 13, 13, 13, 13, 13, 13, 13, 13, 13, 13, 13, 13, 13, 13, 13, 13, 13, 13], [49, 12, 12, 12, 12, 12, 12, 12, 12, 12, 12, 12, 12, 12, 12, 12, 12, 12, 12, 12, 12, 12, 12, 12, 12, 12, 12, 12, 12, 12, 12, 12, 12, 12, 12, 12, 12, 12, 12, 12, 12, 12, 12, 12, 12, 12, 12, 12, 12, 12]), ([1, 14, 7, 13, 13, 19, 14, 14, 14, 14, 14, 14, 14, 14, 14, 13], [0, 9, 0, 9, 9, 9, 10, 10, 10, 10, 10, 10, 10, 10, 10, 9])]) rfl (by decide +kernel) rfl (by decide) (by decide +kernel) rfl dX9_init_42
def kl5 : List Nat := [5, 13, 17, 7, 7, 7, 7, 7, 7, 7, 7, 7, 7, 15, 13, 7, 1, 14, 7, 13, 13, 19, 14, 14, 14, 14, 14, 14, 14, 14, 14, 13]
def ll5 : List Nat := [0, 9, 10, 0, 0, 0, 0, 0, 0, 0, 0, 0, 0, 10, 10, 0, 0, 9, 0, 9, 9, 9, 10, 10, 10, 10, 10, 10, 10, 10, 10, 9]
set_option maxRecDepth 100000 in
theorem ini5 (V : sg_V) : cn_ct V yX5_init cX5_init 2 5 3 31 219 kl5 ll5 := by
  refine cn_body (by decide) (by decide) rfl (fun X h0 hV C E => ?_)
  rw [show dfl 5 = [.int 0, .null, .null, .int 0, .null, .null, .null, .null] by decide +kernel]
  refine k_al0 (pc := 0) C 0 rfl dX5_init_0 ?_
  refine k_oin (pc := 1) C (sg_w 342 (by decide +kernel) rfl) (Nat.le_of_ble_eq_true rfl) dX5_init_1 ?_
  refine k_al0 (pc := 4) C 0 rfl dX5_init_4 ?_
  refine k_ic (pc := 5) C (v := 0) dX5_init_5 (by decide +kernel) ?_
  refine k_put (pc := 6) C jnX5 rfl 0 (Nat.le_of_ble_eq_true rfl) (sg_w 348 (by decide +kernel) rfl) tyX5 tyX5_ok nmX5 rfl (ty := .int) (by decide +kernel) rfl rfl (fs' := [.int 0, .null, .null, .int 0, .null, .null, .null, .null]) rfl (Nat.le_of_ble_eq_true rfl) dX5_init_6 ?_
  refine k_al0 (pc := 9) C 0 rfl dX5_init_9 ?_
  refine k_bi (pc := 10) C (v := 9) dX5_init_10 (by decide +kernel) ?_
  refine k_nI (pc := 12) C (N' := 9) (by decide +kernel) (by decide +kernel) (Nat.le_of_ble_eq_true rfl) (k' := 1) (n' := 9) rfl rfl (Nat.le_of_ble_eq_true rfl) (Nat.le_of_ble_eq_true rfl) (flt_app _) dX5_init_12 (fun q8 => ?_)
  refine k_putF (pc := 14) C jnX5 rfl 1 (Nat.le_of_ble_eq_true rfl) (sg_w 350 (by decide +kernel) rfl) tyX5 tyX5_ok nmX5 rfl rfl (ty := (.array .int)) (by decide +kernel) rfl rfl (fs' := [.int 0, .ref q8, .null, .int 0, .null, .null, .null, .null]) rfl (Nat.le_of_ble_eq_true rfl) dX5_init_14 ?_
  refine k_al0 (pc := 17) C 0 rfl dX5_init_17 ?_
  refine k_bi (pc := 18) C (v := 10) dX5_init_18 (by decide +kernel) ?_
  refine k_anw (pc := 20) C (i0 := 5) (t := 17) (N' := 10) (cn := "SupplyGrid$Score") (sg_w 343 (by decide +kernel) rfl) (List.mem_of_getElem? (i := 1) rfl) (fun _ => rfl) (by decide +kernel) (by decide +kernel) (Nat.le_of_ble_eq_true rfl) (k' := 2) (n' := 19) rfl rfl (Nat.le_of_ble_eq_true rfl) (Nat.le_of_ble_eq_true rfl) dX5_init_20 (fun q12 => ?_)
  refine k_putF (pc := 23) C jnX5 rfl 2 (Nat.le_of_ble_eq_true rfl) (sg_w 352 (by decide +kernel) rfl) tyX5 tyX5_ok nmX5 rfl rfl (ty := (.array (.object "SupplyGrid$Score"))) (by decide +kernel) rfl rfl (fs' := [.int 0, .ref q8, .ref q12, .int 0, .null, .null, .null, .null]) rfl (Nat.le_of_ble_eq_true rfl) dX5_init_23 ?_
  refine k_al0 (pc := 26) C 0 rfl dX5_init_26 ?_
  refine k_ic (pc := 27) C (v := 0) dX5_init_27 (by decide +kernel) ?_
  refine k_put (pc := 28) C jnX5 rfl 3 (Nat.le_of_ble_eq_true rfl) (sg_w 354 (by decide +kernel) rfl) tyX5 tyX5_ok nmX5 rfl (ty := .boolean) (by decide +kernel) rfl rfl (fs' := [.int 0, .ref q8, .ref q12, .int 0, .null, .null, .null, .null]) rfl (Nat.le_of_ble_eq_true rfl) dX5_init_28 ?_
  refine k_al0 (pc := 31) C 0 rfl dX5_init_31 ?_
  refine k_bi (pc := 32) C (v := 10) dX5_init_32 (by decide +kernel) ?_
  refine k_nZ (pc := 34) C (N' := 10) (by decide +kernel) (by decide +kernel) (Nat.le_of_ble_eq_true rfl) (k' := 3) (n' := 29) rfl rfl (Nat.le_of_ble_eq_true rfl) (Nat.le_of_ble_eq_true rfl) (flt_app2 _ _ _) dX5_init_34 (fun q19 => ?_)
  refine k_putF (pc := 36) C jnX5 rfl 4 (Nat.le_of_ble_eq_true rfl) (sg_w 355 (by decide +kernel) rfl) tyX5 tyX5_ok nmX5 rfl rfl (ty := (.array .boolean)) (by decide +kernel) rfl rfl (fs' := [.int 0, .ref q8, .ref q12, .int 0, .ref q19, .null, .null, .null]) rfl (Nat.le_of_ble_eq_true rfl) dX5_init_36 ?_
  refine k_al0 (pc := 39) C 0 rfl dX5_init_39 ?_
  refine k_bi (pc := 40) C (v := 10) dX5_init_40 (by decide +kernel) ?_
  refine k_nI (pc := 42) C (N' := 10) (by decide +kernel) (by decide +kernel) (Nat.le_of_ble_eq_true rfl) (k' := 4) (n' := 39) rfl rfl (Nat.le_of_ble_eq_true rfl) (Nat.le_of_ble_eq_true rfl) (flt_app2 _ _ _) dX5_init_42 (fun q23 => ?_)
  refine k_putF (pc := 44) C jnX5 rfl 5 (Nat.le_of_ble_eq_true rfl) (sg_w 356 (by decide +kernel) rfl) tyX5 tyX5_ok nmX5 rfl rfl (ty := (.array .int)) (by decide +kernel) rfl rfl (fs' := [.int 0, .ref q8, .ref q12, .int 0, .ref q19, .ref q23, .null, .null]) rfl (Nat.le_of_ble_eq_true rfl) dX5_init_44 ?_
  refine k_al0 (pc := 47) C 0 rfl dX5_init_47 ?_
  refine k_obj3 (pc := 48) C (ini7 X.1) jnX7 tyX7 tyX7_ok (sg_w 343 (by decide +kernel) rfl) (sg_w 213 (by decide +kernel) rfl) (sg_w 5 (by decide +kernel) rfl) rfl (by decide +kernel) rfl (List.mem_of_getElem? (i := 9) rfl) (sg_w 216 (by decide +kernel) rfl) (sg_w 215 (by decide +kernel) rfl) rfl ⟨by decide, by decide, by decide +kernel⟩ (Nat.le_of_ble_eq_true rfl) (Nat.le_of_ble_eq_true rfl) (k' := 5) (n' := 42) rfl rfl (Nat.le_of_ble_eq_true rfl) (Nat.le_of_ble_eq_true rfl) (Nat.le_of_ble_eq_true rfl) (flt_app2 _ _ _) dX5_init_48 dX5_init_51 dX5_init_52 (fun u26 => ?_)
  refine k_putF (pc := 55) C jnX5 rfl 6 (Nat.le_of_ble_eq_true rfl) (sg_w 357 (by decide +kernel) rfl) tyX5 tyX5_ok nmX5 rfl rfl (ty := (.object "SupplyGrid$Score")) (by decide +kernel) rfl rfl (fs' := [.int 0, .ref q8, .ref q12, .int 0, .ref q19, .ref q23, .ref (u26 0), .null]) rfl (Nat.le_of_ble_eq_true rfl) dX5_init_55 ?_
  refine k_al0 (pc := 58) C 0 rfl dX5_init_58 ?_
  refine k_obj3 (pc := 59) C (ini1 X.1) jnX1 tyX1 tyX1_ok (sg_w 346 (by decide +kernel) rfl) (sg_w 207 (by decide +kernel) rfl) (sg_w 4 (by decide +kernel) rfl) rfl (by decide +kernel) rfl (List.mem_of_getElem? (i := 10) rfl) (sg_w 210 (by decide +kernel) rfl) (sg_w 209 (by decide +kernel) rfl) rfl ⟨by decide, by decide, by decide +kernel⟩ (Nat.le_of_ble_eq_true rfl) (Nat.le_of_ble_eq_true rfl) (k' := 21) (n' := 189) rfl rfl (Nat.le_of_ble_eq_true rfl) (Nat.le_of_ble_eq_true rfl) (Nat.le_of_ble_eq_true rfl) (flt_app2 _ _ _) dX5_init_59 dX5_init_62 dX5_init_63 (fun u29 => ?_)
  refine k_putF (pc := 66) C jnX5 rfl 7 (Nat.le_of_ble_eq_true rfl) (sg_w 358 (by decide +kernel) rfl) tyX5 tyX5_ok nmX5 rfl rfl (ty := (.object "SupplyGrid$Flow")) (by decide +kernel) rfl rfl (fs' := [.int 0, .ref q8, .ref q12, .int 0, .ref q19, .ref q23, .ref (u26 0), .ref (u29 0)]) rfl (Nat.le_of_ble_eq_true rfl) dX5_init_66 ?_
  refine k_ic (pc := 69) C (v := 0) dX5_init_69 (by decide +kernel) ?_
  refine k_ist (pc := 70) C (i := 1) (lv' := [(1, .int 0), (0, .ref h0)]) rfl (by decide) rfl dX5_init_70 ?_
  refine k_ild (pc := 71) C (i := 1) (x := 0) 0 rfl rfl dX5_init_71 ?_
  refine k_bi (pc := 72) C (v := 9) dX5_init_72 (by decide +kernel) ?_
  refine k_gt0 (pc := 74) C 96 (by decide +kernel) dX5_init_74 rfl ?_
  refine k_al0 (pc := 77) C 1 rfl dX5_init_77 ?_
  refine k_get (pc := 78) C jnX5 rfl 2 (Nat.le_of_ble_eq_true rfl) (sg_w 352 (by decide +kernel) rfl) (v := .ref q12) rfl dX5_init_78 ?_
  refine k_ild (pc := 81) C (i := 1) (x := 0) 0 rfl rfl dX5_init_81 ?_
  refine k_obj3 (pc := 82) C (ini7 X.1) jnX7 tyX7 tyX7_ok (sg_w 343 (by decide +kernel) rfl) (sg_w 213 (by decide +kernel) rfl) (sg_w 5 (by decide +kernel) rfl) rfl (by decide +kernel) rfl (List.mem_of_getElem? (i := 9) rfl) (sg_w 216 (by decide +kernel) rfl) (sg_w 215 (by decide +kernel) rfl) rfl ⟨by decide, by decide, by decide +kernel⟩ (Nat.le_of_ble_eq_true rfl) (Nat.le_of_ble_eq_true rfl) (k' := 22) (n' := 192) rfl rfl (Nat.le_of_ble_eq_true rfl) (Nat.le_of_ble_eq_true rfl) (Nat.le_of_ble_eq_true rfl) (flt_app2 _ _ _) dX5_init_82 dX5_init_85 dX5_init_86 (fun u39 => ?_)
  refine k_ast (pc := 89) C (i0 := 5) (ci := 7) (fun _ => rfl) rfl (by decide) rfl (by decide +kernel) (by decide +kernel) (iN := 0) (by decide +kernel) dX5_init_89 ?_
  refine k_inc (pc := 90) C (i := 1) (v := 1) (lv' := [(1, .int 1), (0, .ref h0)]) 0 rfl (by decide +kernel) (by decide) rfl dX5_init_90 ?_
  refine k_go (pc := 93) C (tgt := 71) dX5_init_93 rfl ?_
  refine k_ild (pc := 71) C (i := 1) (x := 1) 0 rfl rfl dX5_init_71 ?_
  refine k_bi (pc := 72) C (v := 9) dX5_init_72 (by decide +kernel) ?_
  refine k_gt0 (pc := 74) C 96 (by decide +kernel) dX5_init_74 rfl ?_
  refine k_al0 (pc := 77) C 1 rfl dX5_init_77 ?_
  refine k_get (pc := 78) C jnX5 rfl 2 (Nat.le_of_ble_eq_true rfl) (sg_w 352 (by decide +kernel) rfl) (v := .ref q12) rfl dX5_init_78 ?_
  refine k_ild (pc := 81) C (i := 1) (x := 1) 0 rfl rfl dX5_init_81 ?_
  refine k_obj3 (pc := 82) C (ini7 X.1) jnX7 tyX7 tyX7_ok (sg_w 343 (by decide +kernel) rfl) (sg_w 213 (by decide +kernel) rfl) (sg_w 5 (by decide +kernel) rfl) rfl (by decide +kernel) rfl (List.mem_of_getElem? (i := 9) rfl) (sg_w 216 (by decide +kernel) rfl) (sg_w 215 (by decide +kernel) rfl) rfl ⟨by decide, by decide, by decide +kernel⟩ (Nat.le_of_ble_eq_true rfl) (Nat.le_of_ble_eq_true rfl) (k' := 23) (n' := 195) rfl rfl (Nat.le_of_ble_eq_true rfl) (Nat.le_of_ble_eq_true rfl) (Nat.le_of_ble_eq_true rfl) (flt_app2 _ _ _) dX5_init_82 dX5_init_85 dX5_init_86 (fun u49 => ?_)
  refine k_ast (pc := 89) C (i0 := 5) (ci := 7) (fun _ => rfl) rfl (by decide) rfl (by decide +kernel) (by decide +kernel) (iN := 1) (by decide +kernel) dX5_init_89 ?_
  refine k_inc (pc := 90) C (i := 1) (v := 2) (lv' := [(1, .int 2), (0, .ref h0)]) 0 rfl (by decide +kernel) (by decide) rfl dX5_init_90 ?_
  refine k_go (pc := 93) C (tgt := 71) dX5_init_93 rfl ?_
  refine k_ild (pc := 71) C (i := 1) (x := 2) 0 rfl rfl dX5_init_71 ?_
  refine k_bi (pc := 72) C (v := 9) dX5_init_72 (by decide +kernel) ?_
  refine k_gt0 (pc := 74) C 96 (by decide +kernel) dX5_init_74 rfl ?_
  refine k_al0 (pc := 77) C 1 rfl dX5_init_77 ?_
  refine k_get (pc := 78) C jnX5 rfl 2 (Nat.le_of_ble_eq_true rfl) (sg_w 352 (by decide +kernel) rfl) (v := .ref q12) rfl dX5_init_78 ?_
  refine k_ild (pc := 81) C (i := 1) (x := 2) 0 rfl rfl dX5_init_81 ?_
  refine k_obj3 (pc := 82) C (ini7 X.1) jnX7 tyX7 tyX7_ok (sg_w 343 (by decide +kernel) rfl) (sg_w 213 (by decide +kernel) rfl) (sg_w 5 (by decide +kernel) rfl) rfl (by decide +kernel) rfl (List.mem_of_getElem? (i := 9) rfl) (sg_w 216 (by decide +kernel) rfl) (sg_w 215 (by decide +kernel) rfl) rfl ⟨by decide, by decide, by decide +kernel⟩ (Nat.le_of_ble_eq_true rfl) (Nat.le_of_ble_eq_true rfl) (k' := 24) (n' := 198) rfl rfl (Nat.le_of_ble_eq_true rfl) (Nat.le_of_ble_eq_true rfl) (Nat.le_of_ble_eq_true rfl) (flt_app2 _ _ _) dX5_init_82 dX5_init_85 dX5_init_86 (fun u59 => ?_)
  refine k_ast (pc := 89) C (i0 := 5) (ci := 7) (fun _ => rfl) rfl (by decide) rfl (by decide +kernel) (by decide +kernel) (iN := 2) (by decide +kernel) dX5_init_89 ?_
  refine k_inc (pc := 90) C (i := 1) (v := 3) (lv' := [(1, .int 3), (0, .ref h0)]) 0 rfl (by decide +kernel) (by decide) rfl dX5_init_90 ?_
  refine k_go (pc := 93) C (tgt := 71) dX5_init_93 rfl ?_
  refine k_ild (pc := 71) C (i := 1) (x := 3) 0 rfl rfl dX5_init_71 ?_
  refine k_bi (pc := 72) C (v := 9) dX5_init_72 (by decide +kernel) ?_
  refine k_gt0 (pc := 74) C 96 (by decide +kernel) dX5_init_74 rfl ?_
  refine k_al0 (pc := 77) C 1 rfl dX5_init_77 ?_
  refine k_get (pc := 78) C jnX5 rfl 2 (Nat.le_of_ble_eq_true rfl) (sg_w 352 (by decide +kernel) rfl) (v := .ref q12) rfl dX5_init_78 ?_
  refine k_ild (pc := 81) C (i := 1) (x := 3) 0 rfl rfl dX5_init_81 ?_
  refine k_obj3 (pc := 82) C (ini7 X.1) jnX7 tyX7 tyX7_ok (sg_w 343 (by decide +kernel) rfl) (sg_w 213 (by decide +kernel) rfl) (sg_w 5 (by decide +kernel) rfl) rfl (by decide +kernel) rfl (List.mem_of_getElem? (i := 9) rfl) (sg_w 216 (by decide +kernel) rfl) (sg_w 215 (by decide +kernel) rfl) rfl ⟨by decide, by decide, by decide +kernel⟩ (Nat.le_of_ble_eq_true rfl) (Nat.le_of_ble_eq_true rfl) (k' := 25) (n' := 201) rfl rfl (Nat.le_of_ble_eq_true rfl) (Nat.le_of_ble_eq_true rfl) (Nat.le_of_ble_eq_true rfl) (flt_app2 _ _ _) dX5_init_82 dX5_init_85 dX5_init_86 (fun u69 => ?_)
  refine k_ast (pc := 89) C (i0 := 5) (ci := 7) (fun _ => rfl) rfl (by decide) rfl (by decide +kernel) (by decide +kernel) (iN := 3) (by decide +kernel) dX5_init_89 ?_
  refine k_inc (pc := 90) C (i := 1) (v := 4) (lv' := [(1, .int 4), (0, .ref h0)]) 0 rfl (by decide +kernel) (by decide) rfl dX5_init_90 ?_
  refine k_go (pc := 93) C (tgt := 71) dX5_init_93 rfl ?_
  refine k_ild (pc := 71) C (i := 1) (x := 4) 0 rfl rfl dX5_init_71 ?_
  refine k_bi (pc := 72) C (v := 9) dX5_init_72 (by decide +kernel) ?_
  refine k_gt0 (pc := 74) C 96 (by decide +kernel) dX5_init_74 rfl ?_
  refine k_al0 (pc := 77) C 1 rfl dX5_init_77 ?_
  refine k_get (pc := 78) C jnX5 rfl 2 (Nat.le_of_ble_eq_true rfl) (sg_w 352 (by decide +kernel) rfl) (v := .ref q12) rfl dX5_init_78 ?_
  refine k_ild (pc := 81) C (i := 1) (x := 4) 0 rfl rfl dX5_init_81 ?_
  refine k_obj3 (pc := 82) C (ini7 X.1) jnX7 tyX7 tyX7_ok (sg_w 343 (by decide +kernel) rfl) (sg_w 213 (by decide +kernel) rfl) (sg_w 5 (by decide +kernel) rfl) rfl (by decide +kernel) rfl (List.mem_of_getElem? (i := 9) rfl) (sg_w 216 (by decide +kernel) rfl) (sg_w 215 (by decide +kernel) rfl) rfl ⟨by decide, by decide, by decide +kernel⟩ (Nat.le_of_ble_eq_true rfl) (Nat.le_of_ble_eq_true rfl) (k' := 26) (n' := 204) rfl rfl (Nat.le_of_ble_eq_true rfl) (Nat.le_of_ble_eq_true rfl) (Nat.le_of_ble_eq_true rfl) (flt_app2 _ _ _) dX5_init_82 dX5_init_85 dX5_init_86 (fun u79 => ?_)
  refine k_ast (pc := 89) C (i0 := 5) (ci := 7) (fun _ => rfl) rfl (by decide) rfl (by decide +kernel) (by decide +kernel) (iN := 4) (by decide +kernel) dX5_init_89 ?_
  refine k_inc (pc := 90) C (i := 1) (v := 5) (lv' := [(1, .int 5), (0, .ref h0)]) 0 rfl (by decide +kernel) (by decide) rfl dX5_init_90 ?_
  refine k_go (pc := 93) C (tgt := 71) dX5_init_93 rfl ?_
  refine k_ild (pc := 71) C (i := 1) (x := 5) 0 rfl rfl dX5_init_71 ?_
  refine k_bi (pc := 72) C (v := 9) dX5_init_72 (by decide +kernel) ?_
  refine k_gt0 (pc := 74) C 96 (by decide +kernel) dX5_init_74 rfl ?_
  refine k_al0 (pc := 77) C 1 rfl dX5_init_77 ?_
  refine k_get (pc := 78) C jnX5 rfl 2 (Nat.le_of_ble_eq_true rfl) (sg_w 352 (by decide +kernel) rfl) (v := .ref q12) rfl dX5_init_78 ?_
  refine k_ild (pc := 81) C (i := 1) (x := 5) 0 rfl rfl dX5_init_81 ?_
  refine k_obj3 (pc := 82) C (ini7 X.1) jnX7 tyX7 tyX7_ok (sg_w 343 (by decide +kernel) rfl) (sg_w 213 (by decide +kernel) rfl) (sg_w 5 (by decide +kernel) rfl) rfl (by decide +kernel) rfl (List.mem_of_getElem? (i := 9) rfl) (sg_w 216 (by decide +kernel) rfl) (sg_w 215 (by decide +kernel) rfl) rfl ⟨by decide, by decide, by decide +kernel⟩ (Nat.le_of_ble_eq_true rfl) (Nat.le_of_ble_eq_true rfl) (k' := 27) (n' := 207) rfl rfl (Nat.le_of_ble_eq_true rfl) (Nat.le_of_ble_eq_true rfl) (Nat.le_of_ble_eq_true rfl) (flt_app2 _ _ _) dX5_init_82 dX5_init_85 dX5_init_86 (fun u89 => ?_)
  refine k_ast (pc := 89) C (i0 := 5) (ci := 7) (fun _ => rfl) rfl (by decide) rfl (by decide +kernel) (by decide +kernel) (iN := 5) (by decide +kernel) dX5_init_89 ?_
  refine k_inc (pc := 90) C (i := 1) (v := 6) (lv' := [(1, .int 6), (0, .ref h0)]) 0 rfl (by decide +kernel) (by decide) rfl dX5_init_90 ?_
  refine k_go (pc := 93) C (tgt := 71) dX5_init_93 rfl ?_
  refine k_ild (pc := 71) C (i := 1) (x := 6) 0 rfl rfl dX5_init_71 ?_
  refine k_bi (pc := 72) C (v := 9) dX5_init_72 (by decide +kernel) ?_
  refine k_gt0 (pc := 74) C 96 (by decide +kernel) dX5_init_74 rfl ?_
  refine k_al0 (pc := 77) C 1 rfl dX5_init_77 ?_
  refine k_get (pc := 78) C jnX5 rfl 2 (Nat.le_of_ble_eq_true rfl) (sg_w 352 (by decide +kernel) rfl) (v := .ref q12) rfl dX5_init_78 ?_
  refine k_ild (pc := 81) C (i := 1) (x := 6) 0 rfl rfl dX5_init_81 ?_
  refine k_obj3 (pc := 82) C (ini7 X.1) jnX7 tyX7 tyX7_ok (sg_w 343 (by decide +kernel) rfl) (sg_w 213 (by decide +kernel) rfl) (sg_w 5 (by decide +kernel) rfl) rfl (by decide +kernel) rfl (List.mem_of_getElem? (i := 9) rfl) (sg_w 216 (by decide +kernel) rfl) (sg_w 215 (by decide +kernel) rfl) rfl ⟨by decide, by decide, by decide +kernel⟩ (Nat.le_of_ble_eq_true rfl) (Nat.le_of_ble_eq_true rfl) (k' := 28) (n' := 210) rfl rfl (Nat.le_of_ble_eq_true rfl) (Nat.le_of_ble_eq_true rfl) (Nat.le_of_ble_eq_true rfl) (flt_app2 _ _ _) dX5_init_82 dX5_init_85 dX5_init_86 (fun u99 => ?_)
  refine k_ast (pc := 89) C (i0 := 5) (ci := 7) (fun _ => rfl) rfl (by decide) rfl (by decide +kernel) (by decide +kernel) (iN := 6) (by decide +kernel) dX5_init_89 ?_
  refine k_inc (pc := 90) C (i := 1) (v := 7) (lv' := [(1, .int 7), (0, .ref h0)]) 0 rfl (by decide +kernel) (by decide) rfl dX5_init_90 ?_
  refine k_go (pc := 93) C (tgt := 71) dX5_init_93 rfl ?_
  refine k_ild (pc := 71) C (i := 1) (x := 7) 0 rfl rfl dX5_init_71 ?_
  refine k_bi (pc := 72) C (v := 9) dX5_init_72 (by decide +kernel) ?_
  refine k_gt0 (pc := 74) C 96 (by decide +kernel) dX5_init_74 rfl ?_
  refine k_al0 (pc := 77) C 1 rfl dX5_init_77 ?_
  refine k_get (pc := 78) C jnX5 rfl 2 (Nat.le_of_ble_eq_true rfl) (sg_w 352 (by decide +kernel) rfl) (v := .ref q12) rfl dX5_init_78 ?_
  refine k_ild (pc := 81) C (i := 1) (x := 7) 0 rfl rfl dX5_init_81 ?_
  refine k_obj3 (pc := 82) C (ini7 X.1) jnX7 tyX7 tyX7_ok (sg_w 343 (by decide +kernel) rfl) (sg_w 213 (by decide +kernel) rfl) (sg_w 5 (by decide +kernel) rfl) rfl (by decide +kernel) rfl (List.mem_of_getElem? (i := 9) rfl) (sg_w 216 (by decide +kernel) rfl) (sg_w 215 (by decide +kernel) rfl) rfl ⟨by decide, by decide, by decide +kernel⟩ (Nat.le_of_ble_eq_true rfl) (Nat.le_of_ble_eq_true rfl) (k' := 29) (n' := 213) rfl rfl (Nat.le_of_ble_eq_true rfl) (Nat.le_of_ble_eq_true rfl) (Nat.le_of_ble_eq_true rfl) (flt_app2 _ _ _) dX5_init_82 dX5_init_85 dX5_init_86 (fun u109 => ?_)
  refine k_ast (pc := 89) C (i0 := 5) (ci := 7) (fun _ => rfl) rfl (by decide) rfl (by decide +kernel) (by decide +kernel) (iN := 7) (by decide +kernel) dX5_init_89 ?_
  refine k_inc (pc := 90) C (i := 1) (v := 8) (lv' := [(1, .int 8), (0, .ref h0)]) 0 rfl (by decide +kernel) (by decide) rfl dX5_init_90 ?_
  refine k_go (pc := 93) C (tgt := 71) dX5_init_93 rfl ?_
  refine k_ild (pc := 71) C (i := 1) (x := 8) 0 rfl rfl dX5_init_71 ?_
  refine k_bi (pc := 72) C (v := 9) dX5_init_72 (by decide +kernel) ?_
  refine k_gt0 (pc := 74) C 96 (by decide +kernel) dX5_init_74 rfl ?_
  refine k_al0 (pc := 77) C 1 rfl dX5_init_77 ?_
  refine k_get (pc := 78) C jnX5 rfl 2 (Nat.le_of_ble_eq_true rfl) (sg_w 352 (by decide +kernel) rfl) (v := .ref q12) rfl dX5_init_78 ?_
  refine k_ild (pc := 81) C (i := 1) (x := 8) 0 rfl rfl dX5_init_81 ?_
  refine k_obj3 (pc := 82) C (ini7 X.1) jnX7 tyX7 tyX7_ok (sg_w 343 (by decide +kernel) rfl) (sg_w 213 (by decide +kernel) rfl) (sg_w 5 (by decide +kernel) rfl) rfl (by decide +kernel) rfl (List.mem_of_getElem? (i := 9) rfl) (sg_w 216 (by decide +kernel) rfl) (sg_w 215 (by decide +kernel) rfl) rfl ⟨by decide, by decide, by decide +kernel⟩ (Nat.le_of_ble_eq_true rfl) (Nat.le_of_ble_eq_true rfl) (k' := 30) (n' := 216) rfl rfl (Nat.le_of_ble_eq_true rfl) (Nat.le_of_ble_eq_true rfl) (Nat.le_of_ble_eq_true rfl) (flt_app2 _ _ _) dX5_init_82 dX5_init_85 dX5_init_86 (fun u119 => ?_)
  refine k_ast (pc := 89) C (i0 := 5) (ci := 7) (fun _ => rfl) rfl (by decide) rfl (by decide +kernel) (by decide +kernel) (iN := 8) (by decide +kernel) dX5_init_89 ?_
  refine k_inc (pc := 90) C (i := 1) (v := 9) (lv' := [(1, .int 9), (0, .ref h0)]) 0 rfl (by decide +kernel) (by decide) rfl dX5_init_90 ?_
  refine k_go (pc := 93) C (tgt := 71) dX5_init_93 rfl ?_
  refine k_ild (pc := 71) C (i := 1) (x := 9) 0 rfl rfl dX5_init_71 ?_
  refine k_bi (pc := 72) C (v := 9) dX5_init_72 (by decide +kernel) ?_
  refine k_gt0 (pc := 74) C 96 (by decide +kernel) dX5_init_74 rfl ?_
  refine k_al0 (pc := 77) C 1 rfl dX5_init_77 ?_
  refine k_get (pc := 78) C jnX5 rfl 2 (Nat.le_of_ble_eq_true rfl) (sg_w 352 (by decide +kernel) rfl) (v := .ref q12) rfl dX5_init_78 ?_
  refine k_ild (pc := 81) C (i := 1) (x := 9) 0 rfl rfl dX5_init_81 ?_
  refine k_obj3 (pc := 82) C (ini7 X.1) jnX7 tyX7 tyX7_ok (sg_w 343 (by decide +kernel) rfl) (sg_w 213 (by decide +kernel) rfl) (sg_w 5 (by decide +kernel) rfl) rfl (by decide +kernel) rfl (List.mem_of_getElem? (i := 9) rfl) (sg_w 216 (by decide +kernel) rfl) (sg_w 215 (by decide +kernel) rfl) rfl ⟨by decide, by decide, by decide +kernel⟩ (Nat.le_of_ble_eq_true rfl) (Nat.le_of_ble_eq_true rfl) (k' := 31) (n' := 219) rfl rfl (Nat.le_of_ble_eq_true rfl) (Nat.le_of_ble_eq_true rfl) (Nat.le_of_ble_eq_true rfl) (flt_app2 _ _ _) dX5_init_82 dX5_init_85 dX5_init_86 (fun u129 => ?_)
  refine k_ast (pc := 89) C (i0 := 5) (ci := 7) (fun _ => rfl) rfl (by decide) rfl (by decide +kernel) (by decide +kernel) (iN := 9) (by decide +kernel) dX5_init_89 ?_
  refine k_inc (pc := 90) C (i := 1) (v := 10) (lv' := [(1, .int 10), (0, .ref h0)]) 0 rfl (by decide +kernel) (by decide) rfl dX5_init_90 ?_
  refine k_go (pc := 93) C (tgt := 71) dX5_init_93 rfl ?_
  refine k_ild (pc := 71) C (i := 1) (x := 10) 0 rfl rfl dX5_init_71 ?_
  refine k_bi (pc := 72) C (v := 9) dX5_init_72 (by decide +kernel) ?_
  refine k_gt1 (pc := 74) C (tgt := 96) (by decide +kernel) dX5_init_74 rfl ?_
  exact k_ret2 (pc := 96) C E (S2 := [([15], [10], fun _ => q19), ([13], [10], fun _ => q23), (kl7, ll7, u26), (kl1, ll1, u29)]) (S3 := [(kl7, ll7, u39), (kl7, ll7, u49), (kl7, ll7, u59), (kl7, ll7, u69), (kl7, ll7, u79), (kl7, ll7, u89), (kl7, ll7, u99), (kl7, ll7, u109), (kl7, ll7, u119), (kl7, ll7, u129)]) (s1 := [([13], [9])]) (s2 := [([15], [10]), ([13], [10]), ([7], [0]), ([1, 14, 7, 13, 13, 19, 14, 14, 14, 14, 14, 14, 14, 14, 14, 13], [0, 9, 0, 9, 9, 9, 10, 10, 10, 10, 10, 10, 10, 10, 10, 9])]) (s3 := [([7], [0]), ([7], [0]), ([7], [0]), ([7], [0]), ([7], [0]), ([7], [0]), ([7], [0]), ([7], [0]), ([7], [0]), ([7], [0])]) (o := 2) rfl rfl rfl rfl (by decide +kernel) (by decide +kernel) (by decide +kernel) (by decide +kernel) rfl (by decide) rfl (by decide) rfl (by decide +kernel) rfl (fun j hj => by rcases (show j = 0 ∨ j = 1 ∨ j = 2 ∨ j = 3 ∨ j = 4 ∨ j = 5 ∨ j = 6 ∨ j = 7 ∨ j = 8 ∨ j = 9 by omega) with rfl | rfl | rfl | rfl | rfl | rfl | rfl | rfl | rfl | rfl <;> rfl) dX5_init_96
def kl8 : List Nat := [8, 13, 13, 13, 13, 7, 7, 1, 14, 7, 13, 13, 19, 14, 14, 14, 14, 14, 14, 14, 14, 14, 13]
def ll8 : List Nat := [0, 20, 3, 12, 12, 0, 0, 0, 9, 0, 9, 9, 9, 10, 10, 10, 10, 10, 10, 10, 10, 10, 9]
set_option maxRecDepth 100000 in
theorem ini8 (V : sg_V) : cn_ct V yX8_init cX8_init 1 8 3 22 200 kl8 ll8 := by
  refine cn_body (by decide) (by decide) rfl (fun X h0 hV C E => ?_)
  rw [show dfl 8 = [.int 0, .int 0, .null, .int 0, .null, .int 0, .null, .int 0, .int 0, .int 0, .null, .null, .null, .null] by decide +kernel]
  refine k_al0 (pc := 0) C 0 rfl dX8_init_0 ?_
  refine k_oin (pc := 1) C (sg_w 381 (by decide +kernel) rfl) (Nat.le_of_ble_eq_true rfl) dX8_init_1 ?_
  refine k_al0 (pc := 4) C 0 rfl dX8_init_4 ?_
  refine k_ic (pc := 5) C (v := 0) dX8_init_5 (by decide +kernel) ?_
  refine k_put (pc := 6) C jnX8 rfl 0 (Nat.le_of_ble_eq_true rfl) (sg_w 386 (by decide +kernel) rfl) tyX8 tyX8_ok nmX8 rfl (ty := .int) (by decide +kernel) rfl rfl (fs' := [.int 0, .int 0, .null, .int 0, .null, .int 0, .null, .int 0, .int 0, .int 0, .null, .null, .null, .null]) rfl (Nat.le_of_ble_eq_true rfl) dX8_init_6 ?_
  refine k_al0 (pc := 9) C 0 rfl dX8_init_9 ?_
  refine k_ic (pc := 10) C (v := 0) dX8_init_10 (by decide +kernel) ?_
  refine k_put (pc := 11) C jnX8 rfl 1 (Nat.le_of_ble_eq_true rfl) (sg_w 388 (by decide +kernel) rfl) tyX8 tyX8_ok nmX8 rfl (ty := .boolean) (by decide +kernel) rfl rfl (fs' := [.int 0, .int 0, .null, .int 0, .null, .int 0, .null, .int 0, .int 0, .int 0, .null, .null, .null, .null]) rfl (Nat.le_of_ble_eq_true rfl) dX8_init_11 ?_
  refine k_al0 (pc := 14) C 0 rfl dX8_init_14 ?_
  refine k_bi (pc := 15) C (v := 20) dX8_init_15 (by decide +kernel) ?_
  refine k_nI (pc := 17) C (N' := 20) (by decide +kernel) (by decide +kernel) (Nat.le_of_ble_eq_true rfl) (k' := 1) (n' := 20) rfl rfl (Nat.le_of_ble_eq_true rfl) (Nat.le_of_ble_eq_true rfl) (flt_app _) dX8_init_17 (fun q11 => ?_)
  refine k_putF (pc := 19) C jnX8 rfl 2 (Nat.le_of_ble_eq_true rfl) (sg_w 390 (by decide +kernel) rfl) tyX8 tyX8_ok nmX8 rfl rfl (ty := (.array .int)) (by decide +kernel) rfl rfl (fs' := [.int 0, .int 0, .ref q11, .int 0, .null, .int 0, .null, .int 0, .int 0, .int 0, .null, .null, .null, .null]) rfl (Nat.le_of_ble_eq_true rfl) dX8_init_19 ?_
  refine k_al0 (pc := 22) C 0 rfl dX8_init_22 ?_
  refine k_ic (pc := 23) C (v := (-1)) dX8_init_23 (by decide +kernel) ?_
  refine k_put (pc := 24) C jnX8 rfl 3 (Nat.le_of_ble_eq_true rfl) (sg_w 392 (by decide +kernel) rfl) tyX8 tyX8_ok nmX8 rfl (ty := .int) (by decide +kernel) rfl rfl (fs' := [.int 0, .int 0, .ref q11, .int (-1), .null, .int 0, .null, .int 0, .int 0, .int 0, .null, .null, .null, .null]) rfl (Nat.le_of_ble_eq_true rfl) dX8_init_24 ?_
  refine k_al0 (pc := 27) C 0 rfl dX8_init_27 ?_
  refine k_ic (pc := 28) C (v := 3) dX8_init_28 (by decide +kernel) ?_
  refine k_nI (pc := 29) C (N' := 3) (by decide +kernel) (by decide +kernel) (Nat.le_of_ble_eq_true rfl) (k' := 2) (n' := 23) rfl rfl (Nat.le_of_ble_eq_true rfl) (Nat.le_of_ble_eq_true rfl) (flt_app _) dX8_init_29 (fun q18 => ?_)
  refine k_putF (pc := 31) C jnX8 rfl 4 (Nat.le_of_ble_eq_true rfl) (sg_w 394 (by decide +kernel) rfl) tyX8 tyX8_ok nmX8 rfl rfl (ty := (.array .int)) (by decide +kernel) rfl rfl (fs' := [.int 0, .int 0, .ref q11, .int (-1), .ref q18, .int 0, .null, .int 0, .int 0, .int 0, .null, .null, .null, .null]) rfl (Nat.le_of_ble_eq_true rfl) dX8_init_31 ?_
  refine k_al0 (pc := 34) C 0 rfl dX8_init_34 ?_
  refine k_ic (pc := 35) C (v := (-1)) dX8_init_35 (by decide +kernel) ?_
  refine k_put (pc := 36) C jnX8 rfl 5 (Nat.le_of_ble_eq_true rfl) (sg_w 396 (by decide +kernel) rfl) tyX8 tyX8_ok nmX8 rfl (ty := .int) (by decide +kernel) rfl rfl (fs' := [.int 0, .int 0, .ref q11, .int (-1), .ref q18, .int (-1), .null, .int 0, .int 0, .int 0, .null, .null, .null, .null]) rfl (Nat.le_of_ble_eq_true rfl) dX8_init_36 ?_
  refine k_al0 (pc := 39) C 0 rfl dX8_init_39 ?_
  refine k_bi (pc := 40) C (v := 12) dX8_init_40 (by decide +kernel) ?_
  refine k_nI (pc := 42) C (N' := 12) (by decide +kernel) (by decide +kernel) (Nat.le_of_ble_eq_true rfl) (k' := 3) (n' := 35) rfl rfl (Nat.le_of_ble_eq_true rfl) (Nat.le_of_ble_eq_true rfl) (flt_app _) dX8_init_42 (fun q25 => ?_)
  refine k_putF (pc := 44) C jnX8 rfl 6 (Nat.le_of_ble_eq_true rfl) (sg_w 398 (by decide +kernel) rfl) tyX8 tyX8_ok nmX8 rfl rfl (ty := (.array .int)) (by decide +kernel) rfl rfl (fs' := [.int 0, .int 0, .ref q11, .int (-1), .ref q18, .int (-1), .ref q25, .int 0, .int 0, .int 0, .null, .null, .null, .null]) rfl (Nat.le_of_ble_eq_true rfl) dX8_init_44 ?_
  refine k_al0 (pc := 47) C 0 rfl dX8_init_47 ?_
  refine k_ic (pc := 48) C (v := 0) dX8_init_48 (by decide +kernel) ?_
  refine k_put (pc := 49) C jnX8 rfl 7 (Nat.le_of_ble_eq_true rfl) (sg_w 400 (by decide +kernel) rfl) tyX8 tyX8_ok nmX8 rfl (ty := .boolean) (by decide +kernel) rfl rfl (fs' := [.int 0, .int 0, .ref q11, .int (-1), .ref q18, .int (-1), .ref q25, .int 0, .int 0, .int 0, .null, .null, .null, .null]) rfl (Nat.le_of_ble_eq_true rfl) dX8_init_49 ?_
  refine k_al0 (pc := 52) C 0 rfl dX8_init_52 ?_
  refine k_ic (pc := 53) C (v := 0) dX8_init_53 (by decide +kernel) ?_
  refine k_put (pc := 54) C jnX8 rfl 8 (Nat.le_of_ble_eq_true rfl) (sg_w 401 (by decide +kernel) rfl) tyX8 tyX8_ok nmX8 rfl (ty := .boolean) (by decide +kernel) rfl rfl (fs' := [.int 0, .int 0, .ref q11, .int (-1), .ref q18, .int (-1), .ref q25, .int 0, .int 0, .int 0, .null, .null, .null, .null]) rfl (Nat.le_of_ble_eq_true rfl) dX8_init_54 ?_
  refine k_al0 (pc := 57) C 0 rfl dX8_init_57 ?_
  refine k_ic (pc := 58) C (v := 0) dX8_init_58 (by decide +kernel) ?_
  refine k_put (pc := 59) C jnX8 rfl 9 (Nat.le_of_ble_eq_true rfl) (sg_w 402 (by decide +kernel) rfl) tyX8 tyX8_ok nmX8 rfl (ty := .boolean) (by decide +kernel) rfl rfl (fs' := [.int 0, .int 0, .ref q11, .int (-1), .ref q18, .int (-1), .ref q25, .int 0, .int 0, .int 0, .null, .null, .null, .null]) rfl (Nat.le_of_ble_eq_true rfl) dX8_init_59 ?_
  refine k_al0 (pc := 62) C 0 rfl dX8_init_62 ?_
  refine k_bi (pc := 63) C (v := 12) dX8_init_63 (by decide +kernel) ?_
  refine k_nI (pc := 65) C (N' := 12) (by decide +kernel) (by decide +kernel) (Nat.le_of_ble_eq_true rfl) (k' := 4) (n' := 47) rfl rfl (Nat.le_of_ble_eq_true rfl) (Nat.le_of_ble_eq_true rfl) (flt_app _) dX8_init_65 (fun q38 => ?_)
  refine k_putF (pc := 67) C jnX8 rfl 10 (Nat.le_of_ble_eq_true rfl) (sg_w 403 (by decide +kernel) rfl) tyX8 tyX8_ok nmX8 rfl rfl (ty := (.array .int)) (by decide +kernel) rfl rfl (fs' := [.int 0, .int 0, .ref q11, .int (-1), .ref q18, .int (-1), .ref q25, .int 0, .int 0, .int 0, .ref q38, .null, .null, .null]) rfl (Nat.le_of_ble_eq_true rfl) dX8_init_67 ?_
  refine k_al0 (pc := 70) C 0 rfl dX8_init_70 ?_
  refine k_obj3 (pc := 71) C (ini7 X.1) jnX7 tyX7 tyX7_ok (sg_w 382 (by decide +kernel) rfl) (sg_w 213 (by decide +kernel) rfl) (sg_w 5 (by decide +kernel) rfl) rfl (by decide +kernel) rfl (List.mem_of_getElem? (i := 12) rfl) (sg_w 216 (by decide +kernel) rfl) (sg_w 215 (by decide +kernel) rfl) rfl ⟨by decide, by decide, by decide +kernel⟩ (Nat.le_of_ble_eq_true rfl) (Nat.le_of_ble_eq_true rfl) (k' := 5) (n' := 50) rfl rfl (Nat.le_of_ble_eq_true rfl) (Nat.le_of_ble_eq_true rfl) (Nat.le_of_ble_eq_true rfl) (flt_app _) dX8_init_71 dX8_init_74 dX8_init_75 (fun u41 => ?_)
  refine k_putF (pc := 78) C jnX8 rfl 11 (Nat.le_of_ble_eq_true rfl) (sg_w 404 (by decide +kernel) rfl) tyX8 tyX8_ok nmX8 rfl rfl (ty := (.object "SupplyGrid$Score")) (by decide +kernel) rfl rfl (fs' := [.int 0, .int 0, .ref q11, .int (-1), .ref q18, .int (-1), .ref q25, .int 0, .int 0, .int 0, .ref q38, .ref (u41 0), .null, .null]) rfl (Nat.le_of_ble_eq_true rfl) dX8_init_78 ?_
  refine k_al0 (pc := 81) C 0 rfl dX8_init_81 ?_
  refine k_obj3 (pc := 82) C (ini7 X.1) jnX7 tyX7 tyX7_ok (sg_w 382 (by decide +kernel) rfl) (sg_w 213 (by decide +kernel) rfl) (sg_w 5 (by decide +kernel) rfl) rfl (by decide +kernel) rfl (List.mem_of_getElem? (i := 12) rfl) (sg_w 216 (by decide +kernel) rfl) (sg_w 215 (by decide +kernel) rfl) rfl ⟨by decide, by decide, by decide +kernel⟩ (Nat.le_of_ble_eq_true rfl) (Nat.le_of_ble_eq_true rfl) (k' := 6) (n' := 53) rfl rfl (Nat.le_of_ble_eq_true rfl) (Nat.le_of_ble_eq_true rfl) (Nat.le_of_ble_eq_true rfl) (flt_app _) dX8_init_82 dX8_init_85 dX8_init_86 (fun u44 => ?_)
  refine k_putF (pc := 89) C jnX8 rfl 12 (Nat.le_of_ble_eq_true rfl) (sg_w 405 (by decide +kernel) rfl) tyX8 tyX8_ok nmX8 rfl rfl (ty := (.object "SupplyGrid$Score")) (by decide +kernel) rfl rfl (fs' := [.int 0, .int 0, .ref q11, .int (-1), .ref q18, .int (-1), .ref q25, .int 0, .int 0, .int 0, .ref q38, .ref (u41 0), .ref (u44 0), .null]) rfl (Nat.le_of_ble_eq_true rfl) dX8_init_89 ?_
  refine k_al0 (pc := 92) C 0 rfl dX8_init_92 ?_
  refine k_obj3 (pc := 93) C (ini1 X.1) jnX1 tyX1 tyX1_ok (sg_w 384 (by decide +kernel) rfl) (sg_w 207 (by decide +kernel) rfl) (sg_w 4 (by decide +kernel) rfl) rfl (by decide +kernel) rfl (List.mem_of_getElem? (i := 13) rfl) (sg_w 210 (by decide +kernel) rfl) (sg_w 209 (by decide +kernel) rfl) rfl ⟨by decide, by decide, by decide +kernel⟩ (Nat.le_of_ble_eq_true rfl) (Nat.le_of_ble_eq_true rfl) (k' := 22) (n' := 200) rfl rfl (Nat.le_of_ble_eq_true rfl) (Nat.le_of_ble_eq_true rfl) (Nat.le_of_ble_eq_true rfl) (flt_app _) dX8_init_93 dX8_init_96 dX8_init_97 (fun u47 => ?_)
  refine k_putF (pc := 100) C jnX8 rfl 13 (Nat.le_of_ble_eq_true rfl) (sg_w 406 (by decide +kernel) rfl) tyX8 tyX8_ok nmX8 rfl rfl (ty := (.object "SupplyGrid$Flow")) (by decide +kernel) rfl rfl (fs' := [.int 0, .int 0, .ref q11, .int (-1), .ref q18, .int (-1), .ref q25, .int 0, .int 0, .int 0, .ref q38, .ref (u41 0), .ref (u44 0), .ref (u47 0)]) rfl (Nat.le_of_ble_eq_true rfl) dX8_init_100 ?_
  exact k_ret (pc := 103) C E (sh := [([13], [20]), ([13], [3]), ([13], [12]), ([13], [12]), ([7], [0]), ([7], [0]), ([1, 14, 7, 13, 13, 19, 14, 14, 14, 14, 14, 14, 14, 14, 14, 13], [0, 9, 0, 9, 9, 9, 10, 10, 10, 10, 10, 10, 10, 10, 10, 9])]) rfl (by decide +kernel) rfl (by decide) (by decide +kernel) rfl dX8_init_103
def kl3 : List Nat := [3, 13, 13, 7, 1, 14, 7, 13, 13, 19, 14, 14, 14, 14, 14, 14, 14, 14, 14, 13]
def ll3 : List Nat := [0, 66, 12, 0, 0, 9, 0, 9, 9, 9, 10, 10, 10, 10, 10, 10, 10, 10, 10, 9]
set_option maxRecDepth 100000 in
theorem ini3 (V : sg_V) : cn_ct V yX3_init cX3_init 1 3 3 19 228 kl3 ll3 := by
  refine cn_body (by decide) (by decide) rfl (fun X h0 hV C E => ?_)
  rw [show dfl 3 = [.int 0, .int 0, .int 0, .null, .int 0, .int 0, .null, .null, .null] by decide +kernel]
  refine k_al0 (pc := 0) C 0 rfl dX3_init_0 ?_
  refine k_oin (pc := 1) C (sg_w 441 (by decide +kernel) rfl) (Nat.le_of_ble_eq_true rfl) dX3_init_1 ?_
  refine k_al0 (pc := 4) C 0 rfl dX3_init_4 ?_
  refine k_ic (pc := 5) C (v := (-1)) dX3_init_5 (by decide +kernel) ?_
  refine k_put (pc := 6) C jnX3 rfl 0 (Nat.le_of_ble_eq_true rfl) (sg_w 446 (by decide +kernel) rfl) tyX3 tyX3_ok nmX3 rfl (ty := .int) (by decide +kernel) rfl rfl (fs' := [.int (-1), .int 0, .int 0, .null, .int 0, .int 0, .null, .null, .null]) rfl (Nat.le_of_ble_eq_true rfl) dX3_init_6 ?_
  refine k_al0 (pc := 9) C 0 rfl dX3_init_9 ?_
  refine k_ic (pc := 10) C (v := 0) dX3_init_10 (by decide +kernel) ?_
  refine k_put (pc := 11) C jnX3 rfl 1 (Nat.le_of_ble_eq_true rfl) (sg_w 448 (by decide +kernel) rfl) tyX3 tyX3_ok nmX3 rfl (ty := .int) (by decide +kernel) rfl rfl (fs' := [.int (-1), .int 0, .int 0, .null, .int 0, .int 0, .null, .null, .null]) rfl (Nat.le_of_ble_eq_true rfl) dX3_init_11 ?_
  refine k_al0 (pc := 14) C 0 rfl dX3_init_14 ?_
  refine k_ic (pc := 15) C (v := 0) dX3_init_15 (by decide +kernel) ?_
  refine k_put (pc := 16) C jnX3 rfl 2 (Nat.le_of_ble_eq_true rfl) (sg_w 450 (by decide +kernel) rfl) tyX3 tyX3_ok nmX3 rfl (ty := .int) (by decide +kernel) rfl rfl (fs' := [.int (-1), .int 0, .int 0, .null, .int 0, .int 0, .null, .null, .null]) rfl (Nat.le_of_ble_eq_true rfl) dX3_init_16 ?_
  refine k_al0 (pc := 19) C 0 rfl dX3_init_19 ?_
  refine k_bi (pc := 20) C (v := 66) dX3_init_20 (by decide +kernel) ?_
  refine k_nI (pc := 22) C (N' := 66) (by decide +kernel) (by decide +kernel) (Nat.le_of_ble_eq_true rfl) (k' := 1) (n' := 66) rfl rfl (Nat.le_of_ble_eq_true rfl) (Nat.le_of_ble_eq_true rfl) (flt_app _) dX3_init_22 (fun q14 => ?_)
  refine k_putF (pc := 24) C jnX3 rfl 3 (Nat.le_of_ble_eq_true rfl) (sg_w 452 (by decide +kernel) rfl) tyX3 tyX3_ok nmX3 rfl rfl (ty := (.array .int)) (by decide +kernel) rfl rfl (fs' := [.int (-1), .int 0, .int 0, .ref q14, .int 0, .int 0, .null, .null, .null]) rfl (Nat.le_of_ble_eq_true rfl) dX3_init_24 ?_
  refine k_al0 (pc := 27) C 0 rfl dX3_init_27 ?_
  refine k_ic (pc := 28) C (v := 0) dX3_init_28 (by decide +kernel) ?_
  refine k_put (pc := 29) C jnX3 rfl 4 (Nat.le_of_ble_eq_true rfl) (sg_w 454 (by decide +kernel) rfl) tyX3 tyX3_ok nmX3 rfl (ty := .boolean) (by decide +kernel) rfl rfl (fs' := [.int (-1), .int 0, .int 0, .ref q14, .int 0, .int 0, .null, .null, .null]) rfl (Nat.le_of_ble_eq_true rfl) dX3_init_29 ?_
  refine k_al0 (pc := 32) C 0 rfl dX3_init_32 ?_
  refine k_ic (pc := 33) C (v := 0) dX3_init_33 (by decide +kernel) ?_
  refine k_put (pc := 34) C jnX3 rfl 5 (Nat.le_of_ble_eq_true rfl) (sg_w 455 (by decide +kernel) rfl) tyX3 tyX3_ok nmX3 rfl (ty := .boolean) (by decide +kernel) rfl rfl (fs' := [.int (-1), .int 0, .int 0, .ref q14, .int 0, .int 0, .null, .null, .null]) rfl (Nat.le_of_ble_eq_true rfl) dX3_init_34 ?_
  refine k_al0 (pc := 37) C 0 rfl dX3_init_37 ?_
  refine k_bi (pc := 38) C (v := 12) dX3_init_38 (by decide +kernel) ?_
  refine k_nI (pc := 40) C (N' := 12) (by decide +kernel) (by decide +kernel) (Nat.le_of_ble_eq_true rfl) (k' := 2) (n' := 78) rfl rfl (Nat.le_of_ble_eq_true rfl) (Nat.le_of_ble_eq_true rfl) (flt_app _) dX3_init_40 (fun q24 => ?_)
  refine k_putF (pc := 42) C jnX3 rfl 6 (Nat.le_of_ble_eq_true rfl) (sg_w 456 (by decide +kernel) rfl) tyX3 tyX3_ok nmX3 rfl rfl (ty := (.array .int)) (by decide +kernel) rfl rfl (fs' := [.int (-1), .int 0, .int 0, .ref q14, .int 0, .int 0, .ref q24, .null, .null]) rfl (Nat.le_of_ble_eq_true rfl) dX3_init_42 ?_
  refine k_al0 (pc := 45) C 0 rfl dX3_init_45 ?_
  refine k_obj3 (pc := 46) C (ini7 X.1) jnX7 tyX7 tyX7_ok (sg_w 442 (by decide +kernel) rfl) (sg_w 213 (by decide +kernel) rfl) (sg_w 5 (by decide +kernel) rfl) rfl (by decide +kernel) rfl (List.mem_of_getElem? (i := 15) rfl) (sg_w 216 (by decide +kernel) rfl) (sg_w 215 (by decide +kernel) rfl) rfl ⟨by decide, by decide, by decide +kernel⟩ (Nat.le_of_ble_eq_true rfl) (Nat.le_of_ble_eq_true rfl) (k' := 3) (n' := 81) rfl rfl (Nat.le_of_ble_eq_true rfl) (Nat.le_of_ble_eq_true rfl) (Nat.le_of_ble_eq_true rfl) (flt_app _) dX3_init_46 dX3_init_49 dX3_init_50 (fun u27 => ?_)
  refine k_putF (pc := 53) C jnX3 rfl 7 (Nat.le_of_ble_eq_true rfl) (sg_w 457 (by decide +kernel) rfl) tyX3 tyX3_ok nmX3 rfl rfl (ty := (.object "SupplyGrid$Score")) (by decide +kernel) rfl rfl (fs' := [.int (-1), .int 0, .int 0, .ref q14, .int 0, .int 0, .ref q24, .ref (u27 0), .null]) rfl (Nat.le_of_ble_eq_true rfl) dX3_init_53 ?_
  refine k_al0 (pc := 56) C 0 rfl dX3_init_56 ?_
  refine k_obj3 (pc := 57) C (ini1 X.1) jnX1 tyX1 tyX1_ok (sg_w 444 (by decide +kernel) rfl) (sg_w 207 (by decide +kernel) rfl) (sg_w 4 (by decide +kernel) rfl) rfl (by decide +kernel) rfl (List.mem_of_getElem? (i := 16) rfl) (sg_w 210 (by decide +kernel) rfl) (sg_w 209 (by decide +kernel) rfl) rfl ⟨by decide, by decide, by decide +kernel⟩ (Nat.le_of_ble_eq_true rfl) (Nat.le_of_ble_eq_true rfl) (k' := 19) (n' := 228) rfl rfl (Nat.le_of_ble_eq_true rfl) (Nat.le_of_ble_eq_true rfl) (Nat.le_of_ble_eq_true rfl) (flt_app _) dX3_init_57 dX3_init_60 dX3_init_61 (fun u30 => ?_)
  refine k_putF (pc := 64) C jnX3 rfl 8 (Nat.le_of_ble_eq_true rfl) (sg_w 458 (by decide +kernel) rfl) tyX3 tyX3_ok nmX3 rfl rfl (ty := (.object "SupplyGrid$Flow")) (by decide +kernel) rfl rfl (fs' := [.int (-1), .int 0, .int 0, .ref q14, .int 0, .int 0, .ref q24, .ref (u27 0), .ref (u30 0)]) rfl (Nat.le_of_ble_eq_true rfl) dX3_init_64 ?_
  exact k_ret (pc := 67) C E (sh := [([13], [66]), ([13], [12]), ([7], [0]), ([1, 14, 7, 13, 13, 19, 14, 14, 14, 14, 14, 14, 14, 14, 14, 13], [0, 9, 0, 9, 9, 9, 10, 10, 10, 10, 10, 10, 10, 10, 10, 9])]) rfl (by decide +kernel) rfl (by decide) (by decide +kernel) rfl dX3_init_67
def kl2 : List Nat := [2, 7, 13, 1, 14, 7, 13, 13, 19, 14, 14, 14, 14, 14, 14, 14, 14, 14, 13]
def ll2 : List Nat := [0, 0, 9, 0, 9, 0, 9, 9, 9, 10, 10, 10, 10, 10, 10, 10, 10, 10, 9]
set_option maxRecDepth 100000 in
theorem ini2 (V : sg_V) : cn_ct V yX2_init cX2_init 1 2 3 18 159 kl2 ll2 := by
  refine cn_body (by decide) (by decide) rfl (fun X h0 hV C E => ?_)
  rw [show dfl 2 = [.int 0, .null, .long 0, .null, .null] by decide +kernel]
  refine k_al0 (pc := 0) C 0 rfl dX2_init_0 ?_
  refine k_oin (pc := 1) C (sg_w 484 (by decide +kernel) rfl) (Nat.le_of_ble_eq_true rfl) dX2_init_1 ?_
  refine k_al0 (pc := 4) C 0 rfl dX2_init_4 ?_
  refine k_ic (pc := 5) C (v := 0) dX2_init_5 (by decide +kernel) ?_
  refine k_put (pc := 6) C jnX2 rfl 0 (Nat.le_of_ble_eq_true rfl) (sg_w 489 (by decide +kernel) rfl) tyX2 tyX2_ok nmX2 rfl (ty := .int) (by decide +kernel) rfl rfl (fs' := [.int 0, .null, .long 0, .null, .null]) rfl (Nat.le_of_ble_eq_true rfl) dX2_init_6 ?_
  refine k_al0 (pc := 9) C 0 rfl dX2_init_9 ?_
  refine k_obj3 (pc := 10) C (ini7 X.1) jnX7 tyX7 tyX7_ok (sg_w 485 (by decide +kernel) rfl) (sg_w 213 (by decide +kernel) rfl) (sg_w 5 (by decide +kernel) rfl) rfl (by decide +kernel) rfl (List.mem_of_getElem? (i := 18) rfl) (sg_w 216 (by decide +kernel) rfl) (sg_w 215 (by decide +kernel) rfl) rfl ⟨by decide, by decide, by decide +kernel⟩ (Nat.le_of_ble_eq_true rfl) (Nat.le_of_ble_eq_true rfl) (k' := 1) (n' := 3) rfl rfl (Nat.le_of_ble_eq_true rfl) (Nat.le_of_ble_eq_true rfl) (Nat.le_of_ble_eq_true rfl) (flt_app _) dX2_init_10 dX2_init_13 dX2_init_14 (fun u7 => ?_)
  refine k_putF (pc := 17) C jnX2 rfl 1 (Nat.le_of_ble_eq_true rfl) (sg_w 491 (by decide +kernel) rfl) tyX2 tyX2_ok nmX2 rfl rfl (ty := (.object "SupplyGrid$Score")) (by decide +kernel) rfl rfl (fs' := [.int 0, .ref (u7 0), .long 0, .null, .null]) rfl (Nat.le_of_ble_eq_true rfl) dX2_init_17 ?_
  refine k_al0 (pc := 20) C 0 rfl dX2_init_20 ?_
  refine k_lc (pc := 21) C (v := 0) dX2_init_21 (by decide +kernel) ?_
  refine k_put (pc := 22) C jnX2 rfl 2 (Nat.le_of_ble_eq_true rfl) (sg_w 493 (by decide +kernel) rfl) tyX2 tyX2_ok nmX2 rfl (ty := .long) (by decide +kernel) rfl rfl (fs' := [.int 0, .ref (u7 0), .long 0, .null, .null]) rfl (Nat.le_of_ble_eq_true rfl) dX2_init_22 ?_
  refine k_al0 (pc := 25) C 0 rfl dX2_init_25 ?_
  refine k_bi (pc := 26) C (v := 9) dX2_init_26 (by decide +kernel) ?_
  refine k_nI (pc := 28) C (N' := 9) (by decide +kernel) (by decide +kernel) (Nat.le_of_ble_eq_true rfl) (k' := 2) (n' := 12) rfl rfl (Nat.le_of_ble_eq_true rfl) (Nat.le_of_ble_eq_true rfl) (flt_app _) dX2_init_28 (fun q14 => ?_)
  refine k_putF (pc := 30) C jnX2 rfl 3 (Nat.le_of_ble_eq_true rfl) (sg_w 494 (by decide +kernel) rfl) tyX2 tyX2_ok nmX2 rfl rfl (ty := (.array .int)) (by decide +kernel) rfl rfl (fs' := [.int 0, .ref (u7 0), .long 0, .ref q14, .null]) rfl (Nat.le_of_ble_eq_true rfl) dX2_init_30 ?_
  refine k_al0 (pc := 33) C 0 rfl dX2_init_33 ?_
  refine k_obj3 (pc := 34) C (ini1 X.1) jnX1 tyX1 tyX1_ok (sg_w 487 (by decide +kernel) rfl) (sg_w 207 (by decide +kernel) rfl) (sg_w 4 (by decide +kernel) rfl) rfl (by decide +kernel) rfl (List.mem_of_getElem? (i := 19) rfl) (sg_w 210 (by decide +kernel) rfl) (sg_w 209 (by decide +kernel) rfl) rfl ⟨by decide, by decide, by decide +kernel⟩ (Nat.le_of_ble_eq_true rfl) (Nat.le_of_ble_eq_true rfl) (k' := 18) (n' := 159) rfl rfl (Nat.le_of_ble_eq_true rfl) (Nat.le_of_ble_eq_true rfl) (Nat.le_of_ble_eq_true rfl) (flt_app _) dX2_init_34 dX2_init_37 dX2_init_38 (fun u17 => ?_)
  refine k_putF (pc := 41) C jnX2 rfl 4 (Nat.le_of_ble_eq_true rfl) (sg_w 495 (by decide +kernel) rfl) tyX2 tyX2_ok nmX2 rfl rfl (ty := (.object "SupplyGrid$Flow")) (by decide +kernel) rfl rfl (fs' := [.int 0, .ref (u7 0), .long 0, .ref q14, .ref (u17 0)]) rfl (Nat.le_of_ble_eq_true rfl) dX2_init_41 ?_
  exact k_ret (pc := 44) C E (sh := [([7], [0]), ([13], [9]), ([1, 14, 7, 13, 13, 19, 14, 14, 14, 14, 14, 14, 14, 14, 14, 13], [0, 9, 0, 9, 9, 9, 10, 10, 10, 10, 10, 10, 10, 10, 10, 9])]) rfl (by decide +kernel) rfl (by decide) (by decide +kernel) rfl dX2_init_44
set_option maxRecDepth 100000 in
theorem ini10 (V : sg_V) : cn_ct V yX10_init cX10_init 2 10 4 266 3489 sg_kc sg_lc := by
  refine cn_body (by decide) (by decide) rfl (fun X h0 hV C E => ?_)
  rw [show dfl 10 = [.null, .null, .null, .null, .null, .int 0, .null, .null, .null, .null, .null, .null, .null] by decide +kernel]
  refine k_al0 (pc := 0) C 0 rfl dX10_init_0 ?_
  refine k_oin (pc := 1) C (sg_w 26 (by decide +kernel) rfl) (Nat.le_of_ble_eq_true rfl) dX10_init_1 ?_
  refine k_al0 (pc := 4) C 0 rfl dX10_init_4 ?_
  refine k_obj3 (pc := 5) C (ini6 X.1) jnX6 tyX6 tyX6_ok (sg_w 29 (by decide +kernel) rfl) (sg_w 30 (by decide +kernel) rfl) (sg_w 2 (by decide +kernel) rfl) rfl (by decide +kernel) rfl (List.mem_of_getElem? (i := 0) rfl) (sg_w 33 (by decide +kernel) rfl) (sg_w 32 (by decide +kernel) rfl) rfl ⟨by decide, by decide, by decide +kernel⟩ (Nat.le_of_ble_eq_true rfl) (Nat.le_of_ble_eq_true rfl) (k' := 12) (n' := 849) rfl rfl (Nat.le_of_ble_eq_true rfl) (Nat.le_of_ble_eq_true rfl) (Nat.le_of_ble_eq_true rfl) (flt_app _) dX10_init_5 dX10_init_8 dX10_init_9 (fun u4 => ?_)
  refine k_putF (pc := 12) C jnX10 rfl 0 (Nat.le_of_ble_eq_true rfl) (sg_w 507 (by decide +kernel) rfl) tyX10 tyX10_ok nmX10 rfl rfl (ty := (.object "SupplyGrid$Reader")) (by decide +kernel) rfl rfl (fs' := [.ref (u4 0), .null, .null, .null, .null, .int 0, .null, .null, .null, .null, .null, .null, .null]) rfl (Nat.le_of_ble_eq_true rfl) dX10_init_12 ?_
  refine k_al0 (pc := 15) C 0 rfl dX10_init_15 ?_
  refine k_obj3 (pc := 16) C (ini4 X.1) jnX4 tyX4 tyX4_ok (sg_w 203 (by decide +kernel) rfl) (sg_w 36 (by decide +kernel) rfl) (sg_w 3 (by decide +kernel) rfl) rfl (by decide +kernel) rfl (List.mem_of_getElem? (i := 2) rfl) (sg_w 39 (by decide +kernel) rfl) (sg_w 38 (by decide +kernel) rfl) rfl ⟨by decide, by decide, by decide +kernel⟩ (Nat.le_of_ble_eq_true rfl) (Nat.le_of_ble_eq_true rfl) (k' := 22) (n' := 985) rfl rfl (Nat.le_of_ble_eq_true rfl) (Nat.le_of_ble_eq_true rfl) (Nat.le_of_ble_eq_true rfl) (flt_app _) dX10_init_16 dX10_init_19 dX10_init_20 (fun u7 => ?_)
  refine k_putF (pc := 23) C jnX10 rfl 1 (Nat.le_of_ble_eq_true rfl) (sg_w 508 (by decide +kernel) rfl) tyX10 tyX10_ok nmX10 rfl rfl (ty := (.object "SupplyGrid$Net")) (by decide +kernel) rfl rfl (fs' := [.ref (u4 0), .ref (u7 0), .null, .null, .null, .int 0, .null, .null, .null, .null, .null, .null, .null]) rfl (Nat.le_of_ble_eq_true rfl) dX10_init_23 ?_
  refine k_al0 (pc := 26) C 0 rfl dX10_init_26 ?_
  refine k_ic (pc := 27) C (v := 3) dX10_init_27 (by decide +kernel) ?_
  refine k_anw (pc := 28) C (i0 := 4) (t := 16) (N' := 3) (cn := "SupplyGrid$Net") (sg_w 203 (by decide +kernel) rfl) (List.mem_of_getElem? (i := 0) rfl) (fun _ => rfl) (by decide +kernel) (by decide +kernel) (Nat.le_of_ble_eq_true rfl) (k' := 23) (n' := 988) rfl rfl (Nat.le_of_ble_eq_true rfl) (Nat.le_of_ble_eq_true rfl) dX10_init_28 (fun q11 => ?_)
  refine k_putF (pc := 31) C jnX10 rfl 2 (Nat.le_of_ble_eq_true rfl) (sg_w 509 (by decide +kernel) rfl) tyX10 tyX10_ok nmX10 rfl rfl (ty := (.array (.object "SupplyGrid$Net"))) (by decide +kernel) rfl rfl (fs' := [.ref (u4 0), .ref (u7 0), .ref q11, .null, .null, .int 0, .null, .null, .null, .null, .null, .null, .null]) rfl (Nat.le_of_ble_eq_true rfl) dX10_init_31 ?_
  refine k_al0 (pc := 34) C 0 rfl dX10_init_34 ?_
  refine k_ic (pc := 35) C (v := 3) dX10_init_35 (by decide +kernel) ?_
  refine k_nZ (pc := 36) C (N' := 3) (by decide +kernel) (by decide +kernel) (Nat.le_of_ble_eq_true rfl) (k' := 24) (n' := 991) rfl rfl (Nat.le_of_ble_eq_true rfl) (Nat.le_of_ble_eq_true rfl) (flt_app2 _ _ _) dX10_init_36 (fun q15 => ?_)
  refine k_putF (pc := 38) C jnX10 rfl 3 (Nat.le_of_ble_eq_true rfl) (sg_w 510 (by decide +kernel) rfl) tyX10 tyX10_ok nmX10 rfl rfl (ty := (.array .boolean)) (by decide +kernel) rfl rfl (fs' := [.ref (u4 0), .ref (u7 0), .ref q11, .ref q15, .null, .int 0, .null, .null, .null, .null, .null, .null, .null]) rfl (Nat.le_of_ble_eq_true rfl) dX10_init_38 ?_
  refine k_al0 (pc := 41) C 0 rfl dX10_init_41 ?_
  refine k_obj3 (pc := 42) C (ini1 X.1) jnX1 tyX1 tyX1_ok (sg_w 206 (by decide +kernel) rfl) (sg_w 207 (by decide +kernel) rfl) (sg_w 4 (by decide +kernel) rfl) rfl (by decide +kernel) rfl (List.mem_of_getElem? (i := 3) rfl) (sg_w 210 (by decide +kernel) rfl) (sg_w 209 (by decide +kernel) rfl) rfl ⟨by decide, by decide, by decide +kernel⟩ (Nat.le_of_ble_eq_true rfl) (Nat.le_of_ble_eq_true rfl) (k' := 40) (n' := 1138) rfl rfl (Nat.le_of_ble_eq_true rfl) (Nat.le_of_ble_eq_true rfl) (Nat.le_of_ble_eq_true rfl) (flt_app2 _ _ _) dX10_init_42 dX10_init_45 dX10_init_46 (fun u18 => ?_)
  refine k_putF (pc := 49) C jnX10 rfl 4 (Nat.le_of_ble_eq_true rfl) (sg_w 511 (by decide +kernel) rfl) tyX10 tyX10_ok nmX10 rfl rfl (ty := (.object "SupplyGrid$Flow")) (by decide +kernel) rfl rfl (fs' := [.ref (u4 0), .ref (u7 0), .ref q11, .ref q15, .ref (u18 0), .int 0, .null, .null, .null, .null, .null, .null, .null]) rfl (Nat.le_of_ble_eq_true rfl) dX10_init_49 ?_
  refine k_al0 (pc := 52) C 0 rfl dX10_init_52 ?_
  refine k_ic (pc := 53) C (v := 0) dX10_init_53 (by decide +kernel) ?_
  refine k_put (pc := 54) C jnX10 rfl 5 (Nat.le_of_ble_eq_true rfl) (sg_w 512 (by decide +kernel) rfl) tyX10 tyX10_ok nmX10 rfl (ty := .boolean) (by decide +kernel) rfl rfl (fs' := [.ref (u4 0), .ref (u7 0), .ref q11, .ref q15, .ref (u18 0), .int 0, .null, .null, .null, .null, .null, .null, .null]) rfl (Nat.le_of_ble_eq_true rfl) dX10_init_54 ?_
  refine k_al0 (pc := 57) C 0 rfl dX10_init_57 ?_
  refine k_obj3 (pc := 58) C (ini1 X.1) jnX1 tyX1 tyX1_ok (sg_w 206 (by decide +kernel) rfl) (sg_w 207 (by decide +kernel) rfl) (sg_w 4 (by decide +kernel) rfl) rfl (by decide +kernel) rfl (List.mem_of_getElem? (i := 3) rfl) (sg_w 210 (by decide +kernel) rfl) (sg_w 209 (by decide +kernel) rfl) rfl ⟨by decide, by decide, by decide +kernel⟩ (Nat.le_of_ble_eq_true rfl) (Nat.le_of_ble_eq_true rfl) (k' := 56) (n' := 1285) rfl rfl (Nat.le_of_ble_eq_true rfl) (Nat.le_of_ble_eq_true rfl) (Nat.le_of_ble_eq_true rfl) (flt_app2 _ _ _) dX10_init_58 dX10_init_61 dX10_init_62 (fun u24 => ?_)
  refine k_putF (pc := 65) C jnX10 rfl 6 (Nat.le_of_ble_eq_true rfl) (sg_w 513 (by decide +kernel) rfl) tyX10 tyX10_ok nmX10 rfl rfl (ty := (.object "SupplyGrid$Flow")) (by decide +kernel) rfl rfl (fs' := [.ref (u4 0), .ref (u7 0), .ref q11, .ref q15, .ref (u18 0), .int 0, .ref (u24 0), .null, .null, .null, .null, .null, .null]) rfl (Nat.le_of_ble_eq_true rfl) dX10_init_65 ?_
  refine k_al0 (pc := 68) C 0 rfl dX10_init_68 ?_
  refine k_obj3 (pc := 69) C (ini0 X.1) jnX0 tyX0 tyX0_ok (sg_w 279 (by decide +kernel) rfl) (sg_w 280 (by decide +kernel) rfl) (sg_w 6 (by decide +kernel) rfl) rfl (by decide +kernel) rfl (List.mem_of_getElem? (i := 5) rfl) (sg_w 283 (by decide +kernel) rfl) (sg_w 282 (by decide +kernel) rfl) rfl ⟨by decide, by decide, by decide +kernel⟩ (Nat.le_of_ble_eq_true rfl) (Nat.le_of_ble_eq_true rfl) (k' := 75) (n' := 1450) rfl rfl (Nat.le_of_ble_eq_true rfl) (Nat.le_of_ble_eq_true rfl) (Nat.le_of_ble_eq_true rfl) (flt_app2 _ _ _) dX10_init_69 dX10_init_72 dX10_init_73 (fun u27 => ?_)
  refine k_putF (pc := 76) C jnX10 rfl 7 (Nat.le_of_ble_eq_true rfl) (sg_w 514 (by decide +kernel) rfl) tyX10 tyX10_ok nmX10 rfl rfl (ty := (.object "SupplyGrid$Bounded")) (by decide +kernel) rfl rfl (fs' := [.ref (u4 0), .ref (u7 0), .ref q11, .ref q15, .ref (u18 0), .int 0, .ref (u24 0), .ref (u27 0), .null, .null, .null, .null, .null]) rfl (Nat.le_of_ble_eq_true rfl) dX10_init_76 ?_
  refine k_al0 (pc := 79) C 0 rfl dX10_init_79 ?_
  refine k_obj3 (pc := 80) C (ini9 X.1) jnX9 tyX9 tyX9_ok (sg_w 307 (by decide +kernel) rfl) (sg_w 308 (by decide +kernel) rfl) (sg_w 7 (by decide +kernel) rfl) rfl (by decide +kernel) rfl (List.mem_of_getElem? (i := 7) rfl) (sg_w 311 (by decide +kernel) rfl) (sg_w 310 (by decide +kernel) rfl) rfl ⟨by decide, by decide, by decide +kernel⟩ (Nat.le_of_ble_eq_true rfl) (Nat.le_of_ble_eq_true rfl) (k' := 142) (n' := 2239) rfl rfl (Nat.le_of_ble_eq_true rfl) (Nat.le_of_ble_eq_true rfl) (Nat.le_of_ble_eq_true rfl) (flt_app2 _ _ _) dX10_init_80 dX10_init_83 dX10_init_84 (fun u30 => ?_)
  refine k_putF (pc := 87) C jnX10 rfl 8 (Nat.le_of_ble_eq_true rfl) (sg_w 515 (by decide +kernel) rfl) tyX10 tyX10_ok nmX10 rfl rfl (ty := (.object "SupplyGrid$Years")) (by decide +kernel) rfl rfl (fs' := [.ref (u4 0), .ref (u7 0), .ref q11, .ref q15, .ref (u18 0), .int 0, .ref (u24 0), .ref (u27 0), .ref (u30 0), .null, .null, .null, .null]) rfl (Nat.le_of_ble_eq_true rfl) dX10_init_87 ?_
  refine k_al0 (pc := 90) C 0 rfl dX10_init_90 ?_
  refine k_obj4 (pc := 91) C (ini5 X.1) jnX5 tyX5 tyX5_ok (sg_w 337 (by decide +kernel) rfl) (sg_w 338 (by decide +kernel) rfl) (sg_w 8 (by decide +kernel) rfl) rfl (by decide +kernel) rfl (sg_w 339 (by decide +kernel) rfl) (sg_w 341 (by decide +kernel) rfl) (sg_w 340 (by decide +kernel) rfl) rfl ⟨by decide, by decide, by decide +kernel⟩ (Nat.le_of_ble_eq_true rfl) (Nat.le_of_ble_eq_true rfl) (k' := 174) (n' := 2466) rfl rfl (Nat.le_of_ble_eq_true rfl) (Nat.le_of_ble_eq_true rfl) (Nat.le_of_ble_eq_true rfl) (flt_app2 _ _ _) dX10_init_91 dX10_init_94 dX10_init_95 (fun u33 => ?_)
  refine k_putF (pc := 98) C jnX10 rfl 9 (Nat.le_of_ble_eq_true rfl) (sg_w 516 (by decide +kernel) rfl) tyX10 tyX10_ok nmX10 rfl rfl (ty := (.object "SupplyGrid$PadSearch")) (by decide +kernel) rfl rfl (fs' := [.ref (u4 0), .ref (u7 0), .ref q11, .ref q15, .ref (u18 0), .int 0, .ref (u24 0), .ref (u27 0), .ref (u30 0), .ref (u33 0), .null, .null, .null]) rfl (Nat.le_of_ble_eq_true rfl) dX10_init_98 ?_
  refine k_al0 (pc := 101) C 0 rfl dX10_init_101 ?_
  refine k_obj3 (pc := 102) C (ini8 X.1) jnX8 tyX8 tyX8_ok (sg_w 376 (by decide +kernel) rfl) (sg_w 377 (by decide +kernel) rfl) (sg_w 9 (by decide +kernel) rfl) rfl (by decide +kernel) rfl (List.mem_of_getElem? (i := 11) rfl) (sg_w 380 (by decide +kernel) rfl) (sg_w 379 (by decide +kernel) rfl) rfl ⟨by decide, by decide, by decide +kernel⟩ (Nat.le_of_ble_eq_true rfl) (Nat.le_of_ble_eq_true rfl) (k' := 197) (n' := 2680) rfl rfl (Nat.le_of_ble_eq_true rfl) (Nat.le_of_ble_eq_true rfl) (Nat.le_of_ble_eq_true rfl) (flt_app2 _ _ _) dX10_init_102 dX10_init_105 dX10_init_106 (fun u36 => ?_)
  refine k_putF (pc := 109) C jnX10 rfl 10 (Nat.le_of_ble_eq_true rfl) (sg_w 517 (by decide +kernel) rfl) tyX10 tyX10_ok nmX10 rfl rfl (ty := (.object "SupplyGrid$StrapSearch")) (by decide +kernel) rfl rfl (fs' := [.ref (u4 0), .ref (u7 0), .ref q11, .ref q15, .ref (u18 0), .int 0, .ref (u24 0), .ref (u27 0), .ref (u30 0), .ref (u33 0), .ref (u36 0), .null, .null]) rfl (Nat.le_of_ble_eq_true rfl) dX10_init_109 ?_
  refine k_al0 (pc := 112) C 0 rfl dX10_init_112 ?_
  refine k_obj3 (pc := 113) C (ini3 X.1) jnX3 tyX3 tyX3_ok (sg_w 436 (by decide +kernel) rfl) (sg_w 437 (by decide +kernel) rfl) (sg_w 10 (by decide +kernel) rfl) rfl (by decide +kernel) rfl (List.mem_of_getElem? (i := 14) rfl) (sg_w 440 (by decide +kernel) rfl) (sg_w 439 (by decide +kernel) rfl) rfl ⟨by decide, by decide, by decide +kernel⟩ (Nat.le_of_ble_eq_true rfl) (Nat.le_of_ble_eq_true rfl) (k' := 217) (n' := 2917) rfl rfl (Nat.le_of_ble_eq_true rfl) (Nat.le_of_ble_eq_true rfl) (Nat.le_of_ble_eq_true rfl) (flt_app2 _ _ _) dX10_init_113 dX10_init_116 dX10_init_117 (fun u39 => ?_)
  refine k_putF (pc := 120) C jnX10 rfl 11 (Nat.le_of_ble_eq_true rfl) (sg_w 518 (by decide +kernel) rfl) tyX10 tyX10_ok nmX10 rfl rfl (ty := (.object "SupplyGrid$LossSearch")) (by decide +kernel) rfl rfl (fs' := [.ref (u4 0), .ref (u7 0), .ref q11, .ref q15, .ref (u18 0), .int 0, .ref (u24 0), .ref (u27 0), .ref (u30 0), .ref (u33 0), .ref (u36 0), .ref (u39 0), .null]) rfl (Nat.le_of_ble_eq_true rfl) dX10_init_120 ?_
  refine k_al0 (pc := 123) C 0 rfl dX10_init_123 ?_
  refine k_obj3 (pc := 124) C (ini2 X.1) jnX2 tyX2 tyX2_ok (sg_w 479 (by decide +kernel) rfl) (sg_w 480 (by decide +kernel) rfl) (sg_w 11 (by decide +kernel) rfl) rfl (by decide +kernel) rfl (List.mem_of_getElem? (i := 17) rfl) (sg_w 483 (by decide +kernel) rfl) (sg_w 482 (by decide +kernel) rfl) rfl ⟨by decide, by decide, by decide +kernel⟩ (Nat.le_of_ble_eq_true rfl) (Nat.le_of_ble_eq_true rfl) (k' := 236) (n' := 3081) rfl rfl (Nat.le_of_ble_eq_true rfl) (Nat.le_of_ble_eq_true rfl) (Nat.le_of_ble_eq_true rfl) (flt_app2 _ _ _) dX10_init_124 dX10_init_127 dX10_init_128 (fun u42 => ?_)
  refine k_putF (pc := 131) C jnX10 rfl 12 (Nat.le_of_ble_eq_true rfl) (sg_w 519 (by decide +kernel) rfl) tyX10 tyX10_ok nmX10 rfl rfl (ty := (.object "SupplyGrid$LoadTrials")) (by decide +kernel) rfl rfl (fs' := [.ref (u4 0), .ref (u7 0), .ref q11, .ref q15, .ref (u18 0), .int 0, .ref (u24 0), .ref (u27 0), .ref (u30 0), .ref (u33 0), .ref (u36 0), .ref (u39 0), .ref (u42 0)]) rfl (Nat.le_of_ble_eq_true rfl) dX10_init_131 ?_
  refine k_ic (pc := 134) C (v := 0) dX10_init_134 (by decide +kernel) ?_
  refine k_ist (pc := 135) C (i := 1) (lv' := [(1, .int 0), (0, .ref h0)]) rfl (by decide) rfl dX10_init_135 ?_
  refine k_ild (pc := 136) C (i := 1) (x := 0) 0 rfl rfl dX10_init_136 ?_
  refine k_ic (pc := 137) C (v := 3) dX10_init_137 (by decide +kernel) ?_
  refine k_ge0 (pc := 138) C 160 (by decide +kernel) dX10_init_138 rfl ?_
  refine k_al0 (pc := 141) C 1 rfl dX10_init_141 ?_
  refine k_get (pc := 142) C jnX10 rfl 2 (Nat.le_of_ble_eq_true rfl) (sg_w 509 (by decide +kernel) rfl) (v := .ref q11) rfl dX10_init_142 ?_
  refine k_ild (pc := 145) C (i := 1) (x := 0) 0 rfl rfl dX10_init_145 ?_
  refine k_obj3 (pc := 146) C (ini4 X.1) jnX4 tyX4 tyX4_ok (sg_w 203 (by decide +kernel) rfl) (sg_w 36 (by decide +kernel) rfl) (sg_w 3 (by decide +kernel) rfl) rfl (by decide +kernel) rfl (List.mem_of_getElem? (i := 2) rfl) (sg_w 39 (by decide +kernel) rfl) (sg_w 38 (by decide +kernel) rfl) rfl ⟨by decide, by decide, by decide +kernel⟩ (Nat.le_of_ble_eq_true rfl) (Nat.le_of_ble_eq_true rfl) (k' := 246) (n' := 3217) rfl rfl (Nat.le_of_ble_eq_true rfl) (Nat.le_of_ble_eq_true rfl) (Nat.le_of_ble_eq_true rfl) (flt_app2 _ _ _) dX10_init_146 dX10_init_149 dX10_init_150 (fun u52 => ?_)
  refine k_ast (pc := 153) C (i0 := 4) (ci := 4) (fun _ => rfl) rfl (by decide) rfl (by decide +kernel) (by decide +kernel) (iN := 0) (by decide +kernel) dX10_init_153 ?_
  refine k_inc (pc := 154) C (i := 1) (v := 1) (lv' := [(1, .int 1), (0, .ref h0)]) 0 rfl (by decide +kernel) (by decide) rfl dX10_init_154 ?_
  refine k_go (pc := 157) C (tgt := 136) dX10_init_157 rfl ?_
  refine k_ild (pc := 136) C (i := 1) (x := 1) 0 rfl rfl dX10_init_136 ?_
  refine k_ic (pc := 137) C (v := 3) dX10_init_137 (by decide +kernel) ?_
  refine k_ge0 (pc := 138) C 160 (by decide +kernel) dX10_init_138 rfl ?_
  refine k_al0 (pc := 141) C 1 rfl dX10_init_141 ?_
  refine k_get (pc := 142) C jnX10 rfl 2 (Nat.le_of_ble_eq_true rfl) (sg_w 509 (by decide +kernel) rfl) (v := .ref q11) rfl dX10_init_142 ?_
  refine k_ild (pc := 145) C (i := 1) (x := 1) 0 rfl rfl dX10_init_145 ?_
  refine k_obj3 (pc := 146) C (ini4 X.1) jnX4 tyX4 tyX4_ok (sg_w 203 (by decide +kernel) rfl) (sg_w 36 (by decide +kernel) rfl) (sg_w 3 (by decide +kernel) rfl) rfl (by decide +kernel) rfl (List.mem_of_getElem? (i := 2) rfl) (sg_w 39 (by decide +kernel) rfl) (sg_w 38 (by decide +kernel) rfl) rfl ⟨by decide, by decide, by decide +kernel⟩ (Nat.le_of_ble_eq_true rfl) (Nat.le_of_ble_eq_true rfl) (k' := 256) (n' := 3353) rfl rfl (Nat.le_of_ble_eq_true rfl) (Nat.le_of_ble_eq_true rfl) (Nat.le_of_ble_eq_true rfl) (flt_app2 _ _ _) dX10_init_146 dX10_init_149 dX10_init_150 (fun u62 => ?_)
  refine k_ast (pc := 153) C (i0 := 4) (ci := 4) (fun _ => rfl) rfl (by decide) rfl (by decide +kernel) (by decide +kernel) (iN := 1) (by decide +kernel) dX10_init_153 ?_
  refine k_inc (pc := 154) C (i := 1) (v := 2) (lv' := [(1, .int 2), (0, .ref h0)]) 0 rfl (by decide +kernel) (by decide) rfl dX10_init_154 ?_
  refine k_go (pc := 157) C (tgt := 136) dX10_init_157 rfl ?_
  refine k_ild (pc := 136) C (i := 1) (x := 2) 0 rfl rfl dX10_init_136 ?_
  refine k_ic (pc := 137) C (v := 3) dX10_init_137 (by decide +kernel) ?_
  refine k_ge0 (pc := 138) C 160 (by decide +kernel) dX10_init_138 rfl ?_
  refine k_al0 (pc := 141) C 1 rfl dX10_init_141 ?_
  refine k_get (pc := 142) C jnX10 rfl 2 (Nat.le_of_ble_eq_true rfl) (sg_w 509 (by decide +kernel) rfl) (v := .ref q11) rfl dX10_init_142 ?_
  refine k_ild (pc := 145) C (i := 1) (x := 2) 0 rfl rfl dX10_init_145 ?_
  refine k_obj3 (pc := 146) C (ini4 X.1) jnX4 tyX4 tyX4_ok (sg_w 203 (by decide +kernel) rfl) (sg_w 36 (by decide +kernel) rfl) (sg_w 3 (by decide +kernel) rfl) rfl (by decide +kernel) rfl (List.mem_of_getElem? (i := 2) rfl) (sg_w 39 (by decide +kernel) rfl) (sg_w 38 (by decide +kernel) rfl) rfl ⟨by decide, by decide, by decide +kernel⟩ (Nat.le_of_ble_eq_true rfl) (Nat.le_of_ble_eq_true rfl) (k' := 266) (n' := 3489) rfl rfl (Nat.le_of_ble_eq_true rfl) (Nat.le_of_ble_eq_true rfl) (Nat.le_of_ble_eq_true rfl) (flt_app2 _ _ _) dX10_init_146 dX10_init_149 dX10_init_150 (fun u72 => ?_)
  refine k_ast (pc := 153) C (i0 := 4) (ci := 4) (fun _ => rfl) rfl (by decide) rfl (by decide +kernel) (by decide +kernel) (iN := 2) (by decide +kernel) dX10_init_153 ?_
  refine k_inc (pc := 154) C (i := 1) (v := 3) (lv' := [(1, .int 3), (0, .ref h0)]) 0 rfl (by decide +kernel) (by decide) rfl dX10_init_154 ?_
  refine k_go (pc := 157) C (tgt := 136) dX10_init_157 rfl ?_
  refine k_ild (pc := 136) C (i := 1) (x := 3) 0 rfl rfl dX10_init_136 ?_
  refine k_ic (pc := 137) C (v := 3) dX10_init_137 (by decide +kernel) ?_
  refine k_ge1 (pc := 138) C (tgt := 160) (by decide +kernel) dX10_init_138 rfl ?_
  exact k_ret2 (pc := 160) C E (S2 := [([15], [3], fun _ => q15), (kl1, ll1, u18), (kl1, ll1, u24), (kl0, ll0, u27), (kl9, ll9, u30), (kl5, ll5, u33), (kl8, ll8, u36), (kl3, ll3, u39), (kl2, ll2, u42)]) (S3 := [(kl4, ll4, u52), (kl4, ll4, u62), (kl4, ll4, u72)]) (s1 := [([6, 4, 13, 13, 13, 13, 13, 13, 13, 13, 13, 13], [0, 0, 12, 12, 12, 9, 9, 4, 20, 20, 20, 700]), ([4, 13, 13, 13, 13, 13, 13, 13, 13, 13], [0, 12, 12, 12, 9, 9, 4, 20, 20, 20])]) (s2 := [([15], [3]), ([1, 14, 7, 13, 13, 19, 14, 14, 14, 14, 14, 14, 14, 14, 14, 13], [0, 9, 0, 9, 9, 9, 10, 10, 10, 10, 10, 10, 10, 10, 10, 9]), ([1, 14, 7, 13, 13, 19, 14, 14, 14, 14, 14, 14, 14, 14, 14, 13], [0, 9, 0, 9, 9, 9, 10, 10, 10, 10, 10, 10, 10, 10, 10, 9]), ([0, 13, 13, 1, 14, 7, 13, 13, 19, 14, 14, 14, 14, 14, 14, 14, 14, 14, 13], [0, 9, 4, 0, 9, 0, 9, 9, 9, 10, 10, 10, 10, 10, 10, 10, 10, 10, 9]), ([9, 18, 13, 13, 13, 13, 13, 13, 13, 13, 13, 13, 13, 13, 13, 13, 13, 13, 13, 13, 13, 13, 13, 13, 13, 13, 13, 13, 13, 13, 13, 13, 13, 13, 13, 13, 13, 13, 13, 13, 13, 13, 13, 13, 13, 13, 13, 13, 13, 13, 13, 1, 14, 7, 13, 13, 19, 14, 14, 14, 14, 14, 14, 14, 14, 14, 13], [0, 49, 12, 12, 12, 12, 12, 12, 12, 12, 12, 12, 12, 12, 12, 12, 12, 12, 12, 12, 12, 12, 12, 12, 12, 12, 12, 12, 12, 12, 12, 12, 12, 12, 12, 12, 12, 12, 12, 12, 12, 12, 12, 12, 12, 12, 12, 12, 12, 12, 12, 0, 9, 0, 9, 9, 9, 10, 10, 10, 10, 10, 10, 10, 10, 10, 9]), ([5, 13, 17, 7, 7, 7, 7, 7, 7, 7, 7, 7, 7, 15, 13, 7, 1, 14, 7, 13, 13, 19, 14, 14, 14, 14, 14, 14, 14, 14, 14, 13], [0, 9, 10, 0, 0, 0, 0, 0, 0, 0, 0, 0, 0, 10, 10, 0, 0, 9, 0, 9, 9, 9, 10, 10, 10, 10, 10, 10, 10, 10, 10, 9]), ([8, 13, 13, 13, 13, 7, 7, 1, 14, 7, 13, 13, 19, 14, 14, 14, 14, 14, 14, 14, 14, 14, 13], [0, 20, 3, 12, 12, 0, 0, 0, 9, 0, 9, 9, 9, 10, 10, 10, 10, 10, 10, 10, 10, 10, 9]), ([3, 13, 13, 7, 1, 14, 7, 13, 13, 19, 14, 14, 14, 14, 14, 14, 14, 14, 14, 13], [0, 66, 12, 0, 0, 9, 0, 9, 9, 9, 10, 10, 10, 10, 10, 10, 10, 10, 10, 9]), ([2, 7, 13, 1, 14, 7, 13, 13, 19, 14, 14, 14, 14, 14, 14, 14, 14, 14, 13], [0, 0, 9, 0, 9, 0, 9, 9, 9, 10, 10, 10, 10, 10, 10, 10, 10, 10, 9])]) (s3 := [([4, 13, 13, 13, 13, 13, 13, 13, 13, 13], [0, 12, 12, 12, 9, 9, 4, 20, 20, 20]), ([4, 13, 13, 13, 13, 13, 13, 13, 13, 13], [0, 12, 12, 12, 9, 9, 4, 20, 20, 20]), ([4, 13, 13, 13, 13, 13, 13, 13, 13, 13], [0, 12, 12, 12, 9, 9, 4, 20, 20, 20])]) (o := 23) rfl rfl rfl rfl (by decide +kernel) (by decide +kernel) (by decide +kernel) (by decide +kernel) rfl (by decide) rfl (by decide) rfl (by decide +kernel) rfl (fun j hj => by rcases (show j = 0 ∨ j = 1 ∨ j = 2 by omega) with rfl | rfl | rfl <;> rfl) dX10_init_160
set_option maxRecDepth 100000 in
theorem ini11 (V : sg_V) : cn_ct V yX11_init cX11_init 1 11 1 17 4560 sg_kr sg_lr := by
  refine cn_body (by decide) (by decide) rfl (fun X h0 hV C E => ?_)
  rw [show dfl 11 = [.int 0, .null, .null, .null, .int 0, .null, .null, .null, .int 0, .null, .int 0, .null, .int 0, .int 0, .int 0, .int 0, .int 0, .int 0, .int 0, .int 0, .int 0, .int 0, .null, .null, .int 0, .null, .long 0, .null, .null, .null, .null, .int 0, .long 0, .long 0, .null, .int 0, .null, .long 0] by decide +kernel]
  refine k_al0 (pc := 0) C 0 rfl dX11_init_0 ?_
  refine k_oin (pc := 1) C (sg_w 1249 (by decide +kernel) rfl) (Nat.le_of_ble_eq_true rfl) dX11_init_1 ?_
  refine k_al0 (pc := 4) C 0 rfl dX11_init_4 ?_
  refine k_bi (pc := 5) C (v := 40) dX11_init_5 (by decide +kernel) ?_
  refine k_nI (pc := 7) C (N' := 40) (by decide +kernel) (by decide +kernel) (Nat.le_of_ble_eq_true rfl) (k' := 1) (n' := 40) rfl rfl (Nat.le_of_ble_eq_true rfl) (Nat.le_of_ble_eq_true rfl) (flt_app _) dX11_init_7 (fun q5 => ?_)
  refine k_putF (pc := 9) C jnX11 rfl 1 (Nat.le_of_ble_eq_true rfl) (sg_w 1250 (by decide +kernel) rfl) tyX11 tyX11_ok nmX11 rfl rfl (ty := (.array .int)) (by decide +kernel) rfl rfl (fs' := [.int 0, .ref q5, .null, .null, .int 0, .null, .null, .null, .int 0, .null, .int 0, .null, .int 0, .int 0, .int 0, .int 0, .int 0, .int 0, .int 0, .int 0, .int 0, .int 0, .null, .null, .int 0, .null, .long 0, .null, .null, .null, .null, .int 0, .long 0, .long 0, .null, .int 0, .null, .long 0]) rfl (Nat.le_of_ble_eq_true rfl) dX11_init_9 ?_
  refine k_al0 (pc := 12) C 0 rfl dX11_init_12 ?_
  refine k_bi (pc := 13) C (v := 40) dX11_init_13 (by decide +kernel) ?_
  refine k_nI (pc := 15) C (N' := 40) (by decide +kernel) (by decide +kernel) (Nat.le_of_ble_eq_true rfl) (k' := 2) (n' := 80) rfl rfl (Nat.le_of_ble_eq_true rfl) (Nat.le_of_ble_eq_true rfl) (flt_app _) dX11_init_15 (fun q9 => ?_)
  refine k_putF (pc := 17) C jnX11 rfl 2 (Nat.le_of_ble_eq_true rfl) (sg_w 1251 (by decide +kernel) rfl) tyX11 tyX11_ok nmX11 rfl rfl (ty := (.array .int)) (by decide +kernel) rfl rfl (fs' := [.int 0, .ref q5, .ref q9, .null, .int 0, .null, .null, .null, .int 0, .null, .int 0, .null, .int 0, .int 0, .int 0, .int 0, .int 0, .int 0, .int 0, .int 0, .int 0, .int 0, .null, .null, .int 0, .null, .long 0, .null, .null, .null, .null, .int 0, .long 0, .long 0, .null, .int 0, .null, .long 0]) rfl (Nat.le_of_ble_eq_true rfl) dX11_init_17 ?_
  refine k_al0 (pc := 20) C 0 rfl dX11_init_20 ?_
  refine k_si (pc := 21) C (v := 840) dX11_init_21 (by decide +kernel) ?_
  refine k_nI (pc := 24) C (N' := 840) (by decide +kernel) (by decide +kernel) (Nat.le_of_ble_eq_true rfl) (k' := 3) (n' := 920) rfl rfl (Nat.le_of_ble_eq_true rfl) (Nat.le_of_ble_eq_true rfl) (flt_app _) dX11_init_24 (fun q13 => ?_)
  refine k_putF (pc := 26) C jnX11 rfl 3 (Nat.le_of_ble_eq_true rfl) (sg_w 1252 (by decide +kernel) rfl) tyX11 tyX11_ok nmX11 rfl rfl (ty := (.array .int)) (by decide +kernel) rfl rfl (fs' := [.int 0, .ref q5, .ref q9, .ref q13, .int 0, .null, .null, .null, .int 0, .null, .int 0, .null, .int 0, .int 0, .int 0, .int 0, .int 0, .int 0, .int 0, .int 0, .int 0, .int 0, .null, .null, .int 0, .null, .long 0, .null, .null, .null, .null, .int 0, .long 0, .long 0, .null, .int 0, .null, .long 0]) rfl (Nat.le_of_ble_eq_true rfl) dX11_init_26 ?_
  refine k_al0 (pc := 29) C 0 rfl dX11_init_29 ?_
  refine k_si (pc := 30) C (v := 2643) dX11_init_30 (by decide +kernel) ?_
  refine k_nI (pc := 33) C (N' := 2643) (by decide +kernel) (by decide +kernel) (Nat.le_of_ble_eq_true rfl) (k' := 4) (n' := 3563) rfl rfl (Nat.le_of_ble_eq_true rfl) (Nat.le_of_ble_eq_true rfl) (flt_app _) dX11_init_33 (fun q17 => ?_)
  refine k_putF (pc := 35) C jnX11 rfl 5 (Nat.le_of_ble_eq_true rfl) (sg_w 1254 (by decide +kernel) rfl) tyX11 tyX11_ok nmX11 rfl rfl (ty := (.array .int)) (by decide +kernel) rfl rfl (fs' := [.int 0, .ref q5, .ref q9, .ref q13, .int 0, .ref q17, .null, .null, .int 0, .null, .int 0, .null, .int 0, .int 0, .int 0, .int 0, .int 0, .int 0, .int 0, .int 0, .int 0, .int 0, .null, .null, .int 0, .null, .long 0, .null, .null, .null, .null, .int 0, .long 0, .long 0, .null, .int 0, .null, .long 0]) rfl (Nat.le_of_ble_eq_true rfl) dX11_init_35 ?_
  refine k_al0 (pc := 38) C 0 rfl dX11_init_38 ?_
  refine k_ic (pc := 39) C (v := 3) dX11_init_39 (by decide +kernel) ?_
  refine k_nZ (pc := 40) C (N' := 3) (by decide +kernel) (by decide +kernel) (Nat.le_of_ble_eq_true rfl) (k' := 5) (n' := 3566) rfl rfl (Nat.le_of_ble_eq_true rfl) (Nat.le_of_ble_eq_true rfl) (flt_app _) dX11_init_40 (fun q21 => ?_)
  refine k_putF (pc := 42) C jnX11 rfl 6 (Nat.le_of_ble_eq_true rfl) (sg_w 1255 (by decide +kernel) rfl) tyX11 tyX11_ok nmX11 rfl rfl (ty := (.array .boolean)) (by decide +kernel) rfl rfl (fs' := [.int 0, .ref q5, .ref q9, .ref q13, .int 0, .ref q17, .ref q21, .null, .int 0, .null, .int 0, .null, .int 0, .int 0, .int 0, .int 0, .int 0, .int 0, .int 0, .int 0, .int 0, .int 0, .null, .null, .int 0, .null, .long 0, .null, .null, .null, .null, .int 0, .long 0, .long 0, .null, .int 0, .null, .long 0]) rfl (Nat.le_of_ble_eq_true rfl) dX11_init_42 ?_
  refine k_al0 (pc := 45) C 0 rfl dX11_init_45 ?_
  refine k_bi (pc := 46) C (v := 24) dX11_init_46 (by decide +kernel) ?_
  refine k_nI (pc := 48) C (N' := 24) (by decide +kernel) (by decide +kernel) (Nat.le_of_ble_eq_true rfl) (k' := 6) (n' := 3590) rfl rfl (Nat.le_of_ble_eq_true rfl) (Nat.le_of_ble_eq_true rfl) (flt_app _) dX11_init_48 (fun q25 => ?_)
  refine k_putF (pc := 50) C jnX11 rfl 7 (Nat.le_of_ble_eq_true rfl) (sg_w 1256 (by decide +kernel) rfl) tyX11 tyX11_ok nmX11 rfl rfl (ty := (.array .int)) (by decide +kernel) rfl rfl (fs' := [.int 0, .ref q5, .ref q9, .ref q13, .int 0, .ref q17, .ref q21, .ref q25, .int 0, .null, .int 0, .null, .int 0, .int 0, .int 0, .int 0, .int 0, .int 0, .int 0, .int 0, .int 0, .int 0, .null, .null, .int 0, .null, .long 0, .null, .null, .null, .null, .int 0, .long 0, .long 0, .null, .int 0, .null, .long 0]) rfl (Nat.le_of_ble_eq_true rfl) dX11_init_50 ?_
  refine k_al0 (pc := 53) C 0 rfl dX11_init_53 ?_
  refine k_si (pc := 54) C (v := 700) dX11_init_54 (by decide +kernel) ?_
  refine k_nB (pc := 57) C (N' := 700) (by decide +kernel) (by decide +kernel) (Nat.le_of_ble_eq_true rfl) (k' := 7) (n' := 4290) rfl rfl (Nat.le_of_ble_eq_true rfl) (Nat.le_of_ble_eq_true rfl) (flt_app _) dX11_init_57 (fun q29 => ?_)
  refine k_putF (pc := 59) C jnX11 rfl 9 (Nat.le_of_ble_eq_true rfl) (sg_w 1258 (by decide +kernel) rfl) tyX11 tyX11_ok nmX11 rfl rfl (ty := (.array .byte)) (by decide +kernel) rfl rfl (fs' := [.int 0, .ref q5, .ref q9, .ref q13, .int 0, .ref q17, .ref q21, .ref q25, .int 0, .ref q29, .int 0, .null, .int 0, .int 0, .int 0, .int 0, .int 0, .int 0, .int 0, .int 0, .int 0, .int 0, .null, .null, .int 0, .null, .long 0, .null, .null, .null, .null, .int 0, .long 0, .long 0, .null, .int 0, .null, .long 0]) rfl (Nat.le_of_ble_eq_true rfl) dX11_init_59 ?_
  refine k_al0 (pc := 62) C 0 rfl dX11_init_62 ?_
  refine k_ic (pc := 63) C (v := 5) dX11_init_63 (by decide +kernel) ?_
  refine k_nI (pc := 64) C (N' := 5) (by decide +kernel) (by decide +kernel) (Nat.le_of_ble_eq_true rfl) (k' := 8) (n' := 4295) rfl rfl (Nat.le_of_ble_eq_true rfl) (Nat.le_of_ble_eq_true rfl) (flt_app _) dX11_init_64 (fun q33 => ?_)
  refine k_putF (pc := 66) C jnX11 rfl 11 (Nat.le_of_ble_eq_true rfl) (sg_w 1260 (by decide +kernel) rfl) tyX11 tyX11_ok nmX11 rfl rfl (ty := (.array .int)) (by decide +kernel) rfl rfl (fs' := [.int 0, .ref q5, .ref q9, .ref q13, .int 0, .ref q17, .ref q21, .ref q25, .int 0, .ref q29, .int 0, .ref q33, .int 0, .int 0, .int 0, .int 0, .int 0, .int 0, .int 0, .int 0, .int 0, .int 0, .null, .null, .int 0, .null, .long 0, .null, .null, .null, .null, .int 0, .long 0, .long 0, .null, .int 0, .null, .long 0]) rfl (Nat.le_of_ble_eq_true rfl) dX11_init_66 ?_
  refine k_al0 (pc := 69) C 0 rfl dX11_init_69 ?_
  refine k_ic (pc := 70) C (v := (-1)) dX11_init_70 (by decide +kernel) ?_
  refine k_put (pc := 71) C jnX11 rfl 18 (Nat.le_of_ble_eq_true rfl) (sg_w 1267 (by decide +kernel) rfl) tyX11 tyX11_ok nmX11 rfl (ty := .int) (by decide +kernel) rfl rfl (fs' := [.int 0, .ref q5, .ref q9, .ref q13, .int 0, .ref q17, .ref q21, .ref q25, .int 0, .ref q29, .int 0, .ref q33, .int 0, .int 0, .int 0, .int 0, .int 0, .int 0, .int (-1), .int 0, .int 0, .int 0, .null, .null, .int 0, .null, .long 0, .null, .null, .null, .null, .int 0, .long 0, .long 0, .null, .int 0, .null, .long 0]) rfl (Nat.le_of_ble_eq_true rfl) dX11_init_71 ?_
  refine k_al0 (pc := 74) C 0 rfl dX11_init_74 ?_
  refine k_bi (pc := 75) C (v := 9) dX11_init_75 (by decide +kernel) ?_
  refine k_nI (pc := 77) C (N' := 9) (by decide +kernel) (by decide +kernel) (Nat.le_of_ble_eq_true rfl) (k' := 9) (n' := 4304) rfl rfl (Nat.le_of_ble_eq_true rfl) (Nat.le_of_ble_eq_true rfl) (flt_app _) dX11_init_77 (fun q40 => ?_)
  refine k_putF (pc := 79) C jnX11 rfl 22 (Nat.le_of_ble_eq_true rfl) (sg_w 1271 (by decide +kernel) rfl) tyX11 tyX11_ok nmX11 rfl rfl (ty := (.array .int)) (by decide +kernel) rfl rfl (fs' := [.int 0, .ref q5, .ref q9, .ref q13, .int 0, .ref q17, .ref q21, .ref q25, .int 0, .ref q29, .int 0, .ref q33, .int 0, .int 0, .int 0, .int 0, .int 0, .int 0, .int (-1), .int 0, .int 0, .int 0, .ref q40, .null, .int 0, .null, .long 0, .null, .null, .null, .null, .int 0, .long 0, .long 0, .null, .int 0, .null, .long 0]) rfl (Nat.le_of_ble_eq_true rfl) dX11_init_79 ?_
  refine k_al0 (pc := 82) C 0 rfl dX11_init_82 ?_
  refine k_bi (pc := 83) C (v := 9) dX11_init_83 (by decide +kernel) ?_
  refine k_nI (pc := 85) C (N' := 9) (by decide +kernel) (by decide +kernel) (Nat.le_of_ble_eq_true rfl) (k' := 10) (n' := 4313) rfl rfl (Nat.le_of_ble_eq_true rfl) (Nat.le_of_ble_eq_true rfl) (flt_app _) dX11_init_85 (fun q44 => ?_)
  refine k_putF (pc := 87) C jnX11 rfl 23 (Nat.le_of_ble_eq_true rfl) (sg_w 1272 (by decide +kernel) rfl) tyX11 tyX11_ok nmX11 rfl rfl (ty := (.array .int)) (by decide +kernel) rfl rfl (fs' := [.int 0, .ref q5, .ref q9, .ref q13, .int 0, .ref q17, .ref q21, .ref q25, .int 0, .ref q29, .int 0, .ref q33, .int 0, .int 0, .int 0, .int 0, .int 0, .int 0, .int (-1), .int 0, .int 0, .int 0, .ref q40, .ref q44, .int 0, .null, .long 0, .null, .null, .null, .null, .int 0, .long 0, .long 0, .null, .int 0, .null, .long 0]) rfl (Nat.le_of_ble_eq_true rfl) dX11_init_87 ?_
  refine k_al0 (pc := 90) C 0 rfl dX11_init_90 ?_
  refine k_si (pc := 91) C (v := 162) dX11_init_91 (by decide +kernel) ?_
  refine k_nJ (pc := 94) C (N' := 162) (by decide +kernel) (by decide +kernel) (Nat.le_of_ble_eq_true rfl) (k' := 11) (n' := 4475) rfl rfl (Nat.le_of_ble_eq_true rfl) (Nat.le_of_ble_eq_true rfl) (flt_app _) dX11_init_94 (fun q48 => ?_)
  refine k_putF (pc := 96) C jnX11 rfl 25 (Nat.le_of_ble_eq_true rfl) (sg_w 1274 (by decide +kernel) rfl) tyX11 tyX11_ok nmX11 rfl rfl (ty := (.array .long)) (by decide +kernel) rfl rfl (fs' := [.int 0, .ref q5, .ref q9, .ref q13, .int 0, .ref q17, .ref q21, .ref q25, .int 0, .ref q29, .int 0, .ref q33, .int 0, .int 0, .int 0, .int 0, .int 0, .int 0, .int (-1), .int 0, .int 0, .int 0, .ref q40, .ref q44, .int 0, .ref q48, .long 0, .null, .null, .null, .null, .int 0, .long 0, .long 0, .null, .int 0, .null, .long 0]) rfl (Nat.le_of_ble_eq_true rfl) dX11_init_96 ?_
  refine k_al0 (pc := 99) C 0 rfl dX11_init_99 ?_
  refine k_lc (pc := 100) C (v := 1) dX11_init_100 (by decide +kernel) ?_
  refine k_put (pc := 101) C jnX11 rfl 26 (Nat.le_of_ble_eq_true rfl) (sg_w 1275 (by decide +kernel) rfl) tyX11 tyX11_ok nmX11 rfl (ty := .long) (by decide +kernel) rfl rfl (fs' := [.int 0, .ref q5, .ref q9, .ref q13, .int 0, .ref q17, .ref q21, .ref q25, .int 0, .ref q29, .int 0, .ref q33, .int 0, .int 0, .int 0, .int 0, .int 0, .int 0, .int (-1), .int 0, .int 0, .int 0, .ref q40, .ref q44, .int 0, .ref q48, .long 1, .null, .null, .null, .null, .int 0, .long 0, .long 0, .null, .int 0, .null, .long 0]) rfl (Nat.le_of_ble_eq_true rfl) dX11_init_101 ?_
  refine k_al0 (pc := 104) C 0 rfl dX11_init_104 ?_
  refine k_bi (pc := 105) C (v := 9) dX11_init_105 (by decide +kernel) ?_
  refine k_nI (pc := 107) C (N' := 9) (by decide +kernel) (by decide +kernel) (Nat.le_of_ble_eq_true rfl) (k' := 12) (n' := 4484) rfl rfl (Nat.le_of_ble_eq_true rfl) (Nat.le_of_ble_eq_true rfl) (flt_app _) dX11_init_107 (fun q55 => ?_)
  refine k_putF (pc := 109) C jnX11 rfl 27 (Nat.le_of_ble_eq_true rfl) (sg_w 1276 (by decide +kernel) rfl) tyX11 tyX11_ok nmX11 rfl rfl (ty := (.array .int)) (by decide +kernel) rfl rfl (fs' := [.int 0, .ref q5, .ref q9, .ref q13, .int 0, .ref q17, .ref q21, .ref q25, .int 0, .ref q29, .int 0, .ref q33, .int 0, .int 0, .int 0, .int 0, .int 0, .int 0, .int (-1), .int 0, .int 0, .int 0, .ref q40, .ref q44, .int 0, .ref q48, .long 1, .ref q55, .null, .null, .null, .int 0, .long 0, .long 0, .null, .int 0, .null, .long 0]) rfl (Nat.le_of_ble_eq_true rfl) dX11_init_109 ?_
  refine k_al0 (pc := 112) C 0 rfl dX11_init_112 ?_
  refine k_bi (pc := 113) C (v := 9) dX11_init_113 (by decide +kernel) ?_
  refine k_nI (pc := 115) C (N' := 9) (by decide +kernel) (by decide +kernel) (Nat.le_of_ble_eq_true rfl) (k' := 13) (n' := 4493) rfl rfl (Nat.le_of_ble_eq_true rfl) (Nat.le_of_ble_eq_true rfl) (flt_app _) dX11_init_115 (fun q59 => ?_)
  refine k_putF (pc := 117) C jnX11 rfl 28 (Nat.le_of_ble_eq_true rfl) (sg_w 1277 (by decide +kernel) rfl) tyX11 tyX11_ok nmX11 rfl rfl (ty := (.array .int)) (by decide +kernel) rfl rfl (fs' := [.int 0, .ref q5, .ref q9, .ref q13, .int 0, .ref q17, .ref q21, .ref q25, .int 0, .ref q29, .int 0, .ref q33, .int 0, .int 0, .int 0, .int 0, .int 0, .int 0, .int (-1), .int 0, .int 0, .int 0, .ref q40, .ref q44, .int 0, .ref q48, .long 1, .ref q55, .ref q59, .null, .null, .int 0, .long 0, .long 0, .null, .int 0, .null, .long 0]) rfl (Nat.le_of_ble_eq_true rfl) dX11_init_117 ?_
  refine k_al0 (pc := 120) C 0 rfl dX11_init_120 ?_
  refine k_ic (pc := 121) C (v := 4) dX11_init_121 (by decide +kernel) ?_
  refine k_nI (pc := 122) C (N' := 4) (by decide +kernel) (by decide +kernel) (Nat.le_of_ble_eq_true rfl) (k' := 14) (n' := 4497) rfl rfl (Nat.le_of_ble_eq_true rfl) (Nat.le_of_ble_eq_true rfl) (flt_app _) dX11_init_122 (fun q63 => ?_)
  refine k_putF (pc := 124) C jnX11 rfl 29 (Nat.le_of_ble_eq_true rfl) (sg_w 1278 (by decide +kernel) rfl) tyX11 tyX11_ok nmX11 rfl rfl (ty := (.array .int)) (by decide +kernel) rfl rfl (fs' := [.int 0, .ref q5, .ref q9, .ref q13, .int 0, .ref q17, .ref q21, .ref q25, .int 0, .ref q29, .int 0, .ref q33, .int 0, .int 0, .int 0, .int 0, .int 0, .int 0, .int (-1), .int 0, .int 0, .int 0, .ref q40, .ref q44, .int 0, .ref q48, .long 1, .ref q55, .ref q59, .ref q63, .null, .int 0, .long 0, .long 0, .null, .int 0, .null, .long 0]) rfl (Nat.le_of_ble_eq_true rfl) dX11_init_124 ?_
  refine k_al0 (pc := 127) C 0 rfl dX11_init_127 ?_
  refine k_bi (pc := 128) C (v := 40) dX11_init_128 (by decide +kernel) ?_
  refine k_nI (pc := 130) C (N' := 40) (by decide +kernel) (by decide +kernel) (Nat.le_of_ble_eq_true rfl) (k' := 15) (n' := 4537) rfl rfl (Nat.le_of_ble_eq_true rfl) (Nat.le_of_ble_eq_true rfl) (flt_app _) dX11_init_130 (fun q67 => ?_)
  refine k_putF (pc := 132) C jnX11 rfl 30 (Nat.le_of_ble_eq_true rfl) (sg_w 1279 (by decide +kernel) rfl) tyX11 tyX11_ok nmX11 rfl rfl (ty := (.array .int)) (by decide +kernel) rfl rfl (fs' := [.int 0, .ref q5, .ref q9, .ref q13, .int 0, .ref q17, .ref q21, .ref q25, .int 0, .ref q29, .int 0, .ref q33, .int 0, .int 0, .int 0, .int 0, .int 0, .int 0, .int (-1), .int 0, .int 0, .int 0, .ref q40, .ref q44, .int 0, .ref q48, .long 1, .ref q55, .ref q59, .ref q63, .ref q67, .int 0, .long 0, .long 0, .null, .int 0, .null, .long 0]) rfl (Nat.le_of_ble_eq_true rfl) dX11_init_132 ?_
  refine k_al0 (pc := 135) C 0 rfl dX11_init_135 ?_
  refine k_bi (pc := 136) C (v := 20) dX11_init_136 (by decide +kernel) ?_
  refine k_nI (pc := 138) C (N' := 20) (by decide +kernel) (by decide +kernel) (Nat.le_of_ble_eq_true rfl) (k' := 16) (n' := 4557) rfl rfl (Nat.le_of_ble_eq_true rfl) (Nat.le_of_ble_eq_true rfl) (flt_app _) dX11_init_138 (fun q71 => ?_)
  refine k_putF (pc := 140) C jnX11 rfl 34 (Nat.le_of_ble_eq_true rfl) (sg_w 1283 (by decide +kernel) rfl) tyX11 tyX11_ok nmX11 rfl rfl (ty := (.array .int)) (by decide +kernel) rfl rfl (fs' := [.int 0, .ref q5, .ref q9, .ref q13, .int 0, .ref q17, .ref q21, .ref q25, .int 0, .ref q29, .int 0, .ref q33, .int 0, .int 0, .int 0, .int 0, .int 0, .int 0, .int (-1), .int 0, .int 0, .int 0, .ref q40, .ref q44, .int 0, .ref q48, .long 1, .ref q55, .ref q59, .ref q63, .ref q67, .int 0, .long 0, .long 0, .ref q71, .int 0, .null, .long 0]) rfl (Nat.le_of_ble_eq_true rfl) dX11_init_140 ?_
  refine k_al0 (pc := 143) C 0 rfl dX11_init_143 ?_
  refine k_ic (pc := 144) C (v := 3) dX11_init_144 (by decide +kernel) ?_
  refine k_nI (pc := 145) C (N' := 3) (by decide +kernel) (by decide +kernel) (Nat.le_of_ble_eq_true rfl) (k' := 17) (n' := 4560) rfl rfl (Nat.le_of_ble_eq_true rfl) (Nat.le_of_ble_eq_true rfl) (flt_app _) dX11_init_145 (fun q75 => ?_)
  refine k_putF (pc := 147) C jnX11 rfl 36 (Nat.le_of_ble_eq_true rfl) (sg_w 1285 (by decide +kernel) rfl) tyX11 tyX11_ok nmX11 rfl rfl (ty := (.array .int)) (by decide +kernel) rfl rfl (fs' := [.int 0, .ref q5, .ref q9, .ref q13, .int 0, .ref q17, .ref q21, .ref q25, .int 0, .ref q29, .int 0, .ref q33, .int 0, .int 0, .int 0, .int 0, .int 0, .int 0, .int (-1), .int 0, .int 0, .int 0, .ref q40, .ref q44, .int 0, .ref q48, .long 1, .ref q55, .ref q59, .ref q63, .ref q67, .int 0, .long 0, .long 0, .ref q71, .int 0, .ref q75, .long 0]) rfl (Nat.le_of_ble_eq_true rfl) dX11_init_147 ?_
  exact k_ret (pc := 150) C E (sh := [([13], [40]), ([13], [40]), ([13], [840]), ([13], [2643]), ([15], [3]), ([13], [24]), ([12], [700]), ([13], [5]), ([13], [9]), ([13], [9]), ([14], [162]), ([13], [9]), ([13], [9]), ([13], [4]), ([13], [40]), ([13], [20]), ([13], [3])]) rfl (by decide +kernel) rfl (by decide) (by decide +kernel) rfl dX11_init_150
