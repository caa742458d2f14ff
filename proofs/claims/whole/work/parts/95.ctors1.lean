/-! the constructors -/
def kl7 : List Nat := [7]
def ll7 : List Nat := [0]
set_option maxHeartbeats 16000000 in
set_option maxRecDepth 100000 in
theorem ini7 (V : sg_V) : cn_ct V yX7_init cX7_init 1 7 1 0 0 kl7 ll7 := by
  refine cn_body (by decide) (by decide) rfl (fun X h0 hV C E => ?_)
  rw [show dfl 7 = [.int 0, .long 0, .long 0] by decide +kernel]
  refine k_al0 (pc := 0) C 0 rfl dX7_init_0 ?_
  refine k_oin (pc := 1) C (sg_w 217 (by decide +kernel) rfl) (Nat.le_of_ble_eq_true rfl) dX7_init_1 ?_
  refine k_al0 (pc := 4) C 0 rfl dX7_init_4 ?_
  refine k_ic (pc := 5) C (v := 0) dX7_init_5 (by decide +kernel) ?_
  refine k_put (pc := 6) C jnX7 rfl 0 (Nat.le_of_ble_eq_true rfl) (sg_w 218 (by decide +kernel) rfl) tyX7 tyX7_ok nmX7 rfl (ty := .int) (by decide +kernel) rfl rfl (fs' := [.int 0, .long 0, .long 0]) rfl (Nat.le_of_ble_eq_true rfl) dX7_init_6 ?_
  refine k_al0 (pc := 9) C 0 rfl dX7_init_9 ?_
  refine k_lc (pc := 10) C (v := 0) dX7_init_10 (by decide +kernel) ?_
  refine k_put (pc := 11) C jnX7 rfl 1 (Nat.le_of_ble_eq_true rfl) (sg_w 220 (by decide +kernel) rfl) tyX7 tyX7_ok nmX7 rfl (ty := .long) (by decide +kernel) rfl rfl (fs' := [.int 0, .long 0, .long 0]) rfl (Nat.le_of_ble_eq_true rfl) dX7_init_11 ?_
  refine k_al0 (pc := 14) C 0 rfl dX7_init_14 ?_
  refine k_lc (pc := 15) C (v := 1) dX7_init_15 (by decide +kernel) ?_
  refine k_put (pc := 16) C jnX7 rfl 2 (Nat.le_of_ble_eq_true rfl) (sg_w 224 (by decide +kernel) rfl) tyX7 tyX7_ok nmX7 rfl (ty := .long) (by decide +kernel) rfl rfl (fs' := [.int 0, .long 0, .long 1]) rfl (Nat.le_of_ble_eq_true rfl) dX7_init_16 ?_
  exact k_ret (pc := 19) C E (sh := []) rfl (by decide +kernel) rfl (by decide) (by decide +kernel) rfl dX7_init_19
def kl4 : List Nat := [4, 13, 13, 13, 13, 13, 13, 13, 13, 13]
def ll4 : List Nat := [0, 12, 12, 12, 9, 9, 4, 20, 20, 20]
set_option maxHeartbeats 16000000 in
set_option maxRecDepth 100000 in
theorem ini4 (V : sg_V) : cn_ct V yX4_init cX4_init 1 4 1 9 118 kl4 ll4 := by
  refine cn_body (by decide) (by decide) rfl (fun X h0 hV C E => ?_)
  rw [show dfl 4 = [.int 0, .int 0, .int 0, .int 0, .int 0, .int 0, .int 0, .int 0, .int 0, .null, .null, .null, .null, .null, .null, .null, .null, .null] by decide +kernel]
  refine k_al0 (pc := 0) C 0 rfl dX4_init_0 ?_
  refine k_oin (pc := 1) C (sg_w 40 (by decide +kernel) rfl) (Nat.le_of_ble_eq_true rfl) dX4_init_1 ?_
  refine k_al0 (pc := 4) C 0 rfl dX4_init_4 ?_
  refine k_ic (pc := 5) C (v := 0) dX4_init_5 (by decide +kernel) ?_
  refine k_put (pc := 6) C jnX4 rfl 0 (Nat.le_of_ble_eq_true rfl) (sg_w 41 (by decide +kernel) rfl) tyX4 tyX4_ok nmX4 rfl (ty := .int) (by decide +kernel) rfl rfl (fs' := [.int 0, .int 0, .int 0, .int 0, .int 0, .int 0, .int 0, .int 0, .int 0, .null, .null, .null, .null, .null, .null, .null, .null, .null]) rfl (Nat.le_of_ble_eq_true rfl) dX4_init_6 ?_
  refine k_al0 (pc := 9) C 0 rfl dX4_init_9 ?_
  refine k_ic (pc := 10) C (v := 0) dX4_init_10 (by decide +kernel) ?_
  refine k_put (pc := 11) C jnX4 rfl 1 (Nat.le_of_ble_eq_true rfl) (sg_w 44 (by decide +kernel) rfl) tyX4 tyX4_ok nmX4 rfl (ty := .int) (by decide +kernel) rfl rfl (fs' := [.int 0, .int 0, .int 0, .int 0, .int 0, .int 0, .int 0, .int 0, .int 0, .null, .null, .null, .null, .null, .null, .null, .null, .null]) rfl (Nat.le_of_ble_eq_true rfl) dX4_init_11 ?_
  refine k_al0 (pc := 14) C 0 rfl dX4_init_14 ?_
  refine k_ic (pc := 15) C (v := 0) dX4_init_15 (by decide +kernel) ?_
  refine k_put (pc := 16) C jnX4 rfl 2 (Nat.le_of_ble_eq_true rfl) (sg_w 47 (by decide +kernel) rfl) tyX4 tyX4_ok nmX4 rfl (ty := .int) (by decide +kernel) rfl rfl (fs' := [.int 0, .int 0, .int 0, .int 0, .int 0, .int 0, .int 0, .int 0, .int 0, .null, .null, .null, .null, .null, .null, .null, .null, .null]) rfl (Nat.le_of_ble_eq_true rfl) dX4_init_16 ?_
  refine k_al0 (pc := 19) C 0 rfl dX4_init_19 ?_
  refine k_ic (pc := 20) C (v := 0) dX4_init_20 (by decide +kernel) ?_
  refine k_put (pc := 21) C jnX4 rfl 3 (Nat.le_of_ble_eq_true rfl) (sg_w 54 (by decide +kernel) rfl) tyX4 tyX4_ok nmX4 rfl (ty := .int) (by decide +kernel) rfl rfl (fs' := [.int 0, .int 0, .int 0, .int 0, .int 0, .int 0, .int 0, .int 0, .int 0, .null, .null, .null, .null, .null, .null, .null, .null, .null]) rfl (Nat.le_of_ble_eq_true rfl) dX4_init_21 ?_
  refine k_al0 (pc := 24) C 0 rfl dX4_init_24 ?_
  refine k_ic (pc := 25) C (v := 0) dX4_init_25 (by decide +kernel) ?_
  refine k_put (pc := 26) C jnX4 rfl 4 (Nat.le_of_ble_eq_true rfl) (sg_w 58 (by decide +kernel) rfl) tyX4 tyX4_ok nmX4 rfl (ty := .int) (by decide +kernel) rfl rfl (fs' := [.int 0, .int 0, .int 0, .int 0, .int 0, .int 0, .int 0, .int 0, .int 0, .null, .null, .null, .null, .null, .null, .null, .null, .null]) rfl (Nat.le_of_ble_eq_true rfl) dX4_init_26 ?_
  refine k_al0 (pc := 29) C 0 rfl dX4_init_29 ?_
  refine k_ic (pc := 30) C (v := 0) dX4_init_30 (by decide +kernel) ?_
  refine k_put (pc := 31) C jnX4 rfl 5 (Nat.le_of_ble_eq_true rfl) (sg_w 61 (by decide +kernel) rfl) tyX4 tyX4_ok nmX4 rfl (ty := .int) (by decide +kernel) rfl rfl (fs' := [.int 0, .int 0, .int 0, .int 0, .int 0, .int 0, .int 0, .int 0, .int 0, .null, .null, .null, .null, .null, .null, .null, .null, .null]) rfl (Nat.le_of_ble_eq_true rfl) dX4_init_31 ?_
  refine k_al0 (pc := 34) C 0 rfl dX4_init_34 ?_
  refine k_ic (pc := 35) C (v := 0) dX4_init_35 (by decide +kernel) ?_
  refine k_put (pc := 36) C jnX4 rfl 6 (Nat.le_of_ble_eq_true rfl) (sg_w 67 (by decide +kernel) rfl) tyX4 tyX4_ok nmX4 rfl (ty := .int) (by decide +kernel) rfl rfl (fs' := [.int 0, .int 0, .int 0, .int 0, .int 0, .int 0, .int 0, .int 0, .int 0, .null, .null, .null, .null, .null, .null, .null, .null, .null]) rfl (Nat.le_of_ble_eq_true rfl) dX4_init_36 ?_
  refine k_al0 (pc := 39) C 0 rfl dX4_init_39 ?_
  refine k_ic (pc := 40) C (v := 0) dX4_init_40 (by decide +kernel) ?_
  refine k_put (pc := 41) C jnX4 rfl 7 (Nat.le_of_ble_eq_true rfl) (sg_w 72 (by decide +kernel) rfl) tyX4 tyX4_ok nmX4 rfl (ty := .int) (by decide +kernel) rfl rfl (fs' := [.int 0, .int 0, .int 0, .int 0, .int 0, .int 0, .int 0, .int 0, .int 0, .null, .null, .null, .null, .null, .null, .null, .null, .null]) rfl (Nat.le_of_ble_eq_true rfl) dX4_init_41 ?_
  refine k_al0 (pc := 44) C 0 rfl dX4_init_44 ?_
  refine k_ic (pc := 45) C (v := 0) dX4_init_45 (by decide +kernel) ?_
  refine k_put (pc := 46) C jnX4 rfl 8 (Nat.le_of_ble_eq_true rfl) (sg_w 81 (by decide +kernel) rfl) tyX4 tyX4_ok nmX4 rfl (ty := .int) (by decide +kernel) rfl rfl (fs' := [.int 0, .int 0, .int 0, .int 0, .int 0, .int 0, .int 0, .int 0, .int 0, .null, .null, .null, .null, .null, .null, .null, .null, .null]) rfl (Nat.le_of_ble_eq_true rfl) dX4_init_46 ?_
  refine k_al0 (pc := 49) C 0 rfl dX4_init_49 ?_
  refine k_bi (pc := 50) C (v := 12) dX4_init_50 (by decide +kernel) ?_
  refine k_nI (pc := 52) C (N' := 12) (by decide +kernel) (by decide +kernel) (Nat.le_of_ble_eq_true rfl) (k' := 1) (n' := 12) rfl rfl (Nat.le_of_ble_eq_true rfl) (Nat.le_of_ble_eq_true rfl) (flt_app _) dX4_init_52 (fun q32 => ?_)
  refine k_putF (pc := 54) C jnX4 rfl 9 (Nat.le_of_ble_eq_true rfl) (sg_w 83 (by decide +kernel) rfl) tyX4 tyX4_ok nmX4 rfl rfl (ty := (.array .int)) (by decide +kernel) rfl rfl (fs' := [.int 0, .int 0, .int 0, .int 0, .int 0, .int 0, .int 0, .int 0, .int 0, .ref q32, .null, .null, .null, .null, .null, .null, .null, .null]) rfl (Nat.le_of_ble_eq_true rfl) dX4_init_54 ?_
  refine k_al0 (pc := 57) C 0 rfl dX4_init_57 ?_
  refine k_bi (pc := 58) C (v := 12) dX4_init_58 (by decide +kernel) ?_
  refine k_nI (pc := 60) C (N' := 12) (by decide +kernel) (by decide +kernel) (Nat.le_of_ble_eq_true rfl) (k' := 2) (n' := 24) rfl rfl (Nat.le_of_ble_eq_true rfl) (Nat.le_of_ble_eq_true rfl) (flt_app _) dX4_init_60 (fun q36 => ?_)
  refine k_putF (pc := 62) C jnX4 rfl 10 (Nat.le_of_ble_eq_true rfl) (sg_w 86 (by decide +kernel) rfl) tyX4 tyX4_ok nmX4 rfl rfl (ty := (.array .int)) (by decide +kernel) rfl rfl (fs' := [.int 0, .int 0, .int 0, .int 0, .int 0, .int 0, .int 0, .int 0, .int 0, .ref q32, .ref q36, .null, .null, .null, .null, .null, .null, .null]) rfl (Nat.le_of_ble_eq_true rfl) dX4_init_62 ?_
  refine k_al0 (pc := 65) C 0 rfl dX4_init_65 ?_
  refine k_bi (pc := 66) C (v := 12) dX4_init_66 (by decide +kernel) ?_
  refine k_nI (pc := 68) C (N' := 12) (by decide +kernel) (by decide +kernel) (Nat.le_of_ble_eq_true rfl) (k' := 3) (n' := 36) rfl rfl (Nat.le_of_ble_eq_true rfl) (Nat.le_of_ble_eq_true rfl) (flt_app _) dX4_init_68 (fun q40 => ?_)
  refine k_putF (pc := 70) C jnX4 rfl 11 (Nat.le_of_ble_eq_true rfl) (sg_w 89 (by decide +kernel) rfl) tyX4 tyX4_ok nmX4 rfl rfl (ty := (.array .int)) (by decide +kernel) rfl rfl (fs' := [.int 0, .int 0, .int 0, .int 0, .int 0, .int 0, .int 0, .int 0, .int 0, .ref q32, .ref q36, .ref q40, .null, .null, .null, .null, .null, .null]) rfl (Nat.le_of_ble_eq_true rfl) dX4_init_70 ?_
  refine k_al0 (pc := 73) C 0 rfl dX4_init_73 ?_
  refine k_bi (pc := 74) C (v := 9) dX4_init_74 (by decide +kernel) ?_
  refine k_nI (pc := 76) C (N' := 9) (by decide +kernel) (by decide +kernel) (Nat.le_of_ble_eq_true rfl) (k' := 4) (n' := 45) rfl rfl (Nat.le_of_ble_eq_true rfl) (Nat.le_of_ble_eq_true rfl) (flt_app _) dX4_init_76 (fun q44 => ?_)
  refine k_putF (pc := 78) C jnX4 rfl 12 (Nat.le_of_ble_eq_true rfl) (sg_w 98 (by decide +kernel) rfl) tyX4 tyX4_ok nmX4 rfl rfl (ty := (.array .int)) (by decide +kernel) rfl rfl (fs' := [.int 0, .int 0, .int 0, .int 0, .int 0, .int 0, .int 0, .int 0, .int 0, .ref q32, .ref q36, .ref q40, .ref q44, .null, .null, .null, .null, .null]) rfl (Nat.le_of_ble_eq_true rfl) dX4_init_78 ?_
  refine k_al0 (pc := 81) C 0 rfl dX4_init_81 ?_
  refine k_bi (pc := 82) C (v := 9) dX4_init_82 (by decide +kernel) ?_
  refine k_nI (pc := 84) C (N' := 9) (by decide +kernel) (by decide +kernel) (Nat.le_of_ble_eq_true rfl) (k' := 5) (n' := 54) rfl rfl (Nat.le_of_ble_eq_true rfl) (Nat.le_of_ble_eq_true rfl) (flt_app _) dX4_init_84 (fun q48 => ?_)
  refine k_putF (pc := 86) C jnX4 rfl 13 (Nat.le_of_ble_eq_true rfl) (sg_w 108 (by decide +kernel) rfl) tyX4 tyX4_ok nmX4 rfl rfl (ty := (.array .int)) (by decide +kernel) rfl rfl (fs' := [.int 0, .int 0, .int 0, .int 0, .int 0, .int 0, .int 0, .int 0, .int 0, .ref q32, .ref q36, .ref q40, .ref q44, .ref q48, .null, .null, .null, .null]) rfl (Nat.le_of_ble_eq_true rfl) dX4_init_86 ?_
  refine k_al0 (pc := 89) C 0 rfl dX4_init_89 ?_
  refine k_ic (pc := 90) C (v := 4) dX4_init_90 (by decide +kernel) ?_
  refine k_nI (pc := 91) C (N' := 4) (by decide +kernel) (by decide +kernel) (Nat.le_of_ble_eq_true rfl) (k' := 6) (n' := 58) rfl rfl (Nat.le_of_ble_eq_true rfl) (Nat.le_of_ble_eq_true rfl) (flt_app _) dX4_init_91 (fun q52 => ?_)
  refine k_putF (pc := 93) C jnX4 rfl 14 (Nat.le_of_ble_eq_true rfl) (sg_w 112 (by decide +kernel) rfl) tyX4 tyX4_ok nmX4 rfl rfl (ty := (.array .int)) (by decide +kernel) rfl rfl (fs' := [.int 0, .int 0, .int 0, .int 0, .int 0, .int 0, .int 0, .int 0, .int 0, .ref q32, .ref q36, .ref q40, .ref q44, .ref q48, .ref q52, .null, .null, .null]) rfl (Nat.le_of_ble_eq_true rfl) dX4_init_93 ?_
  refine k_al0 (pc := 96) C 0 rfl dX4_init_96 ?_
  refine k_bi (pc := 97) C (v := 20) dX4_init_97 (by decide +kernel) ?_
  refine k_nI (pc := 99) C (N' := 20) (by decide +kernel) (by decide +kernel) (Nat.le_of_ble_eq_true rfl) (k' := 7) (n' := 78) rfl rfl (Nat.le_of_ble_eq_true rfl) (Nat.le_of_ble_eq_true rfl) (flt_app _) dX4_init_99 (fun q56 => ?_)
  refine k_putF (pc := 101) C jnX4 rfl 15 (Nat.le_of_ble_eq_true rfl) (sg_w 116 (by decide +kernel) rfl) tyX4 tyX4_ok nmX4 rfl rfl (ty := (.array .int)) (by decide +kernel) rfl rfl (fs' := [.int 0, .int 0, .int 0, .int 0, .int 0, .int 0, .int 0, .int 0, .int 0, .ref q32, .ref q36, .ref q40, .ref q44, .ref q48, .ref q52, .ref q56, .null, .null]) rfl (Nat.le_of_ble_eq_true rfl) dX4_init_101 ?_
  refine k_al0 (pc := 104) C 0 rfl dX4_init_104 ?_
  refine k_bi (pc := 105) C (v := 20) dX4_init_105 (by decide +kernel) ?_
  refine k_nI (pc := 107) C (N' := 20) (by decide +kernel) (by decide +kernel) (Nat.le_of_ble_eq_true rfl) (k' := 8) (n' := 98) rfl rfl (Nat.le_of_ble_eq_true rfl) (Nat.le_of_ble_eq_true rfl) (flt_app _) dX4_init_107 (fun q60 => ?_)
  refine k_putF (pc := 109) C jnX4 rfl 16 (Nat.le_of_ble_eq_true rfl) (sg_w 118 (by decide +kernel) rfl) tyX4 tyX4_ok nmX4 rfl rfl (ty := (.array .int)) (by decide +kernel) rfl rfl (fs' := [.int 0, .int 0, .int 0, .int 0, .int 0, .int 0, .int 0, .int 0, .int 0, .ref q32, .ref q36, .ref q40, .ref q44, .ref q48, .ref q52, .ref q56, .ref q60, .null]) rfl (Nat.le_of_ble_eq_true rfl) dX4_init_109 ?_
  refine k_al0 (pc := 112) C 0 rfl dX4_init_112 ?_
  refine k_bi (pc := 113) C (v := 20) dX4_init_113 (by decide +kernel) ?_
  refine k_nI (pc := 115) C (N' := 20) (by decide +kernel) (by decide +kernel) (Nat.le_of_ble_eq_true rfl) (k' := 9) (n' := 118) rfl rfl (Nat.le_of_ble_eq_true rfl) (Nat.le_of_ble_eq_true rfl) (flt_app _) dX4_init_115 (fun q64 => ?_)
  refine k_putF (pc := 117) C jnX4 rfl 17 (Nat.le_of_ble_eq_true rfl) (sg_w 119 (by decide +kernel) rfl) tyX4 tyX4_ok nmX4 rfl rfl (ty := (.array .int)) (by decide +kernel) rfl rfl (fs' := [.int 0, .int 0, .int 0, .int 0, .int 0, .int 0, .int 0, .int 0, .int 0, .ref q32, .ref q36, .ref q40, .ref q44, .ref q48, .ref q52, .ref q56, .ref q60, .ref q64]) rfl (Nat.le_of_ble_eq_true rfl) dX4_init_117 ?_
  exact k_ret (pc := 120) C E (sh := [([13], [12]), ([13], [12]), ([13], [12]), ([13], [9]), ([13], [9]), ([13], [4]), ([13], [20]), ([13], [20]), ([13], [20])]) rfl (by decide +kernel) rfl (by decide) (by decide +kernel) rfl dX4_init_120
def kl1 : List Nat := [1, 14, 7, 13, 13, 19, 14, 14, 14, 14, 14, 14, 14, 14, 14, 13]
def ll1 : List Nat := [0, 9, 0, 9, 9, 9, 10, 10, 10, 10, 10, 10, 10, 10, 10, 9]
def muJ_k : List Nat := [19, 14, 14, 14, 14, 14, 14, 14, 14, 14]
def muJ_l : List Nat := [9, 10, 10, 10, 10, 10, 10, 10, 10, 10]
theorem muJ_e (cy : Nat → ClassId) (u : Nat → Nat) (j : Nat) (hj : j < 9) : sg_E (mkY muJ_k muJ_l) u cy (M0 muJ_k) (1 + j) = .inl (cy 14, 10, .inr (.inl fun _ => 0)) := by
  have h : ∀ j, j < 9 → muJ_k.getD (1 + j) 99 = 14 ∧ muJ_l.getD (1 + j) 0 = 10 := by decide +kernel
  rw [sg_EJ (show (mkY muJ_k muJ_l).2.1 (1 + j) = 14 from (h j hj).1)]
  have e1 : (M0 muJ_k).2 (1 + j) = fun _ => 0 := by
    funext k
    show vL (muJ_k.getD (1 + j) 99) k = 0
    rw [(h j hj).1]
    rfl
  have e2 : (mkY muJ_k muJ_l).2.2.1 (1 + j) = 10 := (h j hj).2
  rw [e1, e2]
set_option maxHeartbeats 16000000 in
set_option maxRecDepth 100000 in
theorem ini1 (V : sg_V) : cn_ct V yX1_init cX1_init 1 1 2 15 138 kl1 ll1 := by
  refine cn_body (by decide) (by decide) rfl (fun X h0 hV C E => ?_)
  rw [show dfl 1 = [.int 0, .long 0, .null, .null, .int 0, .null, .null, .null, .null] by decide +kernel]
  refine k_al0 (pc := 0) C 0 rfl dX1_init_0 ?_
  refine k_oin (pc := 1) C (sg_w 211 (by decide +kernel) rfl) (Nat.le_of_ble_eq_true rfl) dX1_init_1 ?_
  refine k_al0 (pc := 4) C 0 rfl dX1_init_4 ?_
  refine k_ic (pc := 5) C (v := 0) dX1_init_5 (by decide +kernel) ?_
  refine k_put (pc := 6) C jnX1 rfl 0 (Nat.le_of_ble_eq_true rfl) (sg_w 239 (by decide +kernel) rfl) tyX1 tyX1_ok nmX1 rfl (ty := .int) (by decide +kernel) rfl rfl (fs' := [.int 0, .long 0, .null, .null, .int 0, .null, .null, .null, .null]) rfl (Nat.le_of_ble_eq_true rfl) dX1_init_6 ?_
  refine k_al0 (pc := 9) C 0 rfl dX1_init_9 ?_
  refine k_lc (pc := 10) C (v := 1) dX1_init_10 (by decide +kernel) ?_
  refine k_put (pc := 11) C jnX1 rfl 1 (Nat.le_of_ble_eq_true rfl) (sg_w 242 (by decide +kernel) rfl) tyX1 tyX1_ok nmX1 rfl (ty := .long) (by decide +kernel) rfl rfl (fs' := [.int 0, .long 1, .null, .null, .int 0, .null, .null, .null, .null]) rfl (Nat.le_of_ble_eq_true rfl) dX1_init_11 ?_
  refine k_al0 (pc := 14) C 0 rfl dX1_init_14 ?_
  refine k_bi (pc := 15) C (v := 9) dX1_init_15 (by decide +kernel) ?_
  refine k_nJ (pc := 17) C (N' := 9) (by decide +kernel) (by decide +kernel) (Nat.le_of_ble_eq_true rfl) (k' := 1) (n' := 9) rfl rfl (Nat.le_of_ble_eq_true rfl) (Nat.le_of_ble_eq_true rfl) (flt_app _) dX1_init_17 (fun q11 => ?_)
  refine k_putF (pc := 19) C jnX1 rfl 2 (Nat.le_of_ble_eq_true rfl) (sg_w 245 (by decide +kernel) rfl) tyX1 tyX1_ok nmX1 rfl rfl (ty := (.array .long)) (by decide +kernel) rfl rfl (fs' := [.int 0, .long 1, .ref q11, .null, .int 0, .null, .null, .null, .null]) rfl (Nat.le_of_ble_eq_true rfl) dX1_init_19 ?_
  refine k_al0 (pc := 22) C 0 rfl dX1_init_22 ?_
  refine k_obj3 (pc := 23) C (ini7 X.1) jnX7 tyX7 tyX7_ok (sg_w 212 (by decide +kernel) rfl) (sg_w 213 (by decide +kernel) rfl) (sg_w 5 (by decide +kernel) rfl) rfl (by decide +kernel) rfl (List.mem_of_getElem? (i := 4) rfl) (sg_w 216 (by decide +kernel) rfl) (sg_w 215 (by decide +kernel) rfl) rfl ⟨by decide, by decide, by decide +kernel⟩ (Nat.le_of_ble_eq_true rfl) (Nat.le_of_ble_eq_true rfl) (k' := 2) (n' := 12) rfl rfl (Nat.le_of_ble_eq_true rfl) (Nat.le_of_ble_eq_true rfl) (Nat.le_of_ble_eq_true rfl) (flt_app _) dX1_init_23 dX1_init_26 dX1_init_27 (fun u14 => ?_)
  refine k_putF (pc := 30) C jnX1 rfl 3 (Nat.le_of_ble_eq_true rfl) (sg_w 248 (by decide +kernel) rfl) tyX1 tyX1_ok nmX1 rfl rfl (ty := (.object "SupplyGrid$Score")) (by decide +kernel) rfl rfl (fs' := [.int 0, .long 1, .ref q11, .ref (u14 0), .int 0, .null, .null, .null, .null]) rfl (Nat.le_of_ble_eq_true rfl) dX1_init_30 ?_
  refine k_al0 (pc := 33) C 0 rfl dX1_init_33 ?_
  refine k_ic (pc := 34) C (v := 0) dX1_init_34 (by decide +kernel) ?_
  refine k_put (pc := 35) C jnX1 rfl 4 (Nat.le_of_ble_eq_true rfl) (sg_w 255 (by decide +kernel) rfl) tyX1 tyX1_ok nmX1 rfl (ty := .int) (by decide +kernel) rfl rfl (fs' := [.int 0, .long 1, .ref q11, .ref (u14 0), .int 0, .null, .null, .null, .null]) rfl (Nat.le_of_ble_eq_true rfl) dX1_init_35 ?_
  refine k_al0 (pc := 38) C 0 rfl dX1_init_38 ?_
  refine k_bi (pc := 39) C (v := 9) dX1_init_39 (by decide +kernel) ?_
  refine k_nI (pc := 41) C (N' := 9) (by decide +kernel) (by decide +kernel) (Nat.le_of_ble_eq_true rfl) (k' := 3) (n' := 21) rfl rfl (Nat.le_of_ble_eq_true rfl) (Nat.le_of_ble_eq_true rfl) (flt_app _) dX1_init_41 (fun q21 => ?_)
  refine k_putF (pc := 43) C jnX1 rfl 5 (Nat.le_of_ble_eq_true rfl) (sg_w 256 (by decide +kernel) rfl) tyX1 tyX1_ok nmX1 rfl rfl (ty := (.array .int)) (by decide +kernel) rfl rfl (fs' := [.int 0, .long 1, .ref q11, .ref (u14 0), .int 0, .ref q21, .null, .null, .null]) rfl (Nat.le_of_ble_eq_true rfl) dX1_init_43 ?_
  refine k_al0 (pc := 46) C 0 rfl dX1_init_46 ?_
  refine k_bi (pc := 47) C (v := 9) dX1_init_47 (by decide +kernel) ?_
  refine k_nI (pc := 49) C (N' := 9) (by decide +kernel) (by decide +kernel) (Nat.le_of_ble_eq_true rfl) (k' := 4) (n' := 30) rfl rfl (Nat.le_of_ble_eq_true rfl) (Nat.le_of_ble_eq_true rfl) (flt_app _) dX1_init_49 (fun q25 => ?_)
  refine k_putF (pc := 51) C jnX1 rfl 6 (Nat.le_of_ble_eq_true rfl) (sg_w 257 (by decide +kernel) rfl) tyX1 tyX1_ok nmX1 rfl rfl (ty := (.array .int)) (by decide +kernel) rfl rfl (fs' := [.int 0, .long 1, .ref q11, .ref (u14 0), .int 0, .ref q21, .ref q25, .null, .null]) rfl (Nat.le_of_ble_eq_true rfl) dX1_init_51 ?_
  refine k_al0 (pc := 54) C 0 rfl dX1_init_54 ?_
  refine k_bi (pc := 55) C (v := 9) dX1_init_55 (by decide +kernel) ?_
  refine k_bi (pc := 57) C (v := 10) dX1_init_57 (by decide +kernel) ?_
  refine k_mul (pc := 59) C (i0 := 7) (i1 := 2) (t := 19) (ti := 14) (N' := 9) (K' := 10) (ty := .long) (ks := muJ_k) (ls1 := muJ_l) (a0 := .inr (.inl fun _ => 0)) (sg_w 237 (by decide +kernel) rfl) (List.mem_of_getElem? (i := 3) rfl) (sg_w 236 (by decide +kernel) rfl) (fun _ => rfl) (fun _ => rfl) (fun _ _ h => h) (by decide +kernel) rfl (by decide) rfl (by decide +kernel) muJ_e (fun _ => rfl) (by decide +kernel) (by decide +kernel) (by decide +kernel) (by decide +kernel) (Nat.le_of_ble_eq_true rfl) (Nat.le_of_ble_eq_true rfl) (Nat.le_of_ble_eq_true rfl) rfl rfl (k' := 14) (n' := 129) rfl rfl (Nat.le_of_ble_eq_true rfl) (Nat.le_of_ble_eq_true rfl) (flt_app _) dX1_init_59 (fun u30 => ?_)
  refine k_putF (pc := 63) C jnX1 rfl 7 (Nat.le_of_ble_eq_true rfl) (sg_w 258 (by decide +kernel) rfl) tyX1 tyX1_ok nmX1 rfl rfl (ty := (.array (.array .long))) (by decide +kernel) rfl rfl (fs' := [.int 0, .long 1, .ref q11, .ref (u14 0), .int 0, .ref q21, .ref q25, .ref (u30 0), .null]) rfl (Nat.le_of_ble_eq_true rfl) dX1_init_63 ?_
  refine k_al0 (pc := 66) C 0 rfl dX1_init_66 ?_
  refine k_bi (pc := 67) C (v := 9) dX1_init_67 (by decide +kernel) ?_
  refine k_nI (pc := 69) C (N' := 9) (by decide +kernel) (by decide +kernel) (Nat.le_of_ble_eq_true rfl) (k' := 15) (n' := 138) rfl rfl (Nat.le_of_ble_eq_true rfl) (Nat.le_of_ble_eq_true rfl) (flt_app _) dX1_init_69 (fun q34 => ?_)
  refine k_putF (pc := 71) C jnX1 rfl 8 (Nat.le_of_ble_eq_true rfl) (sg_w 259 (by decide +kernel) rfl) tyX1 tyX1_ok nmX1 rfl rfl (ty := (.array .int)) (by decide +kernel) rfl rfl (fs' := [.int 0, .long 1, .ref q11, .ref (u14 0), .int 0, .ref q21, .ref q25, .ref (u30 0), .ref q34]) rfl (Nat.le_of_ble_eq_true rfl) dX1_init_71 ?_
  exact k_ret (pc := 74) C E (sh := [([14], [9]), ([7], [0]), ([13], [9]), ([13], [9]), ([19, 14, 14, 14, 14, 14, 14, 14, 14, 14], [9, 10, 10, 10, 10, 10, 10, 10, 10, 10]), ([13], [9])]) rfl (by decide +kernel) rfl (by decide) (by decide +kernel) rfl dX1_init_74
def kl6 : List Nat := [6, 4, 13, 13, 13, 13, 13, 13, 13, 13, 13, 13]
def ll6 : List Nat := [0, 0, 12, 12, 12, 9, 9, 4, 20, 20, 20, 700]
set_option maxHeartbeats 16000000 in
set_option maxRecDepth 100000 in
theorem ini6 (V : sg_V) : cn_ct V yX6_init cX6_init 1 6 2 11 836 kl6 ll6 := by
  refine cn_body (by decide) (by decide) rfl (fun X h0 hV C E => ?_)
  rw [show dfl 6 = [.int 0, .int 0, .int 0, .null, .null, .int 0, .int 0, .int 0, .int 0, .int 0, .int 0, .int 0, .int 0] by decide +kernel]
  refine k_al0 (pc := 0) C 0 rfl dX6_init_0 ?_
  refine k_oin (pc := 1) C (sg_w 34 (by decide +kernel) rfl) (Nat.le_of_ble_eq_true rfl) dX6_init_1 ?_
  refine k_al0 (pc := 4) C 0 rfl dX6_init_4 ?_
  refine k_ic (pc := 5) C (v := 0) dX6_init_5 (by decide +kernel) ?_
  refine k_put (pc := 6) C jnX6 rfl 0 (Nat.le_of_ble_eq_true rfl) (sg_w 159 (by decide +kernel) rfl) tyX6 tyX6_ok nmX6 rfl (ty := .int) (by decide +kernel) rfl rfl (fs' := [.int 0, .int 0, .int 0, .null, .null, .int 0, .int 0, .int 0, .int 0, .int 0, .int 0, .int 0, .int 0]) rfl (Nat.le_of_ble_eq_true rfl) dX6_init_6 ?_
  refine k_al0 (pc := 9) C 0 rfl dX6_init_9 ?_
  refine k_ic (pc := 10) C (v := 0) dX6_init_10 (by decide +kernel) ?_
  refine k_put (pc := 11) C jnX6 rfl 1 (Nat.le_of_ble_eq_true rfl) (sg_w 161 (by decide +kernel) rfl) tyX6 tyX6_ok nmX6 rfl (ty := .int) (by decide +kernel) rfl rfl (fs' := [.int 0, .int 0, .int 0, .null, .null, .int 0, .int 0, .int 0, .int 0, .int 0, .int 0, .int 0, .int 0]) rfl (Nat.le_of_ble_eq_true rfl) dX6_init_11 ?_
  refine k_al0 (pc := 14) C 0 rfl dX6_init_14 ?_
  refine k_ic (pc := 15) C (v := (-1)) dX6_init_15 (by decide +kernel) ?_
  refine k_put (pc := 16) C jnX6 rfl 2 (Nat.le_of_ble_eq_true rfl) (sg_w 163 (by decide +kernel) rfl) tyX6 tyX6_ok nmX6 rfl (ty := .int) (by decide +kernel) rfl rfl (fs' := [.int 0, .int 0, .int (-1), .null, .null, .int 0, .int 0, .int 0, .int 0, .int 0, .int 0, .int 0, .int 0]) rfl (Nat.le_of_ble_eq_true rfl) dX6_init_16 ?_
  refine k_al0 (pc := 19) C 0 rfl dX6_init_19 ?_
  refine k_obj3 (pc := 20) C (ini4 X.1) jnX4 tyX4 tyX4_ok (sg_w 35 (by decide +kernel) rfl) (sg_w 36 (by decide +kernel) rfl) (sg_w 3 (by decide +kernel) rfl) rfl (by decide +kernel) rfl (List.mem_of_getElem? (i := 1) rfl) (sg_w 39 (by decide +kernel) rfl) (sg_w 38 (by decide +kernel) rfl) rfl ⟨by decide, by decide, by decide +kernel⟩ (Nat.le_of_ble_eq_true rfl) (Nat.le_of_ble_eq_true rfl) (k' := 10) (n' := 136) rfl rfl (Nat.le_of_ble_eq_true rfl) (Nat.le_of_ble_eq_true rfl) (Nat.le_of_ble_eq_true rfl) (flt_app _) dX6_init_20 dX6_init_23 dX6_init_24 (fun u13 => ?_)
  refine k_putF (pc := 27) C jnX6 rfl 3 (Nat.le_of_ble_eq_true rfl) (sg_w 165 (by decide +kernel) rfl) tyX6 tyX6_ok nmX6 rfl rfl (ty := (.object "SupplyGrid$Net")) (by decide +kernel) rfl rfl (fs' := [.int 0, .int 0, .int (-1), .ref (u13 0), .null, .int 0, .int 0, .int 0, .int 0, .int 0, .int 0, .int 0, .int 0]) rfl (Nat.le_of_ble_eq_true rfl) dX6_init_27 ?_
  refine k_al0 (pc := 30) C 0 rfl dX6_init_30 ?_
  refine k_si (pc := 31) C (v := 700) dX6_init_31 (by decide +kernel) ?_
  refine k_nI (pc := 34) C (N' := 700) (by decide +kernel) (by decide +kernel) (Nat.le_of_ble_eq_true rfl) (k' := 11) (n' := 836) rfl rfl (Nat.le_of_ble_eq_true rfl) (Nat.le_of_ble_eq_true rfl) (flt_app _) dX6_init_34 (fun q17 => ?_)
  refine k_putF (pc := 36) C jnX6 rfl 4 (Nat.le_of_ble_eq_true rfl) (sg_w 167 (by decide +kernel) rfl) tyX6 tyX6_ok nmX6 rfl rfl (ty := (.array .int)) (by decide +kernel) rfl rfl (fs' := [.int 0, .int 0, .int (-1), .ref (u13 0), .ref q17, .int 0, .int 0, .int 0, .int 0, .int 0, .int 0, .int 0, .int 0]) rfl (Nat.le_of_ble_eq_true rfl) dX6_init_36 ?_
  refine k_al0 (pc := 39) C 0 rfl dX6_init_39 ?_
  refine k_ic (pc := 40) C (v := 0) dX6_init_40 (by decide +kernel) ?_
  refine k_put (pc := 41) C jnX6 rfl 5 (Nat.le_of_ble_eq_true rfl) (sg_w 168 (by decide +kernel) rfl) tyX6 tyX6_ok nmX6 rfl (ty := .int) (by decide +kernel) rfl rfl (fs' := [.int 0, .int 0, .int (-1), .ref (u13 0), .ref q17, .int 0, .int 0, .int 0, .int 0, .int 0, .int 0, .int 0, .int 0]) rfl (Nat.le_of_ble_eq_true rfl) dX6_init_41 ?_
  refine k_al0 (pc := 44) C 0 rfl dX6_init_44 ?_
  refine k_ic (pc := 45) C (v := 0) dX6_init_45 (by decide +kernel) ?_
  refine k_put (pc := 46) C jnX6 rfl 6 (Nat.le_of_ble_eq_true rfl) (sg_w 169 (by decide +kernel) rfl) tyX6 tyX6_ok nmX6 rfl (ty := .int) (by decide +kernel) rfl rfl (fs' := [.int 0, .int 0, .int (-1), .ref (u13 0), .ref q17, .int 0, .int 0, .int 0, .int 0, .int 0, .int 0, .int 0, .int 0]) rfl (Nat.le_of_ble_eq_true rfl) dX6_init_46 ?_
  refine k_al0 (pc := 49) C 0 rfl dX6_init_49 ?_
  refine k_ic (pc := 50) C (v := 0) dX6_init_50 (by decide +kernel) ?_
  refine k_put (pc := 51) C jnX6 rfl 7 (Nat.le_of_ble_eq_true rfl) (sg_w 170 (by decide +kernel) rfl) tyX6 tyX6_ok nmX6 rfl (ty := .int) (by decide +kernel) rfl rfl (fs' := [.int 0, .int 0, .int (-1), .ref (u13 0), .ref q17, .int 0, .int 0, .int 0, .int 0, .int 0, .int 0, .int 0, .int 0]) rfl (Nat.le_of_ble_eq_true rfl) dX6_init_51 ?_
  refine k_al0 (pc := 54) C 0 rfl dX6_init_54 ?_
  refine k_ic (pc := 55) C (v := 0) dX6_init_55 (by decide +kernel) ?_
  refine k_put (pc := 56) C jnX6 rfl 8 (Nat.le_of_ble_eq_true rfl) (sg_w 171 (by decide +kernel) rfl) tyX6 tyX6_ok nmX6 rfl (ty := .int) (by decide +kernel) rfl rfl (fs' := [.int 0, .int 0, .int (-1), .ref (u13 0), .ref q17, .int 0, .int 0, .int 0, .int 0, .int 0, .int 0, .int 0, .int 0]) rfl (Nat.le_of_ble_eq_true rfl) dX6_init_56 ?_
  refine k_al0 (pc := 59) C 0 rfl dX6_init_59 ?_
  refine k_ic (pc := 60) C (v := 0) dX6_init_60 (by decide +kernel) ?_
  refine k_put (pc := 61) C jnX6 rfl 9 (Nat.le_of_ble_eq_true rfl) (sg_w 172 (by decide +kernel) rfl) tyX6 tyX6_ok nmX6 rfl (ty := .int) (by decide +kernel) rfl rfl (fs' := [.int 0, .int 0, .int (-1), .ref (u13 0), .ref q17, .int 0, .int 0, .int 0, .int 0, .int 0, .int 0, .int 0, .int 0]) rfl (Nat.le_of_ble_eq_true rfl) dX6_init_61 ?_
  refine k_al0 (pc := 64) C 0 rfl dX6_init_64 ?_
  refine k_ic (pc := 65) C (v := 0) dX6_init_65 (by decide +kernel) ?_
  refine k_put (pc := 66) C jnX6 rfl 10 (Nat.le_of_ble_eq_true rfl) (sg_w 173 (by decide +kernel) rfl) tyX6 tyX6_ok nmX6 rfl (ty := .int) (by decide +kernel) rfl rfl (fs' := [.int 0, .int 0, .int (-1), .ref (u13 0), .ref q17, .int 0, .int 0, .int 0, .int 0, .int 0, .int 0, .int 0, .int 0]) rfl (Nat.le_of_ble_eq_true rfl) dX6_init_66 ?_
  refine k_al0 (pc := 69) C 0 rfl dX6_init_69 ?_
  refine k_ic (pc := 70) C (v := 0) dX6_init_70 (by decide +kernel) ?_
  refine k_put (pc := 71) C jnX6 rfl 11 (Nat.le_of_ble_eq_true rfl) (sg_w 174 (by decide +kernel) rfl) tyX6 tyX6_ok nmX6 rfl (ty := .int) (by decide +kernel) rfl rfl (fs' := [.int 0, .int 0, .int (-1), .ref (u13 0), .ref q17, .int 0, .int 0, .int 0, .int 0, .int 0, .int 0, .int 0, .int 0]) rfl (Nat.le_of_ble_eq_true rfl) dX6_init_71 ?_
  refine k_al0 (pc := 74) C 0 rfl dX6_init_74 ?_
  refine k_ic (pc := 75) C (v := 0) dX6_init_75 (by decide +kernel) ?_
  refine k_put (pc := 76) C jnX6 rfl 12 (Nat.le_of_ble_eq_true rfl) (sg_w 175 (by decide +kernel) rfl) tyX6 tyX6_ok nmX6 rfl (ty := .int) (by decide +kernel) rfl rfl (fs' := [.int 0, .int 0, .int (-1), .ref (u13 0), .ref q17, .int 0, .int 0, .int 0, .int 0, .int 0, .int 0, .int 0, .int 0]) rfl (Nat.le_of_ble_eq_true rfl) dX6_init_76 ?_
  exact k_ret (pc := 79) C E (sh := [([4, 13, 13, 13, 13, 13, 13, 13, 13, 13], [0, 12, 12, 12, 9, 9, 4, 20, 20, 20]), ([13], [700])]) rfl (by decide +kernel) rfl (by decide) (by decide +kernel) rfl dX6_init_79
def kl0 : List Nat := [0, 13, 13, 1, 14, 7, 13, 13, 19, 14, 14, 14, 14, 14, 14, 14, 14, 14, 13]
def ll0 : List Nat := [0, 9, 4, 0, 9, 0, 9, 9, 9, 10, 10, 10, 10, 10, 10, 10, 10, 10, 9]
set_option maxHeartbeats 16000000 in
set_option maxRecDepth 100000 in
theorem ini0 (V : sg_V) : cn_ct V yX0_init cX0_init 1 0 3 18 160 kl0 ll0 := by
  refine cn_body (by decide) (by decide) rfl (fun X h0 hV C E => ?_)
  rw [show dfl 0 = [.long 0, .long 0, .null, .null, .null] by decide +kernel]
  refine k_al0 (pc := 0) C 0 rfl dX0_init_0 ?_
  refine k_oin (pc := 1) C (sg_w 284 (by decide +kernel) rfl) (Nat.le_of_ble_eq_true rfl) dX0_init_1 ?_
  refine k_al0 (pc := 4) C 0 rfl dX0_init_4 ?_
  refine k_lc (pc := 5) C (v := 0) dX0_init_5 (by decide +kernel) ?_
  refine k_put (pc := 6) C jnX0 rfl 0 (Nat.le_of_ble_eq_true rfl) (sg_w 287 (by decide +kernel) rfl) tyX0 tyX0_ok nmX0 rfl (ty := .long) (by decide +kernel) rfl rfl (fs' := [.long 0, .long 0, .null, .null, .null]) rfl (Nat.le_of_ble_eq_true rfl) dX0_init_6 ?_
  refine k_al0 (pc := 9) C 0 rfl dX0_init_9 ?_
  refine k_lc (pc := 10) C (v := 1) dX0_init_10 (by decide +kernel) ?_
  refine k_put (pc := 11) C jnX0 rfl 1 (Nat.le_of_ble_eq_true rfl) (sg_w 289 (by decide +kernel) rfl) tyX0 tyX0_ok nmX0 rfl (ty := .long) (by decide +kernel) rfl rfl (fs' := [.long 0, .long 1, .null, .null, .null]) rfl (Nat.le_of_ble_eq_true rfl) dX0_init_11 ?_
  refine k_al0 (pc := 14) C 0 rfl dX0_init_14 ?_
  refine k_bi (pc := 15) C (v := 9) dX0_init_15 (by decide +kernel) ?_
  refine k_nI (pc := 17) C (N' := 9) (by decide +kernel) (by decide +kernel) (Nat.le_of_ble_eq_true rfl) (k' := 1) (n' := 9) rfl rfl (Nat.le_of_ble_eq_true rfl) (Nat.le_of_ble_eq_true rfl) (flt_app _) dX0_init_17 (fun q11 => ?_)
  refine k_putF (pc := 19) C jnX0 rfl 2 (Nat.le_of_ble_eq_true rfl) (sg_w 291 (by decide +kernel) rfl) tyX0 tyX0_ok nmX0 rfl rfl (ty := (.array .int)) (by decide +kernel) rfl rfl (fs' := [.long 0, .long 1, .ref q11, .null, .null]) rfl (Nat.le_of_ble_eq_true rfl) dX0_init_19 ?_
  refine k_al0 (pc := 22) C 0 rfl dX0_init_22 ?_
  refine k_ic (pc := 23) C (v := 4) dX0_init_23 (by decide +kernel) ?_
  refine k_nI (pc := 24) C (N' := 4) (by decide +kernel) (by decide +kernel) (Nat.le_of_ble_eq_true rfl) (k' := 2) (n' := 13) rfl rfl (Nat.le_of_ble_eq_true rfl) (Nat.le_of_ble_eq_true rfl) (flt_app _) dX0_init_24 (fun q15 => ?_)
  refine k_putF (pc := 26) C jnX0 rfl 3 (Nat.le_of_ble_eq_true rfl) (sg_w 293 (by decide +kernel) rfl) tyX0 tyX0_ok nmX0 rfl rfl (ty := (.array .int)) (by decide +kernel) rfl rfl (fs' := [.long 0, .long 1, .ref q11, .ref q15, .null]) rfl (Nat.le_of_ble_eq_true rfl) dX0_init_26 ?_
  refine k_al0 (pc := 29) C 0 rfl dX0_init_29 ?_
  refine k_obj3 (pc := 30) C (ini1 X.1) jnX1 tyX1 tyX1_ok (sg_w 285 (by decide +kernel) rfl) (sg_w 207 (by decide +kernel) rfl) (sg_w 4 (by decide +kernel) rfl) rfl (by decide +kernel) rfl (List.mem_of_getElem? (i := 6) rfl) (sg_w 210 (by decide +kernel) rfl) (sg_w 209 (by decide +kernel) rfl) rfl ⟨by decide, by decide, by decide +kernel⟩ (Nat.le_of_ble_eq_true rfl) (Nat.le_of_ble_eq_true rfl) (k' := 18) (n' := 160) rfl rfl (Nat.le_of_ble_eq_true rfl) (Nat.le_of_ble_eq_true rfl) (Nat.le_of_ble_eq_true rfl) (flt_app _) dX0_init_30 dX0_init_33 dX0_init_34 (fun u18 => ?_)
  refine k_putF (pc := 37) C jnX0 rfl 4 (Nat.le_of_ble_eq_true rfl) (sg_w 295 (by decide +kernel) rfl) tyX0 tyX0_ok nmX0 rfl rfl (ty := (.object "SupplyGrid$Flow")) (by decide +kernel) rfl rfl (fs' := [.long 0, .long 1, .ref q11, .ref q15, .ref (u18 0)]) rfl (Nat.le_of_ble_eq_true rfl) dX0_init_37 ?_
  exact k_ret (pc := 40) C E (sh := [([13], [9]), ([13], [4]), ([1, 14, 7, 13, 13, 19, 14, 14, 14, 14, 14, 14, 14, 14, 14, 13], [0, 9, 0, 9, 9, 9, 10, 10, 10, 10, 10, 10, 10, 10, 10, 9])]) rfl (by decide +kernel) rfl (by decide) (by decide +kernel) rfl dX0_init_40
def kl9 : List Nat := [9, 18, 13, 13, 13, 13, 13, 13, 13, 13, 13, 13, 13, 13, 13, 13, 13, 13, 13, 13, 13, 13, 13, 13, 13, 13, 13, 13, 13, 13, 13, 13, 13, 13, 13, 13, 13, 13, 13, 13, 13, 13, 13, 13, 13, 13, 13, 13, 13, 13, 13, 1, 14, 7, 13, 13, 19, 14, 14, 14, 14, 14, 14, 14, 14, 14, 13]
def ll9 : List Nat := [0, 49, 12, 12, 12, 12, 12, 12, 12, 12, 12, 12, 12, 12, 12, 12, 12, 12, 12, 12, 12, 12, 12, 12, 12, 12, 12, 12, 12, 12, 12, 12, 12, 12, 12, 12, 12, 12, 12, 12, 12, 12, 12, 12, 12, 12, 12, 12, 12, 12, 12, 0, 9, 0, 9, 9, 9, 10, 10, 10, 10, 10, 10, 10, 10, 10, 9]
def muI_k : List Nat := [18, 13, 13, 13, 13, 13, 13, 13, 13, 13, 13, 13, 13, 13, 13, 13, 13, 13, 13, 13, 13, 13, 13, 13, 13, 13, 13, 13, 13, 13, 13, 13, 13, 13, 13, 13, 13, 13, 13, 13, 13, 13, 13, 13, 13, 13, 13, 13, 13, 13]
def muI_l : List Nat := [49, 12, 12, 12, 12, 12, 12, 12, 12, 12, 12, 12, 12, 12, 12, 12, 12, 12, 12, 12, 12, 12, 12, 12, 12, 12, 12, 12, 12, 12, 12, 12, 12, 12, 12, 12, 12, 12, 12, 12, 12, 12, 12, 12, 12, 12, 12, 12, 12, 12]
theorem muI_e (cy : Nat → ClassId) (u : Nat → Nat) (j : Nat) (hj : j < 49) : sg_E (mkY muI_k muI_l) u cy (M0 muI_k) (1 + j) = .inl (cy 13, 12, .inl fun _ => 0) := by
  have h : ∀ j, j < 49 → muI_k.getD (1 + j) 99 = 13 ∧ muI_l.getD (1 + j) 0 = 12 := by decide +kernel
  rw [sg_EI (show (mkY muI_k muI_l).2.1 (1 + j) = 13 from (h j hj).1) (Or.inr (Or.inl rfl))]
  have e1 : (M0 muI_k).1 (1 + j) = fun _ => 0 := by
    funext k
    show vI (muI_k.getD (1 + j) 99) k = 0
    rw [(h j hj).1]
    rfl
  have e2 : (mkY muI_k muI_l).2.2.1 (1 + j) = 12 := (h j hj).2
  rw [e1, e2]
set_option maxHeartbeats 16000000 in
set_option maxRecDepth 100000 in
theorem ini9 (V : sg_V) : cn_ct V yX9_init cX9_init 1 9 3 66 784 kl9 ll9 := by
  refine cn_body (by decide) (by decide) rfl (fun X h0 hV C E => ?_)
  rw [show dfl 9 = [.int 0, .int 0, .int 0, .null, .null] by decide +kernel]
  refine k_al0 (pc := 0) C 0 rfl dX9_init_0 ?_
  refine k_oin (pc := 1) C (sg_w 312 (by decide +kernel) rfl) (Nat.le_of_ble_eq_true rfl) dX9_init_1 ?_
  refine k_al0 (pc := 4) C 0 rfl dX9_init_4 ?_
  refine k_ic (pc := 5) C (v := 0) dX9_init_5 (by decide +kernel) ?_
  refine k_put (pc := 6) C jnX9 rfl 0 (Nat.le_of_ble_eq_true rfl) (sg_w 317 (by decide +kernel) rfl) tyX9 tyX9_ok nmX9 rfl (ty := .boolean) (by decide +kernel) rfl rfl (fs' := [.int 0, .int 0, .int 0, .null, .null]) rfl (Nat.le_of_ble_eq_true rfl) dX9_init_6 ?_
  refine k_al0 (pc := 9) C 0 rfl dX9_init_9 ?_
  refine k_ic (pc := 10) C (v := 0) dX9_init_10 (by decide +kernel) ?_
  refine k_put (pc := 11) C jnX9 rfl 1 (Nat.le_of_ble_eq_true rfl) (sg_w 319 (by decide +kernel) rfl) tyX9 tyX9_ok nmX9 rfl (ty := .int) (by decide +kernel) rfl rfl (fs' := [.int 0, .int 0, .int 0, .null, .null]) rfl (Nat.le_of_ble_eq_true rfl) dX9_init_11 ?_
  refine k_al0 (pc := 14) C 0 rfl dX9_init_14 ?_
  refine k_ic (pc := 15) C (v := (-1)) dX9_init_15 (by decide +kernel) ?_
  refine k_put (pc := 16) C jnX9 rfl 2 (Nat.le_of_ble_eq_true rfl) (sg_w 321 (by decide +kernel) rfl) tyX9 tyX9_ok nmX9 rfl (ty := .int) (by decide +kernel) rfl rfl (fs' := [.int 0, .int 0, .int (-1), .null, .null]) rfl (Nat.le_of_ble_eq_true rfl) dX9_init_16 ?_
  refine k_al0 (pc := 19) C 0 rfl dX9_init_19 ?_
  refine k_bi (pc := 20) C (v := 49) dX9_init_20 (by decide +kernel) ?_
  refine k_bi (pc := 22) C (v := 12) dX9_init_22 (by decide +kernel) ?_
  refine k_mul (pc := 24) C (i0 := 6) (i1 := 1) (t := 18) (ti := 13) (N' := 49) (K' := 12) (ty := .int) (ks := muI_k) (ls1 := muI_l) (a0 := .inl fun _ => 0) (sg_w 313 (by decide +kernel) rfl) (List.mem_of_getElem? (i := 2) rfl) (sg_w 158 (by decide +kernel) rfl) (fun _ => rfl) (fun _ => rfl) (fun _ _ h => h) (by decide +kernel) rfl (by decide) rfl (by decide +kernel) muI_e (fun _ => rfl) (by decide +kernel) (by decide +kernel) (by decide +kernel) (by decide +kernel) (Nat.le_of_ble_eq_true rfl) (Nat.le_of_ble_eq_true rfl) (Nat.le_of_ble_eq_true rfl) rfl rfl (k' := 50) (n' := 637) rfl rfl (Nat.le_of_ble_eq_true rfl) (Nat.le_of_ble_eq_true rfl) (flt_app _) dX9_init_24 (fun u15 => ?_)
  refine k_putF (pc := 28) C jnX9 rfl 3 (Nat.le_of_ble_eq_true rfl) (sg_w 323 (by decide +kernel) rfl) tyX9 tyX9_ok nmX9 rfl rfl (ty := (.array (.array .int))) (by decide +kernel) rfl rfl (fs' := [.int 0, .int 0, .int (-1), .ref (u15 0), .null]) rfl (Nat.le_of_ble_eq_true rfl) dX9_init_28 ?_
  refine k_al0 (pc := 31) C 0 rfl dX9_init_31 ?_
  refine k_obj3 (pc := 32) C (ini1 X.1) jnX1 tyX1 tyX1_ok (sg_w 315 (by decide +kernel) rfl) (sg_w 207 (by decide +kernel) rfl) (sg_w 4 (by decide +kernel) rfl) rfl (by decide +kernel) rfl (List.mem_of_getElem? (i := 8) rfl) (sg_w 210 (by decide +kernel) rfl) (sg_w 209 (by decide +kernel) rfl) rfl ⟨by decide, by decide, by decide +kernel⟩ (Nat.le_of_ble_eq_true rfl) (Nat.le_of_ble_eq_true rfl) (k' := 66) (n' := 784) rfl rfl (Nat.le_of_ble_eq_true rfl) (Nat.le_of_ble_eq_true rfl) (Nat.le_of_ble_eq_true rfl) (flt_app _) dX9_init_32 dX9_init_35 dX9_init_36 (fun u18 => ?_)
  refine k_putF (pc := 39) C jnX9 rfl 4 (Nat.le_of_ble_eq_true rfl) (sg_w 325 (by decide +kernel) rfl) tyX9 tyX9_ok nmX9 rfl rfl (ty := (.object "SupplyGrid$Flow")) (by decide +kernel) rfl rfl (fs' := [.int 0, .int 0, .int (-1), .ref (u15 0), .ref (u18 0)]) rfl (Nat.le_of_ble_eq_true rfl) dX9_init_39 ?_
  exact k_ret (pc := 42) C E (sh := [([18, 13, 13, 13, 13, 13, 13, 13, 13, 13, 13, 13, 13, 13, 13, 13, 13, 13, 13, 13, 13, 13, 13, 13, 13, 13, 13, 13, 13, 13, 13, 13, 13, 13, 13, 13, 13, 13, 13, 13, 13, 13, 13, 13, 13, 13, 13, 13, 13, 13], [49, 12, 12, 12, 12, 12, 12, 12, 12, 12, 12, 12, 12, 12, 12, 12, 12, 12, 12, 12, 12, 12, 12, 12, 12, 12, 12, 12, 12, 12, 12, 12, 12, 12, 12, 12, 12, 12, 12, 12, 12, 12, 12, 12, 12, 12, 12, 12, 12, 12]), ([1, 14, 7, 13, 13, 19, 14, 14, 14, 14, 14, 14, 14, 14, 14, 13], [0, 9, 0, 9, 9, 9, 10, 10, 10, 10, 10, 10, 10, 10, 10, 9])]) rfl (by decide +kernel) rfl (by decide) (by decide +kernel) rfl dX9_init_42
def kl8 : List Nat := [8, 13, 13, 13, 13, 7, 7, 1, 14, 7, 13, 13, 19, 14, 14, 14, 14, 14, 14, 14, 14, 14, 13]
def ll8 : List Nat := [0, 20, 3, 12, 12, 0, 0, 0, 9, 0, 9, 9, 9, 10, 10, 10, 10, 10, 10, 10, 10, 10, 9]
set_option maxHeartbeats 16000000 in
set_option maxRecDepth 100000 in
theorem ini8 (V : sg_V) : cn_ct V yX8_init cX8_init 1 8 3 22 200 kl8 ll8 := by
  refine cn_body (by decide) (by decide) rfl (fun X h0 hV C E => ?_)
  rw [show dfl 8 = [.int 0, .int 0, .null, .int 0, .null, .int 0, .null, .int 0, .int 0, .int 0, .null, .null, .null, .null] by decide +kernel]
  refine k_al0 (pc := 0) C 0 rfl dX8_init_0 ?_
  refine k_oin (pc := 1) C (sg_w 381 (by decide +kernel) rfl) (Nat.le_of_ble_eq_true rfl) dX8_init_1 ?_
  refine k_al0 (pc := 4) C 0 rfl dX8_init_4 ?_
  refine k_ic (pc := 5) C (v := 0) dX8_init_5 (by decide +kernel) ?_
  refine k_put (pc := 6) C jnX8 rfl 0 (Nat.le_of_ble_eq_true rfl) (sg_w 386 (by decide +kernel) rfl) tyX8 tyX8_ok nmX8 rfl (ty := .int) (by decide +kernel) rfl rfl (fs' := [.int 0, .int 0, .null, .int 0, .null, .int 0, .null, .int 0, .int 0, .int 0, .null, .null, .null, .null]) rfl (Nat.le_of_ble_eq_true rfl) dX8_init_6 ?_
  refine k_al0 (pc := 9) C 0 rfl dX8_init_9 ?_
  refine k_ic (pc := 10) C (v := 0) dX8_init_10 (by decide +kernel) ?_
  refine k_put (pc := 11) C jnX8 rfl 1 (Nat.le_of_ble_eq_true rfl) (sg_w 388 (by decide +kernel) rfl) tyX8 tyX8_ok nmX8 rfl (ty := .boolean) (by decide +kernel) rfl rfl (fs' := [.int 0, .int 0, .null, .int 0, .null, .int 0, .null, .int 0, .int 0, .int 0, .null, .null, .null, .null]) rfl (Nat.le_of_ble_eq_true rfl) dX8_init_11 ?_
  refine k_al0 (pc := 14) C 0 rfl dX8_init_14 ?_
  refine k_bi (pc := 15) C (v := 20) dX8_init_15 (by decide +kernel) ?_
  refine k_nI (pc := 17) C (N' := 20) (by decide +kernel) (by decide +kernel) (Nat.le_of_ble_eq_true rfl) (k' := 1) (n' := 20) rfl rfl (Nat.le_of_ble_eq_true rfl) (Nat.le_of_ble_eq_true rfl) (flt_app _) dX8_init_17 (fun q11 => ?_)
  refine k_putF (pc := 19) C jnX8 rfl 2 (Nat.le_of_ble_eq_true rfl) (sg_w 390 (by decide +kernel) rfl) tyX8 tyX8_ok nmX8 rfl rfl (ty := (.array .int)) (by decide +kernel) rfl rfl (fs' := [.int 0, .int 0, .ref q11, .int 0, .null, .int 0, .null, .int 0, .int 0, .int 0, .null, .null, .null, .null]) rfl (Nat.le_of_ble_eq_true rfl) dX8_init_19 ?_
  refine k_al0 (pc := 22) C 0 rfl dX8_init_22 ?_
  refine k_ic (pc := 23) C (v := (-1)) dX8_init_23 (by decide +kernel) ?_
  refine k_put (pc := 24) C jnX8 rfl 3 (Nat.le_of_ble_eq_true rfl) (sg_w 392 (by decide +kernel) rfl) tyX8 tyX8_ok nmX8 rfl (ty := .int) (by decide +kernel) rfl rfl (fs' := [.int 0, .int 0, .ref q11, .int (-1), .null, .int 0, .null, .int 0, .int 0, .int 0, .null, .null, .null, .null]) rfl (Nat.le_of_ble_eq_true rfl) dX8_init_24 ?_
  refine k_al0 (pc := 27) C 0 rfl dX8_init_27 ?_
  refine k_ic (pc := 28) C (v := 3) dX8_init_28 (by decide +kernel) ?_
  refine k_nI (pc := 29) C (N' := 3) (by decide +kernel) (by decide +kernel) (Nat.le_of_ble_eq_true rfl) (k' := 2) (n' := 23) rfl rfl (Nat.le_of_ble_eq_true rfl) (Nat.le_of_ble_eq_true rfl) (flt_app _) dX8_init_29 (fun q18 => ?_)
  refine k_putF (pc := 31) C jnX8 rfl 4 (Nat.le_of_ble_eq_true rfl) (sg_w 394 (by decide +kernel) rfl) tyX8 tyX8_ok nmX8 rfl rfl (ty := (.array .int)) (by decide +kernel) rfl rfl (fs' := [.int 0, .int 0, .ref q11, .int (-1), .ref q18, .int 0, .null, .int 0, .int 0, .int 0, .null, .null, .null, .null]) rfl (Nat.le_of_ble_eq_true rfl) dX8_init_31 ?_
  refine k_al0 (pc := 34) C 0 rfl dX8_init_34 ?_
  refine k_ic (pc := 35) C (v := (-1)) dX8_init_35 (by decide +kernel) ?_
  refine k_put (pc := 36) C jnX8 rfl 5 (Nat.le_of_ble_eq_true rfl) (sg_w 396 (by decide +kernel) rfl) tyX8 tyX8_ok nmX8 rfl (ty := .int) (by decide +kernel) rfl rfl (fs' := [.int 0, .int 0, .ref q11, .int (-1), .ref q18, .int (-1), .null, .int 0, .int 0, .int 0, .null, .null, .null, .null]) rfl (Nat.le_of_ble_eq_true rfl) dX8_init_36 ?_
  refine k_al0 (pc := 39) C 0 rfl dX8_init_39 ?_
  refine k_bi (pc := 40) C (v := 12) dX8_init_40 (by decide +kernel) ?_
  refine k_nI (pc := 42) C (N' := 12) (by decide +kernel) (by decide +kernel) (Nat.le_of_ble_eq_true rfl) (k' := 3) (n' := 35) rfl rfl (Nat.le_of_ble_eq_true rfl) (Nat.le_of_ble_eq_true rfl) (flt_app _) dX8_init_42 (fun q25 => ?_)
  refine k_putF (pc := 44) C jnX8 rfl 6 (Nat.le_of_ble_eq_true rfl) (sg_w 398 (by decide +kernel) rfl) tyX8 tyX8_ok nmX8 rfl rfl (ty := (.array .int)) (by decide +kernel) rfl rfl (fs' := [.int 0, .int 0, .ref q11, .int (-1), .ref q18, .int (-1), .ref q25, .int 0, .int 0, .int 0, .null, .null, .null, .null]) rfl (Nat.le_of_ble_eq_true rfl) dX8_init_44 ?_
  refine k_al0 (pc := 47) C 0 rfl dX8_init_47 ?_
  refine k_ic (pc := 48) C (v := 0) dX8_init_48 (by decide +kernel) ?_
  refine k_put (pc := 49) C jnX8 rfl 7 (Nat.le_of_ble_eq_true rfl) (sg_w 400 (by decide +kernel) rfl) tyX8 tyX8_ok nmX8 rfl (ty := .boolean) (by decide +kernel) rfl rfl (fs' := [.int 0, .int 0, .ref q11, .int (-1), .ref q18, .int (-1), .ref q25, .int 0, .int 0, .int 0, .null, .null, .null, .null]) rfl (Nat.le_of_ble_eq_true rfl) dX8_init_49 ?_
  refine k_al0 (pc := 52) C 0 rfl dX8_init_52 ?_
  refine k_ic (pc := 53) C (v := 0) dX8_init_53 (by decide +kernel) ?_
  refine k_put (pc := 54) C jnX8 rfl 8 (Nat.le_of_ble_eq_true rfl) (sg_w 401 (by decide +kernel) rfl) tyX8 tyX8_ok nmX8 rfl (ty := .boolean) (by decide +kernel) rfl rfl (fs' := [.int 0, .int 0, .ref q11, .int (-1), .ref q18, .int (-1), .ref q25, .int 0, .int 0, .int 0, .null, .null, .null, .null]) rfl (Nat.le_of_ble_eq_true rfl) dX8_init_54 ?_
  refine k_al0 (pc := 57) C 0 rfl dX8_init_57 ?_
  refine k_ic (pc := 58) C (v := 0) dX8_init_58 (by decide +kernel) ?_
  refine k_put (pc := 59) C jnX8 rfl 9 (Nat.le_of_ble_eq_true rfl) (sg_w 402 (by decide +kernel) rfl) tyX8 tyX8_ok nmX8 rfl (ty := .boolean) (by decide +kernel) rfl rfl (fs' := [.int 0, .int 0, .ref q11, .int (-1), .ref q18, .int (-1), .ref q25, .int 0, .int 0, .int 0, .null, .null, .null, .null]) rfl (Nat.le_of_ble_eq_true rfl) dX8_init_59 ?_
  refine k_al0 (pc := 62) C 0 rfl dX8_init_62 ?_
  refine k_bi (pc := 63) C (v := 12) dX8_init_63 (by decide +kernel) ?_
  refine k_nI (pc := 65) C (N' := 12) (by decide +kernel) (by decide +kernel) (Nat.le_of_ble_eq_true rfl) (k' := 4) (n' := 47) rfl rfl (Nat.le_of_ble_eq_true rfl) (Nat.le_of_ble_eq_true rfl) (flt_app _) dX8_init_65 (fun q38 => ?_)
  refine k_putF (pc := 67) C jnX8 rfl 10 (Nat.le_of_ble_eq_true rfl) (sg_w 403 (by decide +kernel) rfl) tyX8 tyX8_ok nmX8 rfl rfl (ty := (.array .int)) (by decide +kernel) rfl rfl (fs' := [.int 0, .int 0, .ref q11, .int (-1), .ref q18, .int (-1), .ref q25, .int 0, .int 0, .int 0, .ref q38, .null, .null, .null]) rfl (Nat.le_of_ble_eq_true rfl) dX8_init_67 ?_
  refine k_al0 (pc := 70) C 0 rfl dX8_init_70 ?_
  refine k_obj3 (pc := 71) C (ini7 X.1) jnX7 tyX7 tyX7_ok (sg_w 382 (by decide +kernel) rfl) (sg_w 213 (by decide +kernel) rfl) (sg_w 5 (by decide +kernel) rfl) rfl (by decide +kernel) rfl (List.mem_of_getElem? (i := 12) rfl) (sg_w 216 (by decide +kernel) rfl) (sg_w 215 (by decide +kernel) rfl) rfl ⟨by decide, by decide, by decide +kernel⟩ (Nat.le_of_ble_eq_true rfl) (Nat.le_of_ble_eq_true rfl) (k' := 5) (n' := 50) rfl rfl (Nat.le_of_ble_eq_true rfl) (Nat.le_of_ble_eq_true rfl) (Nat.le_of_ble_eq_true rfl) (flt_app _) dX8_init_71 dX8_init_74 dX8_init_75 (fun u41 => ?_)
  refine k_putF (pc := 78) C jnX8 rfl 11 (Nat.le_of_ble_eq_true rfl) (sg_w 404 (by decide +kernel) rfl) tyX8 tyX8_ok nmX8 rfl rfl (ty := (.object "SupplyGrid$Score")) (by decide +kernel) rfl rfl (fs' := [.int 0, .int 0, .ref q11, .int (-1), .ref q18, .int (-1), .ref q25, .int 0, .int 0, .int 0, .ref q38, .ref (u41 0), .null, .null]) rfl (Nat.le_of_ble_eq_true rfl) dX8_init_78 ?_
  refine k_al0 (pc := 81) C 0 rfl dX8_init_81 ?_
  refine k_obj3 (pc := 82) C (ini7 X.1) jnX7 tyX7 tyX7_ok (sg_w 382 (by decide +kernel) rfl) (sg_w 213 (by decide +kernel) rfl) (sg_w 5 (by decide +kernel) rfl) rfl (by decide +kernel) rfl (List.mem_of_getElem? (i := 12) rfl) (sg_w 216 (by decide +kernel) rfl) (sg_w 215 (by decide +kernel) rfl) rfl ⟨by decide, by decide, by decide +kernel⟩ (Nat.le_of_ble_eq_true rfl) (Nat.le_of_ble_eq_true rfl) (k' := 6) (n' := 53) rfl rfl (Nat.le_of_ble_eq_true rfl) (Nat.le_of_ble_eq_true rfl) (Nat.le_of_ble_eq_true rfl) (flt_app _) dX8_init_82 dX8_init_85 dX8_init_86 (fun u44 => ?_)
  refine k_putF (pc := 89) C jnX8 rfl 12 (Nat.le_of_ble_eq_true rfl) (sg_w 405 (by decide +kernel) rfl) tyX8 tyX8_ok nmX8 rfl rfl (ty := (.object "SupplyGrid$Score")) (by decide +kernel) rfl rfl (fs' := [.int 0, .int 0, .ref q11, .int (-1), .ref q18, .int (-1), .ref q25, .int 0, .int 0, .int 0, .ref q38, .ref (u41 0), .ref (u44 0), .null]) rfl (Nat.le_of_ble_eq_true rfl) dX8_init_89 ?_
  refine k_al0 (pc := 92) C 0 rfl dX8_init_92 ?_
  refine k_obj3 (pc := 93) C (ini1 X.1) jnX1 tyX1 tyX1_ok (sg_w 384 (by decide +kernel) rfl) (sg_w 207 (by decide +kernel) rfl) (sg_w 4 (by decide +kernel) rfl) rfl (by decide +kernel) rfl (List.mem_of_getElem? (i := 13) rfl) (sg_w 210 (by decide +kernel) rfl) (sg_w 209 (by decide +kernel) rfl) rfl ⟨by decide, by decide, by decide +kernel⟩ (Nat.le_of_ble_eq_true rfl) (Nat.le_of_ble_eq_true rfl) (k' := 22) (n' := 200) rfl rfl (Nat.le_of_ble_eq_true rfl) (Nat.le_of_ble_eq_true rfl) (Nat.le_of_ble_eq_true rfl) (flt_app _) dX8_init_93 dX8_init_96 dX8_init_97 (fun u47 => ?_)
  refine k_putF (pc := 100) C jnX8 rfl 13 (Nat.le_of_ble_eq_true rfl) (sg_w 406 (by decide +kernel) rfl) tyX8 tyX8_ok nmX8 rfl rfl (ty := (.object "SupplyGrid$Flow")) (by decide +kernel) rfl rfl (fs' := [.int 0, .int 0, .ref q11, .int (-1), .ref q18, .int (-1), .ref q25, .int 0, .int 0, .int 0, .ref q38, .ref (u41 0), .ref (u44 0), .ref (u47 0)]) rfl (Nat.le_of_ble_eq_true rfl) dX8_init_100 ?_
  exact k_ret (pc := 103) C E (sh := [([13], [20]), ([13], [3]), ([13], [12]), ([13], [12]), ([7], [0]), ([7], [0]), ([1, 14, 7, 13, 13, 19, 14, 14, 14, 14, 14, 14, 14, 14, 14, 13], [0, 9, 0, 9, 9, 9, 10, 10, 10, 10, 10, 10, 10, 10, 10, 9])]) rfl (by decide +kernel) rfl (by decide) (by decide +kernel) rfl dX8_init_103
def kl3 : List Nat := [3, 13, 13, 7, 1, 14, 7, 13, 13, 19, 14, 14, 14, 14, 14, 14, 14, 14, 14, 13]
def ll3 : List Nat := [0, 66, 12, 0, 0, 9, 0, 9, 9, 9, 10, 10, 10, 10, 10, 10, 10, 10, 10, 9]
set_option maxHeartbeats 16000000 in
set_option maxRecDepth 100000 in
theorem ini3 (V : sg_V) : cn_ct V yX3_init cX3_init 1 3 3 19 228 kl3 ll3 := by
  refine cn_body (by decide) (by decide) rfl (fun X h0 hV C E => ?_)
  rw [show dfl 3 = [.int 0, .int 0, .int 0, .null, .int 0, .int 0, .null, .null, .null] by decide +kernel]
  refine k_al0 (pc := 0) C 0 rfl dX3_init_0 ?_
  refine k_oin (pc := 1) C (sg_w 441 (by decide +kernel) rfl) (Nat.le_of_ble_eq_true rfl) dX3_init_1 ?_
  refine k_al0 (pc := 4) C 0 rfl dX3_init_4 ?_
  refine k_ic (pc := 5) C (v := (-1)) dX3_init_5 (by decide +kernel) ?_
  refine k_put (pc := 6) C jnX3 rfl 0 (Nat.le_of_ble_eq_true rfl) (sg_w 446 (by decide +kernel) rfl) tyX3 tyX3_ok nmX3 rfl (ty := .int) (by decide +kernel) rfl rfl (fs' := [.int (-1), .int 0, .int 0, .null, .int 0, .int 0, .null, .null, .null]) rfl (Nat.le_of_ble_eq_true rfl) dX3_init_6 ?_
  refine k_al0 (pc := 9) C 0 rfl dX3_init_9 ?_
  refine k_ic (pc := 10) C (v := 0) dX3_init_10 (by decide +kernel) ?_
  refine k_put (pc := 11) C jnX3 rfl 1 (Nat.le_of_ble_eq_true rfl) (sg_w 448 (by decide +kernel) rfl) tyX3 tyX3_ok nmX3 rfl (ty := .int) (by decide +kernel) rfl rfl (fs' := [.int (-1), .int 0, .int 0, .null, .int 0, .int 0, .null, .null, .null]) rfl (Nat.le_of_ble_eq_true rfl) dX3_init_11 ?_
  refine k_al0 (pc := 14) C 0 rfl dX3_init_14 ?_
  refine k_ic (pc := 15) C (v := 0) dX3_init_15 (by decide +kernel) ?_
  refine k_put (pc := 16) C jnX3 rfl 2 (Nat.le_of_ble_eq_true rfl) (sg_w 450 (by decide +kernel) rfl) tyX3 tyX3_ok nmX3 rfl (ty := .int) (by decide +kernel) rfl rfl (fs' := [.int (-1), .int 0, .int 0, .null, .int 0, .int 0, .null, .null, .null]) rfl (Nat.le_of_ble_eq_true rfl) dX3_init_16 ?_
  refine k_al0 (pc := 19) C 0 rfl dX3_init_19 ?_
  refine k_bi (pc := 20) C (v := 66) dX3_init_20 (by decide +kernel) ?_
  refine k_nI (pc := 22) C (N' := 66) (by decide +kernel) (by decide +kernel) (Nat.le_of_ble_eq_true rfl) (k' := 1) (n' := 66) rfl rfl (Nat.le_of_ble_eq_true rfl) (Nat.le_of_ble_eq_true rfl) (flt_app _) dX3_init_22 (fun q14 => ?_)
  refine k_putF (pc := 24) C jnX3 rfl 3 (Nat.le_of_ble_eq_true rfl) (sg_w 452 (by decide +kernel) rfl) tyX3 tyX3_ok nmX3 rfl rfl (ty := (.array .int)) (by decide +kernel) rfl rfl (fs' := [.int (-1), .int 0, .int 0, .ref q14, .int 0, .int 0, .null, .null, .null]) rfl (Nat.le_of_ble_eq_true rfl) dX3_init_24 ?_
  refine k_al0 (pc := 27) C 0 rfl dX3_init_27 ?_
  refine k_ic (pc := 28) C (v := 0) dX3_init_28 (by decide +kernel) ?_
  refine k_put (pc := 29) C jnX3 rfl 4 (Nat.le_of_ble_eq_true rfl) (sg_w 454 (by decide +kernel) rfl) tyX3 tyX3_ok nmX3 rfl (ty := .boolean) (by decide +kernel) rfl rfl (fs' := [.int (-1), .int 0, .int 0, .ref q14, .int 0, .int 0, .null, .null, .null]) rfl (Nat.le_of_ble_eq_true rfl) dX3_init_29 ?_
  refine k_al0 (pc := 32) C 0 rfl dX3_init_32 ?_
  refine k_ic (pc := 33) C (v := 0) dX3_init_33 (by decide +kernel) ?_
  refine k_put (pc := 34) C jnX3 rfl 5 (Nat.le_of_ble_eq_true rfl) (sg_w 455 (by decide +kernel) rfl) tyX3 tyX3_ok nmX3 rfl (ty := .boolean) (by decide +kernel) rfl rfl (fs' := [.int (-1), .int 0, .int 0, .ref q14, .int 0, .int 0, .null, .null, .null]) rfl (Nat.le_of_ble_eq_true rfl) dX3_init_34 ?_
  refine k_al0 (pc := 37) C 0 rfl dX3_init_37 ?_
  refine k_bi (pc := 38) C (v := 12) dX3_init_38 (by decide +kernel) ?_
  refine k_nI (pc := 40) C (N' := 12) (by decide +kernel) (by decide +kernel) (Nat.le_of_ble_eq_true rfl) (k' := 2) (n' := 78) rfl rfl (Nat.le_of_ble_eq_true rfl) (Nat.le_of_ble_eq_true rfl) (flt_app _) dX3_init_40 (fun q24 => ?_)
  refine k_putF (pc := 42) C jnX3 rfl 6 (Nat.le_of_ble_eq_true rfl) (sg_w 456 (by decide +kernel) rfl) tyX3 tyX3_ok nmX3 rfl rfl (ty := (.array .int)) (by decide +kernel) rfl rfl (fs' := [.int (-1), .int 0, .int 0, .ref q14, .int 0, .int 0, .ref q24, .null, .null]) rfl (Nat.le_of_ble_eq_true rfl) dX3_init_42 ?_
  refine k_al0 (pc := 45) C 0 rfl dX3_init_45 ?_
  refine k_obj3 (pc := 46) C (ini7 X.1) jnX7 tyX7 tyX7_ok (sg_w 442 (by decide +kernel) rfl) (sg_w 213 (by decide +kernel) rfl) (sg_w 5 (by decide +kernel) rfl) rfl (by decide +kernel) rfl (List.mem_of_getElem? (i := 15) rfl) (sg_w 216 (by decide +kernel) rfl) (sg_w 215 (by decide +kernel) rfl) rfl ⟨by decide, by decide, by decide +kernel⟩ (Nat.le_of_ble_eq_true rfl) (Nat.le_of_ble_eq_true rfl) (k' := 3) (n' := 81) rfl rfl (Nat.le_of_ble_eq_true rfl) (Nat.le_of_ble_eq_true rfl) (Nat.le_of_ble_eq_true rfl) (flt_app _) dX3_init_46 dX3_init_49 dX3_init_50 (fun u27 => ?_)
  refine k_putF (pc := 53) C jnX3 rfl 7 (Nat.le_of_ble_eq_true rfl) (sg_w 457 (by decide +kernel) rfl) tyX3 tyX3_ok nmX3 rfl rfl (ty := (.object "SupplyGrid$Score")) (by decide +kernel) rfl rfl (fs' := [.int (-1), .int 0, .int 0, .ref q14, .int 0, .int 0, .ref q24, .ref (u27 0), .null]) rfl (Nat.le_of_ble_eq_true rfl) dX3_init_53 ?_
  refine k_al0 (pc := 56) C 0 rfl dX3_init_56 ?_
  refine k_obj3 (pc := 57) C (ini1 X.1) jnX1 tyX1 tyX1_ok (sg_w 444 (by decide +kernel) rfl) (sg_w 207 (by decide +kernel) rfl) (sg_w 4 (by decide +kernel) rfl) rfl (by decide +kernel) rfl (List.mem_of_getElem? (i := 16) rfl) (sg_w 210 (by decide +kernel) rfl) (sg_w 209 (by decide +kernel) rfl) rfl ⟨by decide, by decide, by decide +kernel⟩ (Nat.le_of_ble_eq_true rfl) (Nat.le_of_ble_eq_true rfl) (k' := 19) (n' := 228) rfl rfl (Nat.le_of_ble_eq_true rfl) (Nat.le_of_ble_eq_true rfl) (Nat.le_of_ble_eq_true rfl) (flt_app _) dX3_init_57 dX3_init_60 dX3_init_61 (fun u30 => ?_)
  refine k_putF (pc := 64) C jnX3 rfl 8 (Nat.le_of_ble_eq_true rfl) (sg_w 458 (by decide +kernel) rfl) tyX3 tyX3_ok nmX3 rfl rfl (ty := (.object "SupplyGrid$Flow")) (by decide +kernel) rfl rfl (fs' := [.int (-1), .int 0, .int 0, .ref q14, .int 0, .int 0, .ref q24, .ref (u27 0), .ref (u30 0)]) rfl (Nat.le_of_ble_eq_true rfl) dX3_init_64 ?_
  exact k_ret (pc := 67) C E (sh := [([13], [66]), ([13], [12]), ([7], [0]), ([1, 14, 7, 13, 13, 19, 14, 14, 14, 14, 14, 14, 14, 14, 14, 13], [0, 9, 0, 9, 9, 9, 10, 10, 10, 10, 10, 10, 10, 10, 10, 9])]) rfl (by decide +kernel) rfl (by decide) (by decide +kernel) rfl dX3_init_67
def kl2 : List Nat := [2, 7, 13, 1, 14, 7, 13, 13, 19, 14, 14, 14, 14, 14, 14, 14, 14, 14, 13]
def ll2 : List Nat := [0, 0, 9, 0, 9, 0, 9, 9, 9, 10, 10, 10, 10, 10, 10, 10, 10, 10, 9]
set_option maxHeartbeats 16000000 in
set_option maxRecDepth 100000 in
theorem ini2 (V : sg_V) : cn_ct V yX2_init cX2_init 1 2 3 18 159 kl2 ll2 := by
  refine cn_body (by decide) (by decide) rfl (fun X h0 hV C E => ?_)
  rw [show dfl 2 = [.int 0, .null, .long 0, .null, .null] by decide +kernel]
  refine k_al0 (pc := 0) C 0 rfl dX2_init_0 ?_
  refine k_oin (pc := 1) C (sg_w 484 (by decide +kernel) rfl) (Nat.le_of_ble_eq_true rfl) dX2_init_1 ?_
  refine k_al0 (pc := 4) C 0 rfl dX2_init_4 ?_
  refine k_ic (pc := 5) C (v := 0) dX2_init_5 (by decide +kernel) ?_
  refine k_put (pc := 6) C jnX2 rfl 0 (Nat.le_of_ble_eq_true rfl) (sg_w 489 (by decide +kernel) rfl) tyX2 tyX2_ok nmX2 rfl (ty := .int) (by decide +kernel) rfl rfl (fs' := [.int 0, .null, .long 0, .null, .null]) rfl (Nat.le_of_ble_eq_true rfl) dX2_init_6 ?_
  refine k_al0 (pc := 9) C 0 rfl dX2_init_9 ?_
  refine k_obj3 (pc := 10) C (ini7 X.1) jnX7 tyX7 tyX7_ok (sg_w 485 (by decide +kernel) rfl) (sg_w 213 (by decide +kernel) rfl) (sg_w 5 (by decide +kernel) rfl) rfl (by decide +kernel) rfl (List.mem_of_getElem? (i := 18) rfl) (sg_w 216 (by decide +kernel) rfl) (sg_w 215 (by decide +kernel) rfl) rfl ⟨by decide, by decide, by decide +kernel⟩ (Nat.le_of_ble_eq_true rfl) (Nat.le_of_ble_eq_true rfl) (k' := 1) (n' := 3) rfl rfl (Nat.le_of_ble_eq_true rfl) (Nat.le_of_ble_eq_true rfl) (Nat.le_of_ble_eq_true rfl) (flt_app _) dX2_init_10 dX2_init_13 dX2_init_14 (fun u7 => ?_)
  refine k_putF (pc := 17) C jnX2 rfl 1 (Nat.le_of_ble_eq_true rfl) (sg_w 491 (by decide +kernel) rfl) tyX2 tyX2_ok nmX2 rfl rfl (ty := (.object "SupplyGrid$Score")) (by decide +kernel) rfl rfl (fs' := [.int 0, .ref (u7 0), .long 0, .null, .null]) rfl (Nat.le_of_ble_eq_true rfl) dX2_init_17 ?_
  refine k_al0 (pc := 20) C 0 rfl dX2_init_20 ?_
  refine k_lc (pc := 21) C (v := 0) dX2_init_21 (by decide +kernel) ?_
  refine k_put (pc := 22) C jnX2 rfl 2 (Nat.le_of_ble_eq_true rfl) (sg_w 493 (by decide +kernel) rfl) tyX2 tyX2_ok nmX2 rfl (ty := .long) (by decide +kernel) rfl rfl (fs' := [.int 0, .ref (u7 0), .long 0, .null, .null]) rfl (Nat.le_of_ble_eq_true rfl) dX2_init_22 ?_
  refine k_al0 (pc := 25) C 0 rfl dX2_init_25 ?_
  refine k_bi (pc := 26) C (v := 9) dX2_init_26 (by decide +kernel) ?_
  refine k_nI (pc := 28) C (N' := 9) (by decide +kernel) (by decide +kernel) (Nat.le_of_ble_eq_true rfl) (k' := 2) (n' := 12) rfl rfl (Nat.le_of_ble_eq_true rfl) (Nat.le_of_ble_eq_true rfl) (flt_app _) dX2_init_28 (fun q14 => ?_)
  refine k_putF (pc := 30) C jnX2 rfl 3 (Nat.le_of_ble_eq_true rfl) (sg_w 494 (by decide +kernel) rfl) tyX2 tyX2_ok nmX2 rfl rfl (ty := (.array .int)) (by decide +kernel) rfl rfl (fs' := [.int 0, .ref (u7 0), .long 0, .ref q14, .null]) rfl (Nat.le_of_ble_eq_true rfl) dX2_init_30 ?_
  refine k_al0 (pc := 33) C 0 rfl dX2_init_33 ?_
  refine k_obj3 (pc := 34) C (ini1 X.1) jnX1 tyX1 tyX1_ok (sg_w 487 (by decide +kernel) rfl) (sg_w 207 (by decide +kernel) rfl) (sg_w 4 (by decide +kernel) rfl) rfl (by decide +kernel) rfl (List.mem_of_getElem? (i := 19) rfl) (sg_w 210 (by decide +kernel) rfl) (sg_w 209 (by decide +kernel) rfl) rfl ⟨by decide, by decide, by decide +kernel⟩ (Nat.le_of_ble_eq_true rfl) (Nat.le_of_ble_eq_true rfl) (k' := 18) (n' := 159) rfl rfl (Nat.le_of_ble_eq_true rfl) (Nat.le_of_ble_eq_true rfl) (Nat.le_of_ble_eq_true rfl) (flt_app _) dX2_init_34 dX2_init_37 dX2_init_38 (fun u17 => ?_)
  refine k_putF (pc := 41) C jnX2 rfl 4 (Nat.le_of_ble_eq_true rfl) (sg_w 495 (by decide +kernel) rfl) tyX2 tyX2_ok nmX2 rfl rfl (ty := (.object "SupplyGrid$Flow")) (by decide +kernel) rfl rfl (fs' := [.int 0, .ref (u7 0), .long 0, .ref q14, .ref (u17 0)]) rfl (Nat.le_of_ble_eq_true rfl) dX2_init_41 ?_
  exact k_ret (pc := 44) C E (sh := [([7], [0]), ([13], [9]), ([1, 14, 7, 13, 13, 19, 14, 14, 14, 14, 14, 14, 14, 14, 14, 13], [0, 9, 0, 9, 9, 9, 10, 10, 10, 10, 10, 10, 10, 10, 10, 9])]) rfl (by decide +kernel) rfl (by decide) (by decide +kernel) rfl dX2_init_44
