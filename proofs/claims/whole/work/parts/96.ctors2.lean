/-! the constructors -/
def kl5 : List Nat := [5, 13, 17, 7, 7, 7, 7, 7, 7, 7, 7, 7, 7, 15, 13, 7, 1, 14, 7, 13, 13, 19, 14, 14, 14, 14, 14, 14, 14, 14, 14, 13]
def ll5 : List Nat := [0, 9, 10, 0, 0, 0, 0, 0, 0, 0, 0, 0, 0, 10, 10, 0, 0, 9, 0, 9, 9, 9, 10, 10, 10, 10, 10, 10, 10, 10, 10, 9]
set_option maxHeartbeats 16000000 in
set_option maxRecDepth 100000 in
theorem ini5 (V : sg_V) : cn_ct V yX5_init cX5_init 2 5 3 31 219 kl5 ll5 := by
  refine cn_body (by decide) (by decide) rfl (fun X h0 hV C E => ?_)
  rw [show dfl 5 = [.int 0, .null, .null, .int 0, .null, .null, .null, .null] by decide +kernel]
  refine k_al0 (pc := 0) C 0 rfl dX5_init_0 ?_
  refine k_oin (pc := 1) C (sg_w 342 (by decide +kernel) rfl) (Nat.le_of_ble_eq_true rfl) dX5_init_1 ?_
  refine k_al0 (pc := 4) C 0 rfl dX5_init_4 ?_
  refine k_ic (pc := 5) C (v := 0) dX5_init_5 (by decide +kernel) ?_
  refine k_put (pc := 6) C jnX5 rfl 0 (Nat.le_of_ble_eq_true rfl) (sg_w 348 (by decide +kernel) rfl) tyX5 tyX5_ok nmX5 rfl (ty := .int) (by decide +kernel) rfl rfl (fs' := [.int 0, .null, .null, .int 0, .null, .null, .null, .null]) rfl (Nat.le_of_ble_eq_true rfl) dX5_init_6 ?_
  refine k_al0 (pc := 9) C 0 rfl dX5_init_9 ?_
  refine k_bi (pc := 10) C (v := 9) dX5_init_10 (by decide +kernel) ?_
  refine k_nI (pc := 12) C (N' := 9) (by decide +kernel) (by decide +kernel) (Nat.le_of_ble_eq_true rfl) (k' := 1) (n' := 9) rfl rfl (Nat.le_of_ble_eq_true rfl) (Nat.le_of_ble_eq_true rfl) (flt_app _) dX5_init_12 (fun q8 => ?_)
  refine k_putF (pc := 14) C jnX5 rfl 1 (Nat.le_of_ble_eq_true rfl) (sg_w 350 (by decide +kernel) rfl) tyX5 tyX5_ok nmX5 rfl rfl (ty := (.array .int)) (by decide +kernel) rfl rfl (fs' := [.int 0, .ref q8, .null, .int 0, .null, .null, .null, .null]) rfl (Nat.le_of_ble_eq_true rfl) dX5_init_14 ?_
  refine k_al0 (pc := 17) C 0 rfl dX5_init_17 ?_
  refine k_bi (pc := 18) C (v := 10) dX5_init_18 (by decide +kernel) ?_
  refine k_anw (pc := 20) C (i0 := 5) (t := 17) (N' := 10) (cn := "SupplyGrid$Score") (sg_w 343 (by decide +kernel) rfl) (List.mem_of_getElem? (i := 1) rfl) (fun _ => rfl) (by decide +kernel) (by decide +kernel) (Nat.le_of_ble_eq_true rfl) (k' := 2) (n' := 19) rfl rfl (Nat.le_of_ble_eq_true rfl) (Nat.le_of_ble_eq_true rfl) dX5_init_20 (fun q12 => ?_)
  refine k_putF (pc := 23) C jnX5 rfl 2 (Nat.le_of_ble_eq_true rfl) (sg_w 352 (by decide +kernel) rfl) tyX5 tyX5_ok nmX5 rfl rfl (ty := (.array (.object "SupplyGrid$Score"))) (by decide +kernel) rfl rfl (fs' := [.int 0, .ref q8, .ref q12, .int 0, .null, .null, .null, .null]) rfl (Nat.le_of_ble_eq_true rfl) dX5_init_23 ?_
  refine k_al0 (pc := 26) C 0 rfl dX5_init_26 ?_
  refine k_ic (pc := 27) C (v := 0) dX5_init_27 (by decide +kernel) ?_
  refine k_put (pc := 28) C jnX5 rfl 3 (Nat.le_of_ble_eq_true rfl) (sg_w 354 (by decide +kernel) rfl) tyX5 tyX5_ok nmX5 rfl (ty := .boolean) (by decide +kernel) rfl rfl (fs' := [.int 0, .ref q8, .ref q12, .int 0, .null, .null, .null, .null]) rfl (Nat.le_of_ble_eq_true rfl) dX5_init_28 ?_
  refine k_al0 (pc := 31) C 0 rfl dX5_init_31 ?_
  refine k_bi (pc := 32) C (v := 10) dX5_init_32 (by decide +kernel) ?_
  refine k_nZ (pc := 34) C (N' := 10) (by decide +kernel) (by decide +kernel) (Nat.le_of_ble_eq_true rfl) (k' := 3) (n' := 29) rfl rfl (Nat.le_of_ble_eq_true rfl) (Nat.le_of_ble_eq_true rfl) (flt_app2 _ _ _) dX5_init_34 (fun q19 => ?_)
  refine k_putF (pc := 36) C jnX5 rfl 4 (Nat.le_of_ble_eq_true rfl) (sg_w 355 (by decide +kernel) rfl) tyX5 tyX5_ok nmX5 rfl rfl (ty := (.array .boolean)) (by decide +kernel) rfl rfl (fs' := [.int 0, .ref q8, .ref q12, .int 0, .ref q19, .null, .null, .null]) rfl (Nat.le_of_ble_eq_true rfl) dX5_init_36 ?_
  refine k_al0 (pc := 39) C 0 rfl dX5_init_39 ?_
  refine k_bi (pc := 40) C (v := 10) dX5_init_40 (by decide +kernel) ?_
  refine k_nI (pc := 42) C (N' := 10) (by decide +kernel) (by decide +kernel) (Nat.le_of_ble_eq_true rfl) (k' := 4) (n' := 39) rfl rfl (Nat.le_of_ble_eq_true rfl) (Nat.le_of_ble_eq_true rfl) (flt_app2 _ _ _) dX5_init_42 (fun q23 => ?_)
  refine k_putF (pc := 44) C jnX5 rfl 5 (Nat.le_of_ble_eq_true rfl) (sg_w 356 (by decide +kernel) rfl) tyX5 tyX5_ok nmX5 rfl rfl (ty := (.array .int)) (by decide +kernel) rfl rfl (fs' := [.int 0, .ref q8, .ref q12, .int 0, .ref q19, .ref q23, .null, .null]) rfl (Nat.le_of_ble_eq_true rfl) dX5_init_44 ?_
  refine k_al0 (pc := 47) C 0 rfl dX5_init_47 ?_
  refine k_obj3 (pc := 48) C (ini7 X.1) jnX7 tyX7 tyX7_ok (sg_w 343 (by decide +kernel) rfl) (sg_w 213 (by decide +kernel) rfl) (sg_w 5 (by decide +kernel) rfl) rfl (by decide +kernel) rfl (List.mem_of_getElem? (i := 9) rfl) (sg_w 216 (by decide +kernel) rfl) (sg_w 215 (by decide +kernel) rfl) rfl ⟨by decide, by decide, by decide +kernel⟩ (Nat.le_of_ble_eq_true rfl) (Nat.le_of_ble_eq_true rfl) (k' := 5) (n' := 42) rfl rfl (Nat.le_of_ble_eq_true rfl) (Nat.le_of_ble_eq_true rfl) (Nat.le_of_ble_eq_true rfl) (flt_app2 _ _ _) dX5_init_48 dX5_init_51 dX5_init_52 (fun u26 => ?_)
  refine k_putF (pc := 55) C jnX5 rfl 6 (Nat.le_of_ble_eq_true rfl) (sg_w 357 (by decide +kernel) rfl) tyX5 tyX5_ok nmX5 rfl rfl (ty := (.object "SupplyGrid$Score")) (by decide +kernel) rfl rfl (fs' := [.int 0, .ref q8, .ref q12, .int 0, .ref q19, .ref q23, .ref (u26 0), .null]) rfl (Nat.le_of_ble_eq_true rfl) dX5_init_55 ?_
  refine k_al0 (pc := 58) C 0 rfl dX5_init_58 ?_
  refine k_obj3 (pc := 59) C (ini1 X.1) jnX1 tyX1 tyX1_ok (sg_w 346 (by decide +kernel) rfl) (sg_w 207 (by decide +kernel) rfl) (sg_w 4 (by decide +kernel) rfl) rfl (by decide +kernel) rfl (List.mem_of_getElem? (i := 10) rfl) (sg_w 210 (by decide +kernel) rfl) (sg_w 209 (by decide +kernel) rfl) rfl ⟨by decide, by decide, by decide +kernel⟩ (Nat.le_of_ble_eq_true rfl) (Nat.le_of_ble_eq_true rfl) (k' := 21) (n' := 189) rfl rfl (Nat.le_of_ble_eq_true rfl) (Nat.le_of_ble_eq_true rfl) (Nat.le_of_ble_eq_true rfl) (flt_app2 _ _ _) dX5_init_59 dX5_init_62 dX5_init_63 (fun u29 => ?_)
  refine k_putF (pc := 66) C jnX5 rfl 7 (Nat.le_of_ble_eq_true rfl) (sg_w 358 (by decide +kernel) rfl) tyX5 tyX5_ok nmX5 rfl rfl (ty := (.object "SupplyGrid$Flow")) (by decide +kernel) rfl rfl (fs' := [.int 0, .ref q8, .ref q12, .int 0, .ref q19, .ref q23, .ref (u26 0), .ref (u29 0)]) rfl (Nat.le_of_ble_eq_true rfl) dX5_init_66 ?_
  refine k_ic (pc := 69) C (v := 0) dX5_init_69 (by decide +kernel) ?_
  refine k_ist (pc := 70) C (i := 1) (lv' := [(1, .int 0), (0, .ref h0)]) rfl (by decide) rfl dX5_init_70 ?_
  refine k_ild (pc := 71) C (i := 1) (x := 0) 0 rfl rfl dX5_init_71 ?_
  refine k_bi (pc := 72) C (v := 9) dX5_init_72 (by decide +kernel) ?_
  refine k_gt0 (pc := 74) C 96 (by decide +kernel) dX5_init_74 rfl ?_
  refine k_al0 (pc := 77) C 1 rfl dX5_init_77 ?_
  refine k_get (pc := 78) C jnX5 rfl 2 (Nat.le_of_ble_eq_true rfl) (sg_w 352 (by decide +kernel) rfl) (v := .ref q12) rfl dX5_init_78 ?_
  refine k_ild (pc := 81) C (i := 1) (x := 0) 0 rfl rfl dX5_init_81 ?_
  refine k_obj3 (pc := 82) C (ini7 X.1) jnX7 tyX7 tyX7_ok (sg_w 343 (by decide +kernel) rfl) (sg_w 213 (by decide +kernel) rfl) (sg_w 5 (by decide +kernel) rfl) rfl (by decide +kernel) rfl (List.mem_of_getElem? (i := 9) rfl) (sg_w 216 (by decide +kernel) rfl) (sg_w 215 (by decide +kernel) rfl) rfl ⟨by decide, by decide, by decide +kernel⟩ (Nat.le_of_ble_eq_true rfl) (Nat.le_of_ble_eq_true rfl) (k' := 22) (n' := 192) rfl rfl (Nat.le_of_ble_eq_true rfl) (Nat.le_of_ble_eq_true rfl) (Nat.le_of_ble_eq_true rfl) (flt_app2 _ _ _) dX5_init_82 dX5_init_85 dX5_init_86 (fun u39 => ?_)
  refine k_ast (pc := 89) C (i0 := 5) (ci := 7) (fun _ => rfl) rfl (by decide) rfl (by decide +kernel) (sg_ib_in (by decide +kernel)) (iN := 0) (by decide +kernel) dX5_init_89 ?_
  refine k_inc (pc := 90) C (i := 1) (v := 1) (lv' := [(1, .int 1), (0, .ref h0)]) 0 rfl (by decide +kernel) (by decide) rfl dX5_init_90 ?_
  refine k_go (pc := 93) C (tgt := 71) dX5_init_93 rfl ?_
  refine k_ild (pc := 71) C (i := 1) (x := 1) 0 rfl rfl dX5_init_71 ?_
  refine k_bi (pc := 72) C (v := 9) dX5_init_72 (by decide +kernel) ?_
  refine k_gt0 (pc := 74) C 96 (by decide +kernel) dX5_init_74 rfl ?_
  refine k_al0 (pc := 77) C 1 rfl dX5_init_77 ?_
  refine k_get (pc := 78) C jnX5 rfl 2 (Nat.le_of_ble_eq_true rfl) (sg_w 352 (by decide +kernel) rfl) (v := .ref q12) rfl dX5_init_78 ?_
  refine k_ild (pc := 81) C (i := 1) (x := 1) 0 rfl rfl dX5_init_81 ?_
  refine k_obj3 (pc := 82) C (ini7 X.1) jnX7 tyX7 tyX7_ok (sg_w 343 (by decide +kernel) rfl) (sg_w 213 (by decide +kernel) rfl) (sg_w 5 (by decide +kernel) rfl) rfl (by decide +kernel) rfl (List.mem_of_getElem? (i := 9) rfl) (sg_w 216 (by decide +kernel) rfl) (sg_w 215 (by decide +kernel) rfl) rfl ⟨by decide, by decide, by decide +kernel⟩ (Nat.le_of_ble_eq_true rfl) (Nat.le_of_ble_eq_true rfl) (k' := 23) (n' := 195) rfl rfl (Nat.le_of_ble_eq_true rfl) (Nat.le_of_ble_eq_true rfl) (Nat.le_of_ble_eq_true rfl) (flt_app2 _ _ _) dX5_init_82 dX5_init_85 dX5_init_86 (fun u49 => ?_)
  refine k_ast (pc := 89) C (i0 := 5) (ci := 7) (fun _ => rfl) rfl (by decide) rfl (by decide +kernel) (sg_ib_in (by decide +kernel)) (iN := 1) (by decide +kernel) dX5_init_89 ?_
  refine k_inc (pc := 90) C (i := 1) (v := 2) (lv' := [(1, .int 2), (0, .ref h0)]) 0 rfl (by decide +kernel) (by decide) rfl dX5_init_90 ?_
  refine k_go (pc := 93) C (tgt := 71) dX5_init_93 rfl ?_
  refine k_ild (pc := 71) C (i := 1) (x := 2) 0 rfl rfl dX5_init_71 ?_
  refine k_bi (pc := 72) C (v := 9) dX5_init_72 (by decide +kernel) ?_
  refine k_gt0 (pc := 74) C 96 (by decide +kernel) dX5_init_74 rfl ?_
  refine k_al0 (pc := 77) C 1 rfl dX5_init_77 ?_
  refine k_get (pc := 78) C jnX5 rfl 2 (Nat.le_of_ble_eq_true rfl) (sg_w 352 (by decide +kernel) rfl) (v := .ref q12) rfl dX5_init_78 ?_
  refine k_ild (pc := 81) C (i := 1) (x := 2) 0 rfl rfl dX5_init_81 ?_
  refine k_obj3 (pc := 82) C (ini7 X.1) jnX7 tyX7 tyX7_ok (sg_w 343 (by decide +kernel) rfl) (sg_w 213 (by decide +kernel) rfl) (sg_w 5 (by decide +kernel) rfl) rfl (by decide +kernel) rfl (List.mem_of_getElem? (i := 9) rfl) (sg_w 216 (by decide +kernel) rfl) (sg_w 215 (by decide +kernel) rfl) rfl ⟨by decide, by decide, by decide +kernel⟩ (Nat.le_of_ble_eq_true rfl) (Nat.le_of_ble_eq_true rfl) (k' := 24) (n' := 198) rfl rfl (Nat.le_of_ble_eq_true rfl) (Nat.le_of_ble_eq_true rfl) (Nat.le_of_ble_eq_true rfl) (flt_app2 _ _ _) dX5_init_82 dX5_init_85 dX5_init_86 (fun u59 => ?_)
  refine k_ast (pc := 89) C (i0 := 5) (ci := 7) (fun _ => rfl) rfl (by decide) rfl (by decide +kernel) (sg_ib_in (by decide +kernel)) (iN := 2) (by decide +kernel) dX5_init_89 ?_
  refine k_inc (pc := 90) C (i := 1) (v := 3) (lv' := [(1, .int 3), (0, .ref h0)]) 0 rfl (by decide +kernel) (by decide) rfl dX5_init_90 ?_
  refine k_go (pc := 93) C (tgt := 71) dX5_init_93 rfl ?_
  refine k_ild (pc := 71) C (i := 1) (x := 3) 0 rfl rfl dX5_init_71 ?_
  refine k_bi (pc := 72) C (v := 9) dX5_init_72 (by decide +kernel) ?_
  refine k_gt0 (pc := 74) C 96 (by decide +kernel) dX5_init_74 rfl ?_
  refine k_al0 (pc := 77) C 1 rfl dX5_init_77 ?_
  refine k_get (pc := 78) C jnX5 rfl 2 (Nat.le_of_ble_eq_true rfl) (sg_w 352 (by decide +kernel) rfl) (v := .ref q12) rfl dX5_init_78 ?_
  refine k_ild (pc := 81) C (i := 1) (x := 3) 0 rfl rfl dX5_init_81 ?_
  refine k_obj3 (pc := 82) C (ini7 X.1) jnX7 tyX7 tyX7_ok (sg_w 343 (by decide +kernel) rfl) (sg_w 213 (by decide +kernel) rfl) (sg_w 5 (by decide +kernel) rfl) rfl (by decide +kernel) rfl (List.mem_of_getElem? (i := 9) rfl) (sg_w 216 (by decide +kernel) rfl) (sg_w 215 (by decide +kernel) rfl) rfl ⟨by decide, by decide, by decide +kernel⟩ (Nat.le_of_ble_eq_true rfl) (Nat.le_of_ble_eq_true rfl) (k' := 25) (n' := 201) rfl rfl (Nat.le_of_ble_eq_true rfl) (Nat.le_of_ble_eq_true rfl) (Nat.le_of_ble_eq_true rfl) (flt_app2 _ _ _) dX5_init_82 dX5_init_85 dX5_init_86 (fun u69 => ?_)
  refine k_ast (pc := 89) C (i0 := 5) (ci := 7) (fun _ => rfl) rfl (by decide) rfl (by decide +kernel) (sg_ib_in (by decide +kernel)) (iN := 3) (by decide +kernel) dX5_init_89 ?_
  refine k_inc (pc := 90) C (i := 1) (v := 4) (lv' := [(1, .int 4), (0, .ref h0)]) 0 rfl (by decide +kernel) (by decide) rfl dX5_init_90 ?_
  refine k_go (pc := 93) C (tgt := 71) dX5_init_93 rfl ?_
  refine k_ild (pc := 71) C (i := 1) (x := 4) 0 rfl rfl dX5_init_71 ?_
  refine k_bi (pc := 72) C (v := 9) dX5_init_72 (by decide +kernel) ?_
  refine k_gt0 (pc := 74) C 96 (by decide +kernel) dX5_init_74 rfl ?_
  refine k_al0 (pc := 77) C 1 rfl dX5_init_77 ?_
  refine k_get (pc := 78) C jnX5 rfl 2 (Nat.le_of_ble_eq_true rfl) (sg_w 352 (by decide +kernel) rfl) (v := .ref q12) rfl dX5_init_78 ?_
  refine k_ild (pc := 81) C (i := 1) (x := 4) 0 rfl rfl dX5_init_81 ?_
  refine k_obj3 (pc := 82) C (ini7 X.1) jnX7 tyX7 tyX7_ok (sg_w 343 (by decide +kernel) rfl) (sg_w 213 (by decide +kernel) rfl) (sg_w 5 (by decide +kernel) rfl) rfl (by decide +kernel) rfl (List.mem_of_getElem? (i := 9) rfl) (sg_w 216 (by decide +kernel) rfl) (sg_w 215 (by decide +kernel) rfl) rfl ⟨by decide, by decide, by decide +kernel⟩ (Nat.le_of_ble_eq_true rfl) (Nat.le_of_ble_eq_true rfl) (k' := 26) (n' := 204) rfl rfl (Nat.le_of_ble_eq_true rfl) (Nat.le_of_ble_eq_true rfl) (Nat.le_of_ble_eq_true rfl) (flt_app2 _ _ _) dX5_init_82 dX5_init_85 dX5_init_86 (fun u79 => ?_)
  refine k_ast (pc := 89) C (i0 := 5) (ci := 7) (fun _ => rfl) rfl (by decide) rfl (by decide +kernel) (sg_ib_in (by decide +kernel)) (iN := 4) (by decide +kernel) dX5_init_89 ?_
  refine k_inc (pc := 90) C (i := 1) (v := 5) (lv' := [(1, .int 5), (0, .ref h0)]) 0 rfl (by decide +kernel) (by decide) rfl dX5_init_90 ?_
  refine k_go (pc := 93) C (tgt := 71) dX5_init_93 rfl ?_
  refine k_ild (pc := 71) C (i := 1) (x := 5) 0 rfl rfl dX5_init_71 ?_
  refine k_bi (pc := 72) C (v := 9) dX5_init_72 (by decide +kernel) ?_
  refine k_gt0 (pc := 74) C 96 (by decide +kernel) dX5_init_74 rfl ?_
  refine k_al0 (pc := 77) C 1 rfl dX5_init_77 ?_
  refine k_get (pc := 78) C jnX5 rfl 2 (Nat.le_of_ble_eq_true rfl) (sg_w 352 (by decide +kernel) rfl) (v := .ref q12) rfl dX5_init_78 ?_
  refine k_ild (pc := 81) C (i := 1) (x := 5) 0 rfl rfl dX5_init_81 ?_
  refine k_obj3 (pc := 82) C (ini7 X.1) jnX7 tyX7 tyX7_ok (sg_w 343 (by decide +kernel) rfl) (sg_w 213 (by decide +kernel) rfl) (sg_w 5 (by decide +kernel) rfl) rfl (by decide +kernel) rfl (List.mem_of_getElem? (i := 9) rfl) (sg_w 216 (by decide +kernel) rfl) (sg_w 215 (by decide +kernel) rfl) rfl ⟨by decide, by decide, by decide +kernel⟩ (Nat.le_of_ble_eq_true rfl) (Nat.le_of_ble_eq_true rfl) (k' := 27) (n' := 207) rfl rfl (Nat.le_of_ble_eq_true rfl) (Nat.le_of_ble_eq_true rfl) (Nat.le_of_ble_eq_true rfl) (flt_app2 _ _ _) dX5_init_82 dX5_init_85 dX5_init_86 (fun u89 => ?_)
  refine k_ast (pc := 89) C (i0 := 5) (ci := 7) (fun _ => rfl) rfl (by decide) rfl (by decide +kernel) (sg_ib_in (by decide +kernel)) (iN := 5) (by decide +kernel) dX5_init_89 ?_
  refine k_inc (pc := 90) C (i := 1) (v := 6) (lv' := [(1, .int 6), (0, .ref h0)]) 0 rfl (by decide +kernel) (by decide) rfl dX5_init_90 ?_
  refine k_go (pc := 93) C (tgt := 71) dX5_init_93 rfl ?_
  refine k_ild (pc := 71) C (i := 1) (x := 6) 0 rfl rfl dX5_init_71 ?_
  refine k_bi (pc := 72) C (v := 9) dX5_init_72 (by decide +kernel) ?_
  refine k_gt0 (pc := 74) C 96 (by decide +kernel) dX5_init_74 rfl ?_
  refine k_al0 (pc := 77) C 1 rfl dX5_init_77 ?_
  refine k_get (pc := 78) C jnX5 rfl 2 (Nat.le_of_ble_eq_true rfl) (sg_w 352 (by decide +kernel) rfl) (v := .ref q12) rfl dX5_init_78 ?_
  refine k_ild (pc := 81) C (i := 1) (x := 6) 0 rfl rfl dX5_init_81 ?_
  refine k_obj3 (pc := 82) C (ini7 X.1) jnX7 tyX7 tyX7_ok (sg_w 343 (by decide +kernel) rfl) (sg_w 213 (by decide +kernel) rfl) (sg_w 5 (by decide +kernel) rfl) rfl (by decide +kernel) rfl (List.mem_of_getElem? (i := 9) rfl) (sg_w 216 (by decide +kernel) rfl) (sg_w 215 (by decide +kernel) rfl) rfl ⟨by decide, by decide, by decide +kernel⟩ (Nat.le_of_ble_eq_true rfl) (Nat.le_of_ble_eq_true rfl) (k' := 28) (n' := 210) rfl rfl (Nat.le_of_ble_eq_true rfl) (Nat.le_of_ble_eq_true rfl) (Nat.le_of_ble_eq_true rfl) (flt_app2 _ _ _) dX5_init_82 dX5_init_85 dX5_init_86 (fun u99 => ?_)
  refine k_ast (pc := 89) C (i0 := 5) (ci := 7) (fun _ => rfl) rfl (by decide) rfl (by decide +kernel) (sg_ib_in (by decide +kernel)) (iN := 6) (by decide +kernel) dX5_init_89 ?_
  refine k_inc (pc := 90) C (i := 1) (v := 7) (lv' := [(1, .int 7), (0, .ref h0)]) 0 rfl (by decide +kernel) (by decide) rfl dX5_init_90 ?_
  refine k_go (pc := 93) C (tgt := 71) dX5_init_93 rfl ?_
  refine k_ild (pc := 71) C (i := 1) (x := 7) 0 rfl rfl dX5_init_71 ?_
  refine k_bi (pc := 72) C (v := 9) dX5_init_72 (by decide +kernel) ?_
  refine k_gt0 (pc := 74) C 96 (by decide +kernel) dX5_init_74 rfl ?_
  refine k_al0 (pc := 77) C 1 rfl dX5_init_77 ?_
  refine k_get (pc := 78) C jnX5 rfl 2 (Nat.le_of_ble_eq_true rfl) (sg_w 352 (by decide +kernel) rfl) (v := .ref q12) rfl dX5_init_78 ?_
  refine k_ild (pc := 81) C (i := 1) (x := 7) 0 rfl rfl dX5_init_81 ?_
  refine k_obj3 (pc := 82) C (ini7 X.1) jnX7 tyX7 tyX7_ok (sg_w 343 (by decide +kernel) rfl) (sg_w 213 (by decide +kernel) rfl) (sg_w 5 (by decide +kernel) rfl) rfl (by decide +kernel) rfl (List.mem_of_getElem? (i := 9) rfl) (sg_w 216 (by decide +kernel) rfl) (sg_w 215 (by decide +kernel) rfl) rfl ⟨by decide, by decide, by decide +kernel⟩ (Nat.le_of_ble_eq_true rfl) (Nat.le_of_ble_eq_true rfl) (k' := 29) (n' := 213) rfl rfl (Nat.le_of_ble_eq_true rfl) (Nat.le_of_ble_eq_true rfl) (Nat.le_of_ble_eq_true rfl) (flt_app2 _ _ _) dX5_init_82 dX5_init_85 dX5_init_86 (fun u109 => ?_)
  refine k_ast (pc := 89) C (i0 := 5) (ci := 7) (fun _ => rfl) rfl (by decide) rfl (by decide +kernel) (sg_ib_in (by decide +kernel)) (iN := 7) (by decide +kernel) dX5_init_89 ?_
  refine k_inc (pc := 90) C (i := 1) (v := 8) (lv' := [(1, .int 8), (0, .ref h0)]) 0 rfl (by decide +kernel) (by decide) rfl dX5_init_90 ?_
  refine k_go (pc := 93) C (tgt := 71) dX5_init_93 rfl ?_
  refine k_ild (pc := 71) C (i := 1) (x := 8) 0 rfl rfl dX5_init_71 ?_
  refine k_bi (pc := 72) C (v := 9) dX5_init_72 (by decide +kernel) ?_
  refine k_gt0 (pc := 74) C 96 (by decide +kernel) dX5_init_74 rfl ?_
  refine k_al0 (pc := 77) C 1 rfl dX5_init_77 ?_
  refine k_get (pc := 78) C jnX5 rfl 2 (Nat.le_of_ble_eq_true rfl) (sg_w 352 (by decide +kernel) rfl) (v := .ref q12) rfl dX5_init_78 ?_
  refine k_ild (pc := 81) C (i := 1) (x := 8) 0 rfl rfl dX5_init_81 ?_
  refine k_obj3 (pc := 82) C (ini7 X.1) jnX7 tyX7 tyX7_ok (sg_w 343 (by decide +kernel) rfl) (sg_w 213 (by decide +kernel) rfl) (sg_w 5 (by decide +kernel) rfl) rfl (by decide +kernel) rfl (List.mem_of_getElem? (i := 9) rfl) (sg_w 216 (by decide +kernel) rfl) (sg_w 215 (by decide +kernel) rfl) rfl ⟨by decide, by decide, by decide +kernel⟩ (Nat.le_of_ble_eq_true rfl) (Nat.le_of_ble_eq_true rfl) (k' := 30) (n' := 216) rfl rfl (Nat.le_of_ble_eq_true rfl) (Nat.le_of_ble_eq_true rfl) (Nat.le_of_ble_eq_true rfl) (flt_app2 _ _ _) dX5_init_82 dX5_init_85 dX5_init_86 (fun u119 => ?_)
  refine k_ast (pc := 89) C (i0 := 5) (ci := 7) (fun _ => rfl) rfl (by decide) rfl (by decide +kernel) (sg_ib_in (by decide +kernel)) (iN := 8) (by decide +kernel) dX5_init_89 ?_
  refine k_inc (pc := 90) C (i := 1) (v := 9) (lv' := [(1, .int 9), (0, .ref h0)]) 0 rfl (by decide +kernel) (by decide) rfl dX5_init_90 ?_
  refine k_go (pc := 93) C (tgt := 71) dX5_init_93 rfl ?_
  refine k_ild (pc := 71) C (i := 1) (x := 9) 0 rfl rfl dX5_init_71 ?_
  refine k_bi (pc := 72) C (v := 9) dX5_init_72 (by decide +kernel) ?_
  refine k_gt0 (pc := 74) C 96 (by decide +kernel) dX5_init_74 rfl ?_
  refine k_al0 (pc := 77) C 1 rfl dX5_init_77 ?_
  refine k_get (pc := 78) C jnX5 rfl 2 (Nat.le_of_ble_eq_true rfl) (sg_w 352 (by decide +kernel) rfl) (v := .ref q12) rfl dX5_init_78 ?_
  refine k_ild (pc := 81) C (i := 1) (x := 9) 0 rfl rfl dX5_init_81 ?_
  refine k_obj3 (pc := 82) C (ini7 X.1) jnX7 tyX7 tyX7_ok (sg_w 343 (by decide +kernel) rfl) (sg_w 213 (by decide +kernel) rfl) (sg_w 5 (by decide +kernel) rfl) rfl (by decide +kernel) rfl (List.mem_of_getElem? (i := 9) rfl) (sg_w 216 (by decide +kernel) rfl) (sg_w 215 (by decide +kernel) rfl) rfl ⟨by decide, by decide, by decide +kernel⟩ (Nat.le_of_ble_eq_true rfl) (Nat.le_of_ble_eq_true rfl) (k' := 31) (n' := 219) rfl rfl (Nat.le_of_ble_eq_true rfl) (Nat.le_of_ble_eq_true rfl) (Nat.le_of_ble_eq_true rfl) (flt_app2 _ _ _) dX5_init_82 dX5_init_85 dX5_init_86 (fun u129 => ?_)
  refine k_ast (pc := 89) C (i0 := 5) (ci := 7) (fun _ => rfl) rfl (by decide) rfl (by decide +kernel) (sg_ib_in (by decide +kernel)) (iN := 9) (by decide +kernel) dX5_init_89 ?_
  refine k_inc (pc := 90) C (i := 1) (v := 10) (lv' := [(1, .int 10), (0, .ref h0)]) 0 rfl (by decide +kernel) (by decide) rfl dX5_init_90 ?_
  refine k_go (pc := 93) C (tgt := 71) dX5_init_93 rfl ?_
  refine k_ild (pc := 71) C (i := 1) (x := 10) 0 rfl rfl dX5_init_71 ?_
  refine k_bi (pc := 72) C (v := 9) dX5_init_72 (by decide +kernel) ?_
  refine k_gt1 (pc := 74) C (tgt := 96) (by decide +kernel) dX5_init_74 rfl ?_
  exact k_ret2 (pc := 96) C E (S2 := [([15], [10], fun _ => q19), ([13], [10], fun _ => q23), (kl7, ll7, u26), (kl1, ll1, u29)]) (S3 := [(kl7, ll7, u39), (kl7, ll7, u49), (kl7, ll7, u59), (kl7, ll7, u69), (kl7, ll7, u79), (kl7, ll7, u89), (kl7, ll7, u99), (kl7, ll7, u109), (kl7, ll7, u119), (kl7, ll7, u129)]) (s1 := [([13], [9])]) (s2 := [([15], [10]), ([13], [10]), ([7], [0]), ([1, 14, 7, 13, 13, 19, 14, 14, 14, 14, 14, 14, 14, 14, 14, 13], [0, 9, 0, 9, 9, 9, 10, 10, 10, 10, 10, 10, 10, 10, 10, 9])]) (s3 := [([7], [0]), ([7], [0]), ([7], [0]), ([7], [0]), ([7], [0]), ([7], [0]), ([7], [0]), ([7], [0]), ([7], [0]), ([7], [0])]) (o := 2) rfl rfl rfl rfl (by decide +kernel) (by decide +kernel) (by decide +kernel) (by decide +kernel) rfl (by decide) rfl (by decide) rfl (by decide +kernel) rfl (fun j hj => by rcases (show j = 0 ∨ j = 1 ∨ j = 2 ∨ j = 3 ∨ j = 4 ∨ j = 5 ∨ j = 6 ∨ j = 7 ∨ j = 8 ∨ j = 9 by omega) with rfl | rfl | rfl | rfl | rfl | rfl | rfl | rfl | rfl | rfl <;> rfl) dX5_init_96
set_option maxHeartbeats 16000000 in
set_option maxRecDepth 100000 in
theorem ini10 (V : sg_V) : cn_ct V yX10_init cX10_init 2 10 4 266 3489 sg_kc sg_lc := by
  refine cn_body (by decide) (by decide) rfl (fun X h0 hV C E => ?_)
  rw [show dfl 10 = [.null, .null, .null, .null, .null, .int 0, .null, .null, .null, .null, .null, .null, .null] by decide +kernel]
  refine k_al0 (pc := 0) C 0 rfl dX10_init_0 ?_
  refine k_oin (pc := 1) C (sg_w 26 (by decide +kernel) rfl) (Nat.le_of_ble_eq_true rfl) dX10_init_1 ?_
  refine k_al0 (pc := 4) C 0 rfl dX10_init_4 ?_
  refine k_obj3 (pc := 5) C (ini6 X.1) jnX6 tyX6 tyX6_ok (sg_w 29 (by decide +kernel) rfl) (sg_w 30 (by decide +kernel) rfl) (sg_w 2 (by decide +kernel) rfl) rfl (by decide +kernel) rfl (List.mem_of_getElem? (i := 0) rfl) (sg_w 33 (by decide +kernel) rfl) (sg_w 32 (by decide +kernel) rfl) rfl ⟨by decide, by decide, by decide +kernel⟩ (Nat.le_of_ble_eq_true rfl) (Nat.le_of_ble_eq_true rfl) (k' := 12) (n' := 849) rfl rfl (Nat.le_of_ble_eq_true rfl) (Nat.le_of_ble_eq_true rfl) (Nat.le_of_ble_eq_true rfl) (flt_app _) dX10_init_5 dX10_init_8 dX10_init_9 (fun u4 => ?_)
  refine k_putF (pc := 12) C jnX10 rfl 0 (Nat.le_of_ble_eq_true rfl) (sg_w 507 (by decide +kernel) rfl) tyX10 tyX10_ok nmX10 rfl rfl (ty := (.object "SupplyGrid$Reader")) (by decide +kernel) rfl rfl (fs' := [.ref (u4 0), .null, .null, .null, .null, .int 0, .null, .null, .null, .null, .null, .null, .null]) rfl (Nat.le_of_ble_eq_true rfl) dX10_init_12 ?_
  refine k_al0 (pc := 15) C 0 rfl dX10_init_15 ?_
  refine k_obj3 (pc := 16) C (ini4 X.1) jnX4 tyX4 tyX4_ok (sg_w 203 (by decide +kernel) rfl) (sg_w 36 (by decide +kernel) rfl) (sg_w 3 (by decide +kernel) rfl) rfl (by decide +kernel) rfl (List.mem_of_getElem? (i := 2) rfl) (sg_w 39 (by decide +kernel) rfl) (sg_w 38 (by decide +kernel) rfl) rfl ⟨by decide, by decide, by decide +kernel⟩ (Nat.le_of_ble_eq_true rfl) (Nat.le_of_ble_eq_true rfl) (k' := 22) (n' := 985) rfl rfl (Nat.le_of_ble_eq_true rfl) (Nat.le_of_ble_eq_true rfl) (Nat.le_of_ble_eq_true rfl) (flt_app _) dX10_init_16 dX10_init_19 dX10_init_20 (fun u7 => ?_)
  refine k_putF (pc := 23) C jnX10 rfl 1 (Nat.le_of_ble_eq_true rfl) (sg_w 508 (by decide +kernel) rfl) tyX10 tyX10_ok nmX10 rfl rfl (ty := (.object "SupplyGrid$Net")) (by decide +kernel) rfl rfl (fs' := [.ref (u4 0), .ref (u7 0), .null, .null, .null, .int 0, .null, .null, .null, .null, .null, .null, .null]) rfl (Nat.le_of_ble_eq_true rfl) dX10_init_23 ?_
  refine k_al0 (pc := 26) C 0 rfl dX10_init_26 ?_
  refine k_ic (pc := 27) C (v := 3) dX10_init_27 (by decide +kernel) ?_
  refine k_anw (pc := 28) C (i0 := 4) (t := 16) (N' := 3) (cn := "SupplyGrid$Net") (sg_w 203 (by decide +kernel) rfl) (List.mem_of_getElem? (i := 0) rfl) (fun _ => rfl) (by decide +kernel) (by decide +kernel) (Nat.le_of_ble_eq_true rfl) (k' := 23) (n' := 988) rfl rfl (Nat.le_of_ble_eq_true rfl) (Nat.le_of_ble_eq_true rfl) dX10_init_28 (fun q11 => ?_)
  refine k_putF (pc := 31) C jnX10 rfl 2 (Nat.le_of_ble_eq_true rfl) (sg_w 509 (by decide +kernel) rfl) tyX10 tyX10_ok nmX10 rfl rfl (ty := (.array (.object "SupplyGrid$Net"))) (by decide +kernel) rfl rfl (fs' := [.ref (u4 0), .ref (u7 0), .ref q11, .null, .null, .int 0, .null, .null, .null, .null, .null, .null, .null]) rfl (Nat.le_of_ble_eq_true rfl) dX10_init_31 ?_
  refine k_al0 (pc := 34) C 0 rfl dX10_init_34 ?_
  refine k_ic (pc := 35) C (v := 3) dX10_init_35 (by decide +kernel) ?_
  refine k_nZ (pc := 36) C (N' := 3) (by decide +kernel) (by decide +kernel) (Nat.le_of_ble_eq_true rfl) (k' := 24) (n' := 991) rfl rfl (Nat.le_of_ble_eq_true rfl) (Nat.le_of_ble_eq_true rfl) (flt_app2 _ _ _) dX10_init_36 (fun q15 => ?_)
  refine k_putF (pc := 38) C jnX10 rfl 3 (Nat.le_of_ble_eq_true rfl) (sg_w 510 (by decide +kernel) rfl) tyX10 tyX10_ok nmX10 rfl rfl (ty := (.array .boolean)) (by decide +kernel) rfl rfl (fs' := [.ref (u4 0), .ref (u7 0), .ref q11, .ref q15, .null, .int 0, .null, .null, .null, .null, .null, .null, .null]) rfl (Nat.le_of_ble_eq_true rfl) dX10_init_38 ?_
  refine k_al0 (pc := 41) C 0 rfl dX10_init_41 ?_
  refine k_obj3 (pc := 42) C (ini1 X.1) jnX1 tyX1 tyX1_ok (sg_w 206 (by decide +kernel) rfl) (sg_w 207 (by decide +kernel) rfl) (sg_w 4 (by decide +kernel) rfl) rfl (by decide +kernel) rfl (List.mem_of_getElem? (i := 3) rfl) (sg_w 210 (by decide +kernel) rfl) (sg_w 209 (by decide +kernel) rfl) rfl ⟨by decide, by decide, by decide +kernel⟩ (Nat.le_of_ble_eq_true rfl) (Nat.le_of_ble_eq_true rfl) (k' := 40) (n' := 1138) rfl rfl (Nat.le_of_ble_eq_true rfl) (Nat.le_of_ble_eq_true rfl) (Nat.le_of_ble_eq_true rfl) (flt_app2 _ _ _) dX10_init_42 dX10_init_45 dX10_init_46 (fun u18 => ?_)
  refine k_putF (pc := 49) C jnX10 rfl 4 (Nat.le_of_ble_eq_true rfl) (sg_w 511 (by decide +kernel) rfl) tyX10 tyX10_ok nmX10 rfl rfl (ty := (.object "SupplyGrid$Flow")) (by decide +kernel) rfl rfl (fs' := [.ref (u4 0), .ref (u7 0), .ref q11, .ref q15, .ref (u18 0), .int 0, .null, .null, .null, .null, .null, .null, .null]) rfl (Nat.le_of_ble_eq_true rfl) dX10_init_49 ?_
  refine k_al0 (pc := 52) C 0 rfl dX10_init_52 ?_
  refine k_ic (pc := 53) C (v := 0) dX10_init_53 (by decide +kernel) ?_
  refine k_put (pc := 54) C jnX10 rfl 5 (Nat.le_of_ble_eq_true rfl) (sg_w 512 (by decide +kernel) rfl) tyX10 tyX10_ok nmX10 rfl (ty := .boolean) (by decide +kernel) rfl rfl (fs' := [.ref (u4 0), .ref (u7 0), .ref q11, .ref q15, .ref (u18 0), .int 0, .null, .null, .null, .null, .null, .null, .null]) rfl (Nat.le_of_ble_eq_true rfl) dX10_init_54 ?_
  refine k_al0 (pc := 57) C 0 rfl dX10_init_57 ?_
  refine k_obj3 (pc := 58) C (ini1 X.1) jnX1 tyX1 tyX1_ok (sg_w 206 (by decide +kernel) rfl) (sg_w 207 (by decide +kernel) rfl) (sg_w 4 (by decide +kernel) rfl) rfl (by decide +kernel) rfl (List.mem_of_getElem? (i := 3) rfl) (sg_w 210 (by decide +kernel) rfl) (sg_w 209 (by decide +kernel) rfl) rfl ⟨by decide, by decide, by decide +kernel⟩ (Nat.le_of_ble_eq_true rfl) (Nat.le_of_ble_eq_true rfl) (k' := 56) (n' := 1285) rfl rfl (Nat.le_of_ble_eq_true rfl) (Nat.le_of_ble_eq_true rfl) (Nat.le_of_ble_eq_true rfl) (flt_app2 _ _ _) dX10_init_58 dX10_init_61 dX10_init_62 (fun u24 => ?_)
  refine k_putF (pc := 65) C jnX10 rfl 6 (Nat.le_of_ble_eq_true rfl) (sg_w 513 (by decide +kernel) rfl) tyX10 tyX10_ok nmX10 rfl rfl (ty := (.object "SupplyGrid$Flow")) (by decide +kernel) rfl rfl (fs' := [.ref (u4 0), .ref (u7 0), .ref q11, .ref q15, .ref (u18 0), .int 0, .ref (u24 0), .null, .null, .null, .null, .null, .null]) rfl (Nat.le_of_ble_eq_true rfl) dX10_init_65 ?_
  refine k_al0 (pc := 68) C 0 rfl dX10_init_68 ?_
  refine k_obj3 (pc := 69) C (ini0 X.1) jnX0 tyX0 tyX0_ok (sg_w 279 (by decide +kernel) rfl) (sg_w 280 (by decide +kernel) rfl) (sg_w 6 (by decide +kernel) rfl) rfl (by decide +kernel) rfl (List.mem_of_getElem? (i := 5) rfl) (sg_w 283 (by decide +kernel) rfl) (sg_w 282 (by decide +kernel) rfl) rfl ⟨by decide, by decide, by decide +kernel⟩ (Nat.le_of_ble_eq_true rfl) (Nat.le_of_ble_eq_true rfl) (k' := 75) (n' := 1450) rfl rfl (Nat.le_of_ble_eq_true rfl) (Nat.le_of_ble_eq_true rfl) (Nat.le_of_ble_eq_true rfl) (flt_app2 _ _ _) dX10_init_69 dX10_init_72 dX10_init_73 (fun u27 => ?_)
  refine k_putF (pc := 76) C jnX10 rfl 7 (Nat.le_of_ble_eq_true rfl) (sg_w 514 (by decide +kernel) rfl) tyX10 tyX10_ok nmX10 rfl rfl (ty := (.object "SupplyGrid$Bounded")) (by decide +kernel) rfl rfl (fs' := [.ref (u4 0), .ref (u7 0), .ref q11, .ref q15, .ref (u18 0), .int 0, .ref (u24 0), .ref (u27 0), .null, .null, .null, .null, .null]) rfl (Nat.le_of_ble_eq_true rfl) dX10_init_76 ?_
  refine k_al0 (pc := 79) C 0 rfl dX10_init_79 ?_
  refine k_obj3 (pc := 80) C (ini9 X.1) jnX9 tyX9 tyX9_ok (sg_w 307 (by decide +kernel) rfl) (sg_w 308 (by decide +kernel) rfl) (sg_w 7 (by decide +kernel) rfl) rfl (by decide +kernel) rfl (List.mem_of_getElem? (i := 7) rfl) (sg_w 311 (by decide +kernel) rfl) (sg_w 310 (by decide +kernel) rfl) rfl ⟨by decide, by decide, by decide +kernel⟩ (Nat.le_of_ble_eq_true rfl) (Nat.le_of_ble_eq_true rfl) (k' := 142) (n' := 2239) rfl rfl (Nat.le_of_ble_eq_true rfl) (Nat.le_of_ble_eq_true rfl) (Nat.le_of_ble_eq_true rfl) (flt_app2 _ _ _) dX10_init_80 dX10_init_83 dX10_init_84 (fun u30 => ?_)
  refine k_putF (pc := 87) C jnX10 rfl 8 (Nat.le_of_ble_eq_true rfl) (sg_w 515 (by decide +kernel) rfl) tyX10 tyX10_ok nmX10 rfl rfl (ty := (.object "SupplyGrid$Years")) (by decide +kernel) rfl rfl (fs' := [.ref (u4 0), .ref (u7 0), .ref q11, .ref q15, .ref (u18 0), .int 0, .ref (u24 0), .ref (u27 0), .ref (u30 0), .null, .null, .null, .null]) rfl (Nat.le_of_ble_eq_true rfl) dX10_init_87 ?_
  refine k_al0 (pc := 90) C 0 rfl dX10_init_90 ?_
  refine k_obj4 (pc := 91) C (ini5 X.1) jnX5 tyX5 tyX5_ok (sg_w 337 (by decide +kernel) rfl) (sg_w 338 (by decide +kernel) rfl) (sg_w 8 (by decide +kernel) rfl) rfl (by decide +kernel) rfl (sg_w 339 (by decide +kernel) rfl) (sg_w 341 (by decide +kernel) rfl) (sg_w 340 (by decide +kernel) rfl) rfl ⟨by decide, by decide, by decide +kernel⟩ (Nat.le_of_ble_eq_true rfl) (Nat.le_of_ble_eq_true rfl) (k' := 174) (n' := 2466) rfl rfl (Nat.le_of_ble_eq_true rfl) (Nat.le_of_ble_eq_true rfl) (Nat.le_of_ble_eq_true rfl) (flt_app2 _ _ _) dX10_init_91 dX10_init_94 dX10_init_95 (fun u33 => ?_)
  refine k_putF (pc := 98) C jnX10 rfl 9 (Nat.le_of_ble_eq_true rfl) (sg_w 516 (by decide +kernel) rfl) tyX10 tyX10_ok nmX10 rfl rfl (ty := (.object "SupplyGrid$PadSearch")) (by decide +kernel) rfl rfl (fs' := [.ref (u4 0), .ref (u7 0), .ref q11, .ref q15, .ref (u18 0), .int 0, .ref (u24 0), .ref (u27 0), .ref (u30 0), .ref (u33 0), .null, .null, .null]) rfl (Nat.le_of_ble_eq_true rfl) dX10_init_98 ?_
  refine k_al0 (pc := 101) C 0 rfl dX10_init_101 ?_
  refine k_obj3 (pc := 102) C (ini8 X.1) jnX8 tyX8 tyX8_ok (sg_w 376 (by decide +kernel) rfl) (sg_w 377 (by decide +kernel) rfl) (sg_w 9 (by decide +kernel) rfl) rfl (by decide +kernel) rfl (List.mem_of_getElem? (i := 11) rfl) (sg_w 380 (by decide +kernel) rfl) (sg_w 379 (by decide +kernel) rfl) rfl ⟨by decide, by decide, by decide +kernel⟩ (Nat.le_of_ble_eq_true rfl) (Nat.le_of_ble_eq_true rfl) (k' := 197) (n' := 2680) rfl rfl (Nat.le_of_ble_eq_true rfl) (Nat.le_of_ble_eq_true rfl) (Nat.le_of_ble_eq_true rfl) (flt_app2 _ _ _) dX10_init_102 dX10_init_105 dX10_init_106 (fun u36 => ?_)
  refine k_putF (pc := 109) C jnX10 rfl 10 (Nat.le_of_ble_eq_true rfl) (sg_w 517 (by decide +kernel) rfl) tyX10 tyX10_ok nmX10 rfl rfl (ty := (.object "SupplyGrid$StrapSearch")) (by decide +kernel) rfl rfl (fs' := [.ref (u4 0), .ref (u7 0), .ref q11, .ref q15, .ref (u18 0), .int 0, .ref (u24 0), .ref (u27 0), .ref (u30 0), .ref (u33 0), .ref (u36 0), .null, .null]) rfl (Nat.le_of_ble_eq_true rfl) dX10_init_109 ?_
  refine k_al0 (pc := 112) C 0 rfl dX10_init_112 ?_
  refine k_obj3 (pc := 113) C (ini3 X.1) jnX3 tyX3 tyX3_ok (sg_w 436 (by decide +kernel) rfl) (sg_w 437 (by decide +kernel) rfl) (sg_w 10 (by decide +kernel) rfl) rfl (by decide +kernel) rfl (List.mem_of_getElem? (i := 14) rfl) (sg_w 440 (by decide +kernel) rfl) (sg_w 439 (by decide +kernel) rfl) rfl ⟨by decide, by decide, by decide +kernel⟩ (Nat.le_of_ble_eq_true rfl) (Nat.le_of_ble_eq_true rfl) (k' := 217) (n' := 2917) rfl rfl (Nat.le_of_ble_eq_true rfl) (Nat.le_of_ble_eq_true rfl) (Nat.le_of_ble_eq_true rfl) (flt_app2 _ _ _) dX10_init_113 dX10_init_116 dX10_init_117 (fun u39 => ?_)
  refine k_putF (pc := 120) C jnX10 rfl 11 (Nat.le_of_ble_eq_true rfl) (sg_w 518 (by decide +kernel) rfl) tyX10 tyX10_ok nmX10 rfl rfl (ty := (.object "SupplyGrid$LossSearch")) (by decide +kernel) rfl rfl (fs' := [.ref (u4 0), .ref (u7 0), .ref q11, .ref q15, .ref (u18 0), .int 0, .ref (u24 0), .ref (u27 0), .ref (u30 0), .ref (u33 0), .ref (u36 0), .ref (u39 0), .null]) rfl (Nat.le_of_ble_eq_true rfl) dX10_init_120 ?_
  refine k_al0 (pc := 123) C 0 rfl dX10_init_123 ?_
  refine k_obj3 (pc := 124) C (ini2 X.1) jnX2 tyX2 tyX2_ok (sg_w 479 (by decide +kernel) rfl) (sg_w 480 (by decide +kernel) rfl) (sg_w 11 (by decide +kernel) rfl) rfl (by decide +kernel) rfl (List.mem_of_getElem? (i := 17) rfl) (sg_w 483 (by decide +kernel) rfl) (sg_w 482 (by decide +kernel) rfl) rfl ⟨by decide, by decide, by decide +kernel⟩ (Nat.le_of_ble_eq_true rfl) (Nat.le_of_ble_eq_true rfl) (k' := 236) (n' := 3081) rfl rfl (Nat.le_of_ble_eq_true rfl) (Nat.le_of_ble_eq_true rfl) (Nat.le_of_ble_eq_true rfl) (flt_app2 _ _ _) dX10_init_124 dX10_init_127 dX10_init_128 (fun u42 => ?_)
  refine k_putF (pc := 131) C jnX10 rfl 12 (Nat.le_of_ble_eq_true rfl) (sg_w 519 (by decide +kernel) rfl) tyX10 tyX10_ok nmX10 rfl rfl (ty := (.object "SupplyGrid$LoadTrials")) (by decide +kernel) rfl rfl (fs' := [.ref (u4 0), .ref (u7 0), .ref q11, .ref q15, .ref (u18 0), .int 0, .ref (u24 0), .ref (u27 0), .ref (u30 0), .ref (u33 0), .ref (u36 0), .ref (u39 0), .ref (u42 0)]) rfl (Nat.le_of_ble_eq_true rfl) dX10_init_131 ?_
  refine k_ic (pc := 134) C (v := 0) dX10_init_134 (by decide +kernel) ?_
  refine k_ist (pc := 135) C (i := 1) (lv' := [(1, .int 0), (0, .ref h0)]) rfl (by decide) rfl dX10_init_135 ?_
  refine k_ild (pc := 136) C (i := 1) (x := 0) 0 rfl rfl dX10_init_136 ?_
  refine k_ic (pc := 137) C (v := 3) dX10_init_137 (by decide +kernel) ?_
  refine k_ge0 (pc := 138) C 160 (by decide +kernel) dX10_init_138 rfl ?_
  refine k_al0 (pc := 141) C 1 rfl dX10_init_141 ?_
  refine k_get (pc := 142) C jnX10 rfl 2 (Nat.le_of_ble_eq_true rfl) (sg_w 509 (by decide +kernel) rfl) (v := .ref q11) rfl dX10_init_142 ?_
  refine k_ild (pc := 145) C (i := 1) (x := 0) 0 rfl rfl dX10_init_145 ?_
  refine k_obj3 (pc := 146) C (ini4 X.1) jnX4 tyX4 tyX4_ok (sg_w 203 (by decide +kernel) rfl) (sg_w 36 (by decide +kernel) rfl) (sg_w 3 (by decide +kernel) rfl) rfl (by decide +kernel) rfl (List.mem_of_getElem? (i := 2) rfl) (sg_w 39 (by decide +kernel) rfl) (sg_w 38 (by decide +kernel) rfl) rfl ⟨by decide, by decide, by decide +kernel⟩ (Nat.le_of_ble_eq_true rfl) (Nat.le_of_ble_eq_true rfl) (k' := 246) (n' := 3217) rfl rfl (Nat.le_of_ble_eq_true rfl) (Nat.le_of_ble_eq_true rfl) (Nat.le_of_ble_eq_true rfl) (flt_app2 _ _ _) dX10_init_146 dX10_init_149 dX10_init_150 (fun u52 => ?_)
  refine k_ast (pc := 153) C (i0 := 4) (ci := 4) (fun _ => rfl) rfl (by decide) rfl (by decide +kernel) (sg_ib_in (by decide +kernel)) (iN := 0) (by decide +kernel) dX10_init_153 ?_
  refine k_inc (pc := 154) C (i := 1) (v := 1) (lv' := [(1, .int 1), (0, .ref h0)]) 0 rfl (by decide +kernel) (by decide) rfl dX10_init_154 ?_
  refine k_go (pc := 157) C (tgt := 136) dX10_init_157 rfl ?_
  refine k_ild (pc := 136) C (i := 1) (x := 1) 0 rfl rfl dX10_init_136 ?_
  refine k_ic (pc := 137) C (v := 3) dX10_init_137 (by decide +kernel) ?_
  refine k_ge0 (pc := 138) C 160 (by decide +kernel) dX10_init_138 rfl ?_
  refine k_al0 (pc := 141) C 1 rfl dX10_init_141 ?_
  refine k_get (pc := 142) C jnX10 rfl 2 (Nat.le_of_ble_eq_true rfl) (sg_w 509 (by decide +kernel) rfl) (v := .ref q11) rfl dX10_init_142 ?_
  refine k_ild (pc := 145) C (i := 1) (x := 1) 0 rfl rfl dX10_init_145 ?_
  refine k_obj3 (pc := 146) C (ini4 X.1) jnX4 tyX4 tyX4_ok (sg_w 203 (by decide +kernel) rfl) (sg_w 36 (by decide +kernel) rfl) (sg_w 3 (by decide +kernel) rfl) rfl (by decide +kernel) rfl (List.mem_of_getElem? (i := 2) rfl) (sg_w 39 (by decide +kernel) rfl) (sg_w 38 (by decide +kernel) rfl) rfl ⟨by decide, by decide, by decide +kernel⟩ (Nat.le_of_ble_eq_true rfl) (Nat.le_of_ble_eq_true rfl) (k' := 256) (n' := 3353) rfl rfl (Nat.le_of_ble_eq_true rfl) (Nat.le_of_ble_eq_true rfl) (Nat.le_of_ble_eq_true rfl) (flt_app2 _ _ _) dX10_init_146 dX10_init_149 dX10_init_150 (fun u62 => ?_)
  refine k_ast (pc := 153) C (i0 := 4) (ci := 4) (fun _ => rfl) rfl (by decide) rfl (by decide +kernel) (sg_ib_in (by decide +kernel)) (iN := 1) (by decide +kernel) dX10_init_153 ?_
  refine k_inc (pc := 154) C (i := 1) (v := 2) (lv' := [(1, .int 2), (0, .ref h0)]) 0 rfl (by decide +kernel) (by decide) rfl dX10_init_154 ?_
  refine k_go (pc := 157) C (tgt := 136) dX10_init_157 rfl ?_
  refine k_ild (pc := 136) C (i := 1) (x := 2) 0 rfl rfl dX10_init_136 ?_
  refine k_ic (pc := 137) C (v := 3) dX10_init_137 (by decide +kernel) ?_
  refine k_ge0 (pc := 138) C 160 (by decide +kernel) dX10_init_138 rfl ?_
  refine k_al0 (pc := 141) C 1 rfl dX10_init_141 ?_
  refine k_get (pc := 142) C jnX10 rfl 2 (Nat.le_of_ble_eq_true rfl) (sg_w 509 (by decide +kernel) rfl) (v := .ref q11) rfl dX10_init_142 ?_
  refine k_ild (pc := 145) C (i := 1) (x := 2) 0 rfl rfl dX10_init_145 ?_
  refine k_obj3 (pc := 146) C (ini4 X.1) jnX4 tyX4 tyX4_ok (sg_w 203 (by decide +kernel) rfl) (sg_w 36 (by decide +kernel) rfl) (sg_w 3 (by decide +kernel) rfl) rfl (by decide +kernel) rfl (List.mem_of_getElem? (i := 2) rfl) (sg_w 39 (by decide +kernel) rfl) (sg_w 38 (by decide +kernel) rfl) rfl ⟨by decide, by decide, by decide +kernel⟩ (Nat.le_of_ble_eq_true rfl) (Nat.le_of_ble_eq_true rfl) (k' := 266) (n' := 3489) rfl rfl (Nat.le_of_ble_eq_true rfl) (Nat.le_of_ble_eq_true rfl) (Nat.le_of_ble_eq_true rfl) (flt_app2 _ _ _) dX10_init_146 dX10_init_149 dX10_init_150 (fun u72 => ?_)
  refine k_ast (pc := 153) C (i0 := 4) (ci := 4) (fun _ => rfl) rfl (by decide) rfl (by decide +kernel) (sg_ib_in (by decide +kernel)) (iN := 2) (by decide +kernel) dX10_init_153 ?_
  refine k_inc (pc := 154) C (i := 1) (v := 3) (lv' := [(1, .int 3), (0, .ref h0)]) 0 rfl (by decide +kernel) (by decide) rfl dX10_init_154 ?_
  refine k_go (pc := 157) C (tgt := 136) dX10_init_157 rfl ?_
  refine k_ild (pc := 136) C (i := 1) (x := 3) 0 rfl rfl dX10_init_136 ?_
  refine k_ic (pc := 137) C (v := 3) dX10_init_137 (by decide +kernel) ?_
  refine k_ge1 (pc := 138) C (tgt := 160) (by decide +kernel) dX10_init_138 rfl ?_
  exact k_ret2 (pc := 160) C E (S2 := [([15], [3], fun _ => q15), (kl1, ll1, u18), (kl1, ll1, u24), (kl0, ll0, u27), (kl9, ll9, u30), (kl5, ll5, u33), (kl8, ll8, u36), (kl3, ll3, u39), (kl2, ll2, u42)]) (S3 := [(kl4, ll4, u52), (kl4, ll4, u62), (kl4, ll4, u72)]) (s1 := [([6, 4, 13, 13, 13, 13, 13, 13, 13, 13, 13, 13], [0, 0, 12, 12, 12, 9, 9, 4, 20, 20, 20, 700]), ([4, 13, 13, 13, 13, 13, 13, 13, 13, 13], [0, 12, 12, 12, 9, 9, 4, 20, 20, 20])]) (s2 := [([15], [3]), ([1, 14, 7, 13, 13, 19, 14, 14, 14, 14, 14, 14, 14, 14, 14, 13], [0, 9, 0, 9, 9, 9, 10, 10, 10, 10, 10, 10, 10, 10, 10, 9]), ([1, 14, 7, 13, 13, 19, 14, 14, 14, 14, 14, 14, 14, 14, 14, 13], [0, 9, 0, 9, 9, 9, 10, 10, 10, 10, 10, 10, 10, 10, 10, 9]), ([0, 13, 13, 1, 14, 7, 13, 13, 19, 14, 14, 14, 14, 14, 14, 14, 14, 14, 13], [0, 9, 4, 0, 9, 0, 9, 9, 9, 10, 10, 10, 10, 10, 10, 10, 10, 10, 9]), ([9, 18, 13, 13, 13, 13, 13, 13, 13, 13, 13, 13, 13, 13, 13, 13, 13, 13, 13, 13, 13, 13, 13, 13, 13, 13, 13, 13, 13, 13, 13, 13, 13, 13, 13, 13, 13, 13, 13, 13, 13, 13, 13, 13, 13, 13, 13, 13, 13, 13, 13, 1, 14, 7, 13, 13, 19, 14, 14, 14, 14, 14, 14, 14, 14, 14, 13], [0, 49, 12, 12, 12, 12, 12, 12, 12, 12, 12, 12, 12, 12, 12, 12, 12, 12, 12, 12, 12, 12, 12, 12, 12, 12, 12, 12, 12, 12, 12, 12, 12, 12, 12, 12, 12, 12, 12, 12, 12, 12, 12, 12, 12, 12, 12, 12, 12, 12, 12, 0, 9, 0, 9, 9, 9, 10, 10, 10, 10, 10, 10, 10, 10, 10, 9]), ([5, 13, 17, 7, 7, 7, 7, 7, 7, 7, 7, 7, 7, 15, 13, 7, 1, 14, 7, 13, 13, 19, 14, 14, 14, 14, 14, 14, 14, 14, 14, 13], [0, 9, 10, 0, 0, 0, 0, 0, 0, 0, 0, 0, 0, 10, 10, 0, 0, 9, 0, 9, 9, 9, 10, 10, 10, 10, 10, 10, 10, 10, 10, 9]), ([8, 13, 13, 13, 13, 7, 7, 1, 14, 7, 13, 13, 19, 14, 14, 14, 14, 14, 14, 14, 14, 14, 13], [0, 20, 3, 12, 12, 0, 0, 0, 9, 0, 9, 9, 9, 10, 10, 10, 10, 10, 10, 10, 10, 10, 9]), ([3, 13, 13, 7, 1, 14, 7, 13, 13, 19, 14, 14, 14, 14, 14, 14, 14, 14, 14, 13], [0, 66, 12, 0, 0, 9, 0, 9, 9, 9, 10, 10, 10, 10, 10, 10, 10, 10, 10, 9]), ([2, 7, 13, 1, 14, 7, 13, 13, 19, 14, 14, 14, 14, 14, 14, 14, 14, 14, 13], [0, 0, 9, 0, 9, 0, 9, 9, 9, 10, 10, 10, 10, 10, 10, 10, 10, 10, 9])]) (s3 := [([4, 13, 13, 13, 13, 13, 13, 13, 13, 13], [0, 12, 12, 12, 9, 9, 4, 20, 20, 20]), ([4, 13, 13, 13, 13, 13, 13, 13, 13, 13], [0, 12, 12, 12, 9, 9, 4, 20, 20, 20]), ([4, 13, 13, 13, 13, 13, 13, 13, 13, 13], [0, 12, 12, 12, 9, 9, 4, 20, 20, 20])]) (o := 23) rfl rfl rfl rfl (by decide +kernel) (by decide +kernel) (by decide +kernel) (by decide +kernel) rfl (by decide) rfl (by decide) rfl (by decide +kernel) rfl (fun j hj => by rcases (show j = 0 ∨ j = 1 ∨ j = 2 by omega) with rfl | rfl | rfl <;> rfl) dX10_init_160
