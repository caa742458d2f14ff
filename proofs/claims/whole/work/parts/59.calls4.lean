/-! heat, hottest, wearing, reached, parts, share -/
section C4
variable {N : Nat} {b : Nat → Int32}
theorem q_heat {x y : Int32} (hN : 1000 ≤ N) : bth b (fX10_heat N 0 x y) (fX11_heat N 0 x y) := by
  intro Mc Mr hc hr
  have h := hc.1
  have hn := vb_n h
  have hd := bD_b h
  obtain ⟨M0, e0, T0, F0⟩ := r_istp (N := N) (x := x) h hr (by omega)
  have f0 := rFr_rsF F0
  have hr0 : M0.1 1 = b := (rsF_11 f0).trans hr
  unfold fX10_heat fX11_heat
  rw [c_hs hc, e0, e_b, e_b]
  by_cases hx : sg_ib x (gS b) = true
  case neg => simp only [if_neg hx, if_pos q0]; exact ⟨-2, ⟨_, rfl, hc, low_refl⟩, ⟨_, rfl, rsF_rEq f0⟩⟩
  simp only [if_pos hx, if_neg q1]
  rw [c_isPart, r_isPart, e_b, e_b]
  by_cases hy : sg_ib y 2 = true
  case neg => simp only [if_neg hy, if_pos q0]; exact ⟨-2, ⟨_, rfl, hc, low_refl⟩, ⟨_, rfl, rsF_rEq f0⟩⟩
  simp only [if_pos hy, if_neg q1]
  obtain ⟨s, hs, rfl⟩ := ib_ex hx
  obtain ⟨M1, e1, S1, F1⟩ := r_lay (N := N) h hr0 hN
  obtain ⟨M2, e2, c2, s2, f2⟩ := now_ok (N := N) hc hN
  have hb := heat_b h hs
  rw [e1, e2, e_b, e_bv, y0_1, y13_11, c_heat K55 (c_fl c2 s2) yn_16 ((cI_N c2).2.2.1 s (by omega)) hs, e_b, c_be s2, r_heat h S1 hs (by omega), e_b, r_whole S1, c_part (by omega) (by omega) (by omega), r_part (by omega) (by omega) (by omega)]
  exact ⟨_, ⟨_, rfl, c2, nowF_low f2⟩, ⟨_, rfl, rsF_rEq (rsF_tr f0 F1)⟩⟩
def hot (b : Nat → Int32) : Nat → Int32 × Int
  | 0 => (-1, 0)
  | k + 1 => if (hot b k).2 < heat b k then (nI k, heat b k) else hot b k
theorem hot_s (k : Nat) : hot b (k + 1) = if (hot b k).2 < heat b k then (nI k, heat b k) else hot b k := rfl
theorem hot_b (h : vb b) : ∀ k, k ≤ gS b → 0 ≤ (hot b k).2 ∧ (hot b k).2 ≤ 18919194624 := by
  intro k
  induction k with
  | zero => intro _; exact ⟨Int.le_refl 0, show (0 : Int) ≤ 18919194624 by omega⟩
  | succ k ih =>
    intro hk
    rw [hot_s]
    split
    · exact heat_b h (by omega)
    · exact ih (by omega)
theorem q_hottest (hN : 1000 ≤ N) : bth b (fX10_hottest N 0) (fX11_hottest N 0) := by
  intro Mc Mr hc hr
  have h := hc.1
  have hn := vb_n h
  obtain ⟨M1, e1, S1, F1⟩ := r_asks (N := N) h hr hN
  obtain ⟨M2, e2, c2, s2, f2⟩ := now_ok (N := N) hc hN
  unfold fX10_hottest fX11_hottest
  rw [c_ng hc, e1, e_b, e_b, if_pos q0, if_neg q1, e2, e_b]
  refine ⟨(hot b (gS b)).1, okA_of ?_, okA_of ?_⟩
  · refine ok_m (ok_m (ok_m ?_))
    unfold gX10_hottest_22
    refine ok_for 0 (gS b) (fun i s M => s = (0, 55, (hot b i).1, lI (hot b i).2, nI i) ∧ M2 = M) (by omega) (by omega) ⟨rfl, rfl⟩ ?_ ?_
    · rintro i s M back hi ⟨rfl, rfl⟩ hb
      have h1 := heat_b h hi
      have h2 := hot_b h i (by omega)
      unfold bX10_hottest_22
      dsimp only
      rw [y0_1, y13_11, cf6 c2, c_heat K55 (c_fl c2 s2) yn_16 ((cI_N c2).2.2.1 i (by omega)) hi, e_b, e_m, nI_1]
      refine ok_f (nI_ge hi (by omega)) (ok_if (fun z => ?_) (fun z => ?_))
      · have z : ¬ (hot b i).2 < heat b i := fun q => lg_le.mp z ((lI_lt (by omega) (by omega) (by omega) (by omega)).mpr q)
        exact ok_m (hb _ _ ⟨by rw [hot_s, if_neg z], rfl⟩)
      · have z : (hot b i).2 < heat b i := by
          apply Classical.byContradiction
          intro q
          exact z (lg_le.mpr (fun y => q ((lI_lt (by omega) (by omega) (by omega) (by omega)).mp y)))
        exact ok_m (ok_m (ok_m (hb _ _ ⟨by rw [hot_s, if_pos z], rfl⟩)))
    · rintro s M back ⟨rfl, rfl⟩
      unfold bX10_hottest_22
      dsimp only
      rw [y0_1, cf6 c2]
      exact ok_t (nI_le (Nat.le_refl _) (by omega)) (ok_some ⟨rfl, c2, nowF_low f2⟩)
  · refine ok_m (ok_m (ok_m ?_))
    unfold gX11_hottest_17
    refine ok_for 0 (gS b) (fun i s M => s = (0, (hot b i).1, lI (hot b i).2, nI i) ∧ M1 = M) (by omega) (by omega) ⟨rfl, rfl⟩ ?_ ?_
    · rintro i s M back hi ⟨rfl, rfl⟩ hb
      have h1 := heat_b h hi
      have h2 := hot_b h i (by omega)
      unfold bX11_hottest_17
      dsimp only
      rw [r_8 S1, r_heat h S1 hi (by omega), e_b, r_heat h S1 hi (by omega), nI_1]
      refine ok_f (nI_ge hi (by omega)) (ok_if (fun z => ?_) (fun z => ?_))
      · have z : (hot b i).2 < heat b i := (lI_lt (by omega) (by omega) (by omega) (by omega)).mp (lg_gt.mp z)
        exact ok_m (ok_bs (ok_m (ok_m (hb _ _ ⟨by rw [hot_s, if_pos z], rfl⟩))))
      · have z : ¬ (hot b i).2 < heat b i := fun q => z (lg_gt.mpr ((lI_lt (by omega) (by omega) (by omega) (by omega)).mpr q))
        exact ok_m (hb _ _ ⟨by rw [hot_s, if_neg z], rfl⟩)
    · rintro s M back ⟨rfl, rfl⟩
      unfold bX11_hottest_17
      dsimp only
      rw [r_8 S1]
      exact ok_t (nI_le (Nat.le_refl _) (by omega)) (ok_some ⟨rfl, rsF_rEq F1⟩)
theorem wbF_s (k : Nat) : wbF b (k + 1) = wbF b k ||| (if (gE b : Int) * bD b < heat b k then bi k else 0) := rfl
theorem r_wears {M : sg_M} (h : vb b) (h1 : M.1 1 = b) (hN : 1000 ≤ N) : okA (fX11_wears N 0 M) (wbs b) (fun M1 => rS b M1 ∧ rsF M M1) := by
  apply okA_of
  have hn := vb_n h
  have he := vb_E h
  have hm := mulT_b he.2 (bD_b h)
  unfold fX11_wears
  refine ok_bv (r_lay (N := N) h h1 hN) (fun M1 hM => ok_m (ok_m ?_))
  obtain ⟨S1, F1⟩ := hM
  unfold gX11_wears_8
  refine ok_for 0 (gS b) (fun i s M2 => s = (0, wbF b i, nI i) ∧ M1 = M2) (by omega) (by omega) ⟨rfl, rfl⟩ ?_ ?_
  · rintro i s M2 back hi ⟨rfl, rfl⟩ hb
    have h1 := heat_b h hi
    unfold bX11_wears_8
    dsimp only
    rw [r_8 S1, r_heat h S1 hi (by omega), e_b, yr_1, yl_1, c_3, S1.2, vb_3 h, r_whole S1, lI_nI (by omega), lI_mul, nI_1]
    refine ok_f (nI_ge hi (by omega)) (ok_t (by decide) (ok_if (fun z => ?_) (fun z => ?_)))
    · have z : ¬ (gE b : Int) * bD b < heat b i := fun q => lg_le.mp z ((lI_lt (by omega) (by omega) (by omega) (by omega)).mpr q)
      exact ok_m (ok_m (hb _ _ ⟨by rw [wbF_s, if_neg z], rfl⟩))
    · have z : (gE b : Int) * bD b < heat b i := by
        apply Classical.byContradiction
        intro q
        exact z (lg_le.mpr (fun y => q ((lI_lt (by omega) (by omega) (by omega) (by omega)).mp y)))
      exact ok_m (ok_m (hb _ _ ⟨by rw [wbF_s, if_pos z]; rfl, rfl⟩))
  · rintro s M2 back ⟨rfl, rfl⟩
    unfold bX11_wears_8
    dsimp only
    rw [r_8 S1]
    exact ok_t (nI_le (Nat.le_refl _) (by omega)) (ok_some ⟨rfl, S1, F1⟩)
theorem q_wearing (hN : 1000 ≤ N) : bth b (fX10_wearing N 0) (fX11_wearing N 0) := by
  intro Mc Mr hc hr
  have h := hc.1
  obtain ⟨M1, e1, S1, F1⟩ := r_wears (N := N) h hr hN
  obtain ⟨M2, e2, c2, s2, f2⟩ := now_ok (N := N) hc hN
  unfold fX10_wearing fX11_wearing
  rw [c_ng hc, r_grd h hr, e_b, e_b, if_pos q0, if_neg q1, e2, e1, e_b, e_b, y0_1, y13_11, c_wear K55 (c_fl c2 s2) yn_16 (cI_N c2).2.2.1 (cI_N c2).1.2.2.2.1 (by omega), e_b]
  exact ⟨_, ⟨_, rfl, c2, nowF_low f2⟩, ⟨_, rfl, rsF_rEq F1⟩⟩
abbrev bCl (b : Nat → Int32) (x : Int32) : Int32 := clo (gC b) (gR b) (gW b) 9 x
theorem c_spr {x : Int32} {M : sg_M} (hc : cI b M) (hN : 20 ≤ N) : fX4_spread N 13 16 x M = some (bCl b x, M) := by
  have h := hc.1
  have hn := vb_n h
  have nG := cNet_G (cI_N hc)
  exact ok_eq (spread_ok (q := 13) (a := 16) ⟨by decide, by decide⟩ yn_16 h.1 nG.2.1 nG.2.2.1 nG.2.2.2 (fun s hs => by
    have hs : s < gS b := hs
    have := vb_w4 h (show s < 12 by omega)
    exact ⟨((cI_N hc).2.2.1 s (by omega)).trans (vb_w h (by omega)), (by omega)⟩) hN)
theorem r_cmt {x : Int32} {M : sg_M} (h : vb b) (hr : M.1 1 = b) (hT : rTab (stp (gC b) (gR b)) M) (hN : 20 ≤ N) : fX11_comesTo N 0 x M = some (bCl b x, M) := by
  have hn := vb_n h
  exact ok_eq (comes_ok h.1 hT (fun s hs => by
    have hs : s < gS b := hs
    have := vb_w4 h (show s < 12 by omega)
    rw [hr]
    exact ⟨vb_w h (by omega), (by omega)⟩) hN)
theorem q_reached {x : Int32} (hN : 1000 ≤ N) : bth b (fX10_reached N 0 x) (fX11_reached N 0 x) := by
  intro Mc Mr hc hr
  have h := hc.1
  unfold fX10_reached fX11_reached
  rw [c_hn hc, r_nod h hr, e_b, e_b]
  by_cases hx : sg_ib x (gM b) = true
  case neg => simp only [if_neg hx, if_pos q0]; exact ⟨-2, ⟨_, rfl, hc, low_refl⟩, ⟨_, rfl, rEq_refl⟩⟩
  simp only [if_pos hx, if_neg q1]
  obtain ⟨M1, e1, T1, F1⟩ := r_stp (N := N) h hr (by omega)
  rw [y0_1, y13_11, c_spr hc (by omega), e1, e_b, e_b, r_cmt h ((rsF_11 (rFr_rsF F1)).trans hr) T1 (by omega), e_b]
  exact ⟨_, ⟨_, rfl, hc, low_refl⟩, ⟨_, rfl, rsF_rEq (rFr_rsF F1)⟩⟩
def prt (b : Nat → Int32) : Nat → Int32 × Nat
  | 0 => (0, 0)
  | k + 1 => if bt (prt b k).1 k = true then prt b k else ((prt b k).1 ||| bCl b (bi k), (prt b k).2 + 1)
theorem prt_s (k : Nat) : prt b (k + 1) = if bt (prt b k).1 k = true then prt b k else ((prt b k).1 ||| bCl b (bi k), (prt b k).2 + 1) := rfl
theorem q_parts (hN : 1000 ≤ N) : bth b (fX10_parts N 0) (fX11_parts N 0) := by
  intro Mc Mr hc hr
  have h := hc.1
  have hm := vb_m h
  obtain ⟨M1, e1, T1, F1⟩ := r_stp (N := N) h hr (by omega)
  have hr1 : M1.1 1 = b := (rsF_11 (rFr_rsF F1)).trans hr
  unfold fX10_parts fX11_parts
  rw [c_ng hc, r_grd h hr, e_b, e_b, if_pos q0, if_neg q1, e1, e_b]
  refine ⟨nI (prt b (gM b)).2, okA_of ?_, okA_of ?_⟩
  · refine ok_m (ok_m (ok_m ?_))
    unfold gX10_parts_16
    refine ok_for 0 (gM b) (fun i s M => s = (0, (prt b i).1, nI (prt b i).2, nI i) ∧ Mc = M) (by omega) (by omega) ⟨rfl, rfl⟩ ?_ ?_
    · rintro i s M back hi ⟨rfl, rfl⟩ hb
      unfold bX10_parts_16
      dsimp only
      rw [y0_1, y13_11, cf5 hc, c_spr hc (by omega), e_b, nI_1, nI_1]
      refine ok_f (nI_ge hi (by omega)) (ok_if (fun z => ?_) (fun z => ?_))
      · have z := (bt_test0 (show i < 32 by omega)).mp z
        exact ok_m (ok_m (ok_m (hb _ _ ⟨by rw [prt_s, z]; rfl, rfl⟩)))
      · have z : bt (prt b i).1 i = true := by
          cases q : bt (prt b i).1 i with
          | true => rfl
          | false => exact absurd ((bt_test0 (show i < 32 by omega)).mpr q) z
        exact ok_m (hb _ _ ⟨by rw [prt_s, if_pos z], rfl⟩)
    · rintro s M back ⟨rfl, rfl⟩
      unfold bX10_parts_16
      dsimp only
      rw [y0_1, cf5 hc]
      exact ok_t (nI_le (Nat.le_refl _) (by omega)) (ok_some ⟨rfl, hc, low_refl⟩)
  · refine ok_m (ok_m (ok_m ?_))
    unfold gX11_parts_21
    refine ok_for 0 (gM b) (fun i s M => s = (0, nI (prt b i).2, (prt b i).1, nI i) ∧ M1 = M) (by omega) (by omega) ⟨rfl, rfl⟩ ?_ ?_
    · rintro i s M back hi ⟨rfl, rfl⟩ hb
      unfold bX11_parts_21
      dsimp only
      rw [r_nd h hr1, e_b, r_isOf (show i < 32 by omega), e_b, r_cmt h hr1 T1 (by omega), e_b, nI_1, nI_1]
      refine ok_f (nI_ge hi (by omega)) ?_
      by_cases z : bt (prt b i).1 i = true
      · rw [if_pos z]
        exact ok_f q1 (ok_m (hb _ _ ⟨by rw [prt_s, if_pos z], rfl⟩))
      · rw [if_neg z]
        exact ok_t q0 (ok_m (ok_m (ok_m (hb _ _ ⟨by rw [prt_s, if_neg z]; rfl, rfl⟩))))
    · rintro s M back ⟨rfl, rfl⟩
      unfold bX11_parts_21
      dsimp only
      rw [r_nd h hr1, e_b]
      exact ok_t (nI_le (Nat.le_refl _) (by omega)) (ok_some ⟨rfl, rsF_rEq (rFr_rsF F1)⟩)
theorem fs_Ul {un : Nat → Bool} {F : Nat → Int} : ∀ n, fs (Ul un n).length (fun q => F ((Ul un n).getD q 0)) = fs n (fun v => if un v = true then F v else 0) := by
  intro n
  induction n with
  | zero => rfl
  | succ n ih =>
    show _ = fs n _ + (if un n = true then F n else 0)
    rw [← ih, Ul_succ]
    by_cases q : un n = true
    · rw [if_pos q, if_pos q, List.length_append]
      show fs (Ul un n).length _ + _ = _
      congr 1
      · exact fs_congr (fun i hi => by rw [getD_app, if_pos hi])
      · show F (List.getD _ (Ul un n).length 0) = _
        rw [getD_app, if_neg (by omega), Nat.sub_self]
        rfl
    · rw [if_neg q, if_neg q, List.append_nil, Int.add_zero]
/-- of u's drop, v's share -/
def shr (b : Nat → Int32) (u v : Nat) : Int := (gL b v : Int) * bV2 b v u
theorem bX_sum (h : vb b) {u : Nat} (hu : u < gM b) : bX b u = fs (gM b) (shr b u) := by
  show xN _ _ _ _ _ _ = _
  rw [xN_mv hu]
  refine (fs_Ul (un := unk (gC b) (gR b) (gW b) (b 5)) (F := fun v => mv (gC b) (gR b) (gW b) (b 5) u v * (gL b v : Int)) (gM b)).trans (fs_congr (fun v hv => ?_))
  have e : shr b u v = mv (gC b) (gR b) (gW b) (b 5) u v * (gL b v : Int) := by
    unfold shr
    rw [show bV2 b v u = mv (gC b) (gR b) (gW b) (b 5) u v from mv_sym h.1 hv hu, Int.mul_comm]
  rw [e]
  by_cases q : unk (gC b) (gR b) (gW b) (b 5) v = true
  · rw [if_pos q]
  · rw [if_neg q]
    unfold mv
    rw [if_neg (fun z => q z.2), Int.zero_mul]
theorem shr_b (h : vb b) {u v : Nat} (hu : u < gM b) (hv : v < gM b) : 0 ≤ shr b u v ∧ shr b u v ≤ 2102132736 := by
  have hm := vb_m h
  have h1 := mvb h hv hu
  have hl := vb_l99 h (show v < 9 by omega)
  unfold shr
  exact ⟨Int.mul_nonneg (by omega) h1.1, Int.le_trans (Int.mul_le_mul (show (gL b v : Int) ≤ 99 by omega) h1.2 h1.1 (by omega)) (by omega)⟩
theorem pt_0 {d : Int} {z : Int32} (hd : 0 < d ∧ d < 562949953421312) (hz : z = 0 ∨ z = 1) : pt 0 d z = z.toInt64 := by
  have e : ((Int.gcd 0 d : Nat) : Int) = d := by rw [Int.gcd_zero_left]; omega
  unfold pt
  rw [e]
  rcases hz with rfl | rfl
  · rw [if_pos rfl, lI_div (c := 0) (by omega) (by rw [Int.mul_zero]) (by omega) (by omega) (by omega) (by omega)]
    rfl
  · rw [if_neg q1, lI_div (c := 1) (by omega) (by rw [Int.mul_one]) (by omega) (by omega) (by omega) (by omega)]
    rfl
set_option maxHeartbeats 1000000 in
theorem q_share {x y z : Int32} (hN : 1000 ≤ N) : bth b (fX10_share N 0 x y z) (fX11_share N 0 x y z) := by
  intro Mc Mr hc hr
  have h := hc.1
  have hm := vb_m h
  unfold fX10_share fX11_share
  rw [c_hn hc, r_nod h hr, e_b, e_b]
  by_cases hx : sg_ib x (gM b) = true
  case neg => simp only [if_neg hx, if_pos q0]; exact ⟨-2, ⟨_, rfl, hc, low_refl⟩, ⟨_, rfl, rEq_refl⟩⟩
  simp only [if_pos hx, if_neg q1]
  rw [c_hn hc, r_nod h hr, e_b, e_b]
  by_cases hy : sg_ib y (gM b) = true
  case neg => simp only [if_neg hy, if_pos q0]; exact ⟨-2, ⟨_, rfl, hc, low_refl⟩, ⟨_, rfl, rEq_refl⟩⟩
  simp only [if_pos hy, if_neg q1]
  rw [c_isPart, r_isPart, e_b, e_b]
  by_cases hz : sg_ib z 2 = true
  case neg => simp only [if_neg hz, if_pos q0]; exact ⟨-2, ⟨_, rfl, hc, low_refl⟩, ⟨_, rfl, rEq_refl⟩⟩
  simp only [if_pos hz, if_neg q1]
  obtain ⟨u, hu, rfl⟩ := ib_ex hx
  obtain ⟨v, hv, rfl⟩ := ib_ex hy
  have hz2 := ib2.mp hz
  obtain ⟨M1, e1, S1, F1⟩ := r_lay (N := N) h hr hN
  obtain ⟨M2, e2, c2, s2, f2⟩ := now_ok (N := N) hc hN
  obtain ⟨M3, e3, c3, s3, f3⟩ := now_ok (N := N) c2 hN
  rw [e1, e2, e_b, e_bv, c_dd s2 (show u < 32 by omega), r_dd S1 (show u < 32 by omega), e_b, e_b, e3, e_b, c_dd s3 (show v < 32 by omega), r_dd S1 (show v < 32 by omega), e_b, e_b]
  by_cases d1 : bt (bQ b) u = true
  · simp only [if_pos d1, if_neg q1]
    exact ⟨_, ⟨_, rfl, c2, nowF_low f2⟩, ⟨_, rfl, rsF_rEq F1⟩⟩
  simp only [if_neg d1, if_pos q0]
  by_cases d2 : bt (bQ b) v = true
  · simp only [if_pos d2, if_neg q1]
    exact ⟨_, ⟨_, rfl, c3, low_tr (nowF_low f2) (nowF_low f3)⟩, ⟨_, rfl, rsF_rEq F1⟩⟩
  simp only [if_neg d2, if_pos q0, if_true]
  rw [y0_6, y0_1, cf7 c3, r_mov h S1 hu hv, e_b, yr_1, yl_1, k_6, nI_clamp (show 6 + v < 2 ^ 31 by omega), S1.2, vb_l h (by omega)]
  obtain ⟨M4, e4, S4, F4⟩ := unit_ok (N := N) K71 (by omega) h (cI_N c3) (vb_P h) hu hN
  obtain ⟨c4, l4⟩ := fr71 c3 F4
  have hbx := bX_b h hu
  have hsh := shr_b h hu hv
  have hsm := bX_sum h hu
  have hl9 := vb_l99 h (show v < 9 by omega)
  have esh : bV2 b u v * (gL b v : Int) = shr b u v := by
    unfold shr
    rw [show bV2 b v u = bV2 b u v from mv_sym h.1 hv hu, Int.mul_comm]
  rw [e4, e_bv, r_drp h S1 hu (by omega), lI_nI (by omega), lI_mul, esh]
  refine ⟨if bX b u = 0 then pt 0 1 z else pt (shr b u v) (bX b u) z, okA_of ?_, okA_of ?_⟩
  · refine ok_m (ok_m ?_)
    unfold gX10_share_78
    refine ok_for 0 (gM b) (fun i s M => s = (0, nI v, z, lI (fs i (shr b u)), nI i) ∧ M4 = M) (by omega) (by omega) ⟨rfl, rfl⟩ ?_ ?_
    · rintro i s M back hi ⟨rfl, rfl⟩ hb
      have hl := vb_l99 h (show i < 9 by omega)
      unfold bX10_share_78
      dsimp only
      rw [y0_1, y0_6, y13_12, yn_17, cf5 c4, y71_2, yn_72, nI_clamp (show i < 2 ^ 31 by omega), (cI_N c4).2.2.2.1 i (by omega), vb_l h (by omega), lI_nI (by omega), show M4.2 72 i = lI (bV2 b i u) from un_x h S4 hi hu, lI_mul, lI_add, nI_1]
      exact ok_f (nI_ge hi (by omega)) (ok_t (ib_nI (by omega) (by omega)) (ok_t (ib_nI (by omega) (by omega)) (ok_m (ok_m (hb _ _ ⟨rfl, rfl⟩)))))
    · rintro s M back ⟨rfl, rfl⟩
      unfold bX10_share_78
      dsimp only
      rw [y0_1, y0_6, y13_12, yn_17, cf5 c4, y71_2, yn_72, nI_clamp (show v < 2 ^ 31 by omega), (cI_N c4).2.2.2.1 v (by omega), vb_l h (by omega), lI_nI (by omega), show M4.2 72 v = lI (bV2 b v u) from un_x h S4 hv hu, lI_mul, ← hsm]
      refine ok_t (nI_le (Nat.le_refl _) (by omega)) (ok_if (fun q => ?_) (fun q => ?_))
      · have q : bX b u = 0 := (lI_eq (b := 0) (by omega) (by omega) (by omega) (by omega)).mp (lg0.mp q)
        rw [if_pos q, show (0 : Int64) = lI 0 from rfl, show (1 : Int64) = lI 1 from rfl, c_part (by omega) (by omega) (by omega)]
        exact ok_some ⟨rfl, c4, low_tr (low_tr (nowF_low f2) (nowF_low f3)) l4⟩
      · have q : ¬ bX b u = 0 := fun y => q (lg0.mpr (by rw [y]; rfl))
        rw [if_neg q]
        refine ok_t (ib_nI (by omega) (by omega)) (ok_t (ib_nI (by omega) (by omega)) ?_)
        show ok (sg_b (fX10_partOf N (lI (shr b u v)) _ z M4) _) _
        rw [c_part (by omega) (by omega) (by omega)]
        exact ok_some ⟨rfl, c4, low_tr (low_tr (nowF_low f2) (nowF_low f3)) l4⟩
  · refine ok_t (ib_nI (by omega) (by omega)) (ok_m (ok_if (fun q => ?_) (fun q => ?_)))
    · have q : shr b u v = 0 := (lI_eq (b := 0) (by omega) (by omega) (by omega) (by omega)).mp (lg0.mp q)
      refine ok_some ⟨?_, rsF_rEq F1⟩
      rw [q]
      by_cases y : bX b u = 0
      · rw [if_pos y, pt_0 (by omega) hz2]
      · rw [if_neg y, pt_0 (by omega) hz2]
    · have q : ¬ shr b u v = 0 := fun y => q (lg0.mpr (by rw [y]; rfl))
      have y : ¬ bX b u = 0 := fun y => by
        have e := fs_pick (n := gM b) (k := v) (f := shr b u) hv
        have e2 : 0 ≤ fs (gM b) (fun i => if i = v then 0 else shr b u i) := fs_nonneg (fun i hi => by
          by_cases w : i = v
          · rw [if_pos w]; exact Int.le_refl 0
          · rw [if_neg w]; exact (shr_b h hu hi).1)
        omega
      rw [if_neg y, e_b, r_part (by omega) (by omega) (by omega)]
      exact ok_some ⟨rfl, rsF_rEq F1⟩
end C4
