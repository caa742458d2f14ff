/-! calls, both sides: the grid and its drops -/
theorem q0 : (0 : Int32) = 0 := rfl
theorem q1 : ¬ (1 : Int32) = 0 := by decide
theorem K55 : sg_K Yc 55 1 := ⟨by decide, by decide⟩
theorem K71 : sg_K Yc 71 1 := ⟨by decide, by decide⟩
theorem y55_2 : Yc.2.2.2 55 2 = 56 := by decide
theorem yn_56 : Yc.2.2.1 56 = 9 := by decide
theorem y55_3 : Yc.2.2.2 55 3 = 57 := by decide
theorem y71_2 : Yc.2.2.2 71 2 = 72 := by decide
theorem yn_72 : Yc.2.2.1 72 = 9 := by decide
section C1
variable {N : Nat} {b : Nat → Int32}
theorem b_ab {M : sg_M} {v : Nat} (h : cI b M) (hS : bsol b 55 M) (hv : v < gM b) : M.2 56 v = lI (bX b v) := c_ab h.1 hS hv
theorem q_strap {x y : Int32} (hN : 1000 ≤ N) : bth b (fX10_strap N 0 x y) (fX11_strap N 0 x y) := by
  intro Mc Mr hc hr
  have h := hc.1
  have hn := vb_n h
  obtain ⟨⟨n0, n1, n2, n3, n4, n7⟩, nG, nw, nl, ng, nb⟩ := cI_N hc
  obtain ⟨M1, e1, T1, F1⟩ := r_istp (N := N) (x := x) h hr (by omega)
  have f1 := rFr_rsF F1
  unfold fX10_strap fX11_strap
  rw [c_hs hc, e1, e_b, e_b, y0_1, y13_9, y13_10, y13_11, yn_14, yn_15, yn_16, yr_1, yr_7, yl_1, yl_6]
  by_cases hx : sg_ib x (gS b) = true
  case neg => simp only [if_neg hx, if_pos q0]; exact ⟨-1, ⟨_, rfl, hc, low_refl⟩, ⟨_, rfl, rsF_rEq f1⟩⟩
  simp only [if_pos hx, if_neg q1]
  obtain ⟨s, hs, rfl⟩ := ib_ex hx
  rw [show (2 : Int64) = lI (((3 : Nat) : Int) - 1) from rfl, r_in (n := 3) (by omega), e_b, k_28, k_2, nI_clamp (show s < 2 ^ 31 by omega), nI_clamp (show 28 + s < 2 ^ 31 by omega)]
  by_cases hy : sg_ib y 3 = true
  case neg =>
    have d0 : ¬ y = 0 := fun z => hy (by rw [z]; decide)
    have d1 : ¬ y = 1 := fun z => hy (by rw [z]; decide)
    have d2 : ¬ y = 2 := fun z => hy (by rw [z]; decide)
    simp only [if_neg hy, if_pos q0, if_neg d0, if_neg d1, if_neg d2]
    exact ⟨-1, ⟨_, rfl, hc, low_refl⟩, ⟨_, rfl, rsF_rEq f1⟩⟩
  simp only [if_pos hy, if_neg q1]
  obtain ⟨k, hk, rfl⟩ := ib_ex hy
  have i12 : sg_ib (nI s) 12 = true := (ib_nI (by omega) (by omega))
  rw [if_pos i12, if_pos i12, if_pos i12, nG.2.2.1 s hs, nG.2.2.2 s hs, nw s (by omega)]
  obtain rfl | rfl | rfl : k = 0 ∨ k = 1 ∨ k = 2 := by omega
  · rw [if_pos (show nI 0 = 0 from rfl), if_neg (show ¬ nI 0 = 2 by decide), nI_add, if_pos (ib_nI (by omega) (by omega)), nI_clamp (show 2 * s + 0 < 2 ^ 31 by omega)]
    exact ⟨_, ⟨_, rfl, hc, low_refl⟩, ⟨M1, by rw [Nat.add_zero, (T1.2 s hs).1]; rfl, rsF_rEq f1⟩⟩
  · rw [if_neg (show ¬ nI 1 = 0 by decide), if_pos (show nI 1 = 1 from rfl), if_neg (show ¬ nI 1 = 2 by decide), nI_add, if_pos (ib_nI (by omega) (by omega)), nI_clamp (show 2 * s + 1 < 2 ^ 31 by omega)]
    exact ⟨_, ⟨_, rfl, hc, low_refl⟩, ⟨M1, by rw [(T1.2 s hs).2]; rfl, rsF_rEq f1⟩⟩
  · rw [if_neg (show ¬ nI 2 = 0 by decide), if_neg (show ¬ nI 2 = 1 by decide), if_pos (show nI 2 = 2 from rfl), if_pos (show nI 2 = 2 from rfl), if_pos (ib_nI (by omega) (by omega))]
    exact ⟨_, ⟨_, rfl, hc, low_refl⟩, ⟨M1, by rw [rsF_11 f1, hr], rsF_rEq f1⟩⟩
/-- the strap that joins two -/
def stJ (b : Nat → Int32) (u v : Nat) (s : Nat) : Bool := decide ((bA b s = u ∧ bB b s = v) ∨ (bA b s = v ∧ bB b s = u))
def joins (b : Nat → Int32) (u v : Nat) : Int32 := if fst1 (stJ b u v) (gS b) < gS b then nI (fst1 (stJ b u v) (gS b)) else -1
theorem c_joins {q u v : Nat} {M : sg_M} (h : vb b) (hk : sg_K Yc q 4) (hG : netG (gC b) (gR b) q M) (hu : u < 9) (hv : v < 9) (hN : 20 ≤ N) : fX4_strapJoining N q (nI u) (nI v) M = some (joins b u v, M) := by
  have hn := vb_n h
  have hm := vb_m h
  have h6 : M.1 q 6 = nI (gS b) := hG.2.1
  unfold fX4_strapJoining
  apply ok_eq
  refine ok_m ?_
  unfold gX4_strapJoining_2
  refine ok_for 0 (gS b) (fun i s M1 => s = (q, nI u, nI v, nI i) ∧ M = M1 ∧ ∀ j, j < i → stJ b u v j = false) (by omega) (by omega) ⟨rfl, rfl, fun j hj => absurd hj (by omega)⟩ ?_ ?_
  · rintro i s M1 back hi ⟨rfl, rfl, hno⟩ hb
    obtain ⟨a1, a2⟩ := bAB h hi
    have eA : M.1 (q + 1) i = nI (bA b i) := hG.2.2.1 i hi
    have eB : M.1 (q + 2) i = nI (bB b i) := hG.2.2.2 i hi
    unfold bX4_strapJoining_2
    dsimp only
    rw [h6, rc4_9 hk, rc4_10 hk, lc4_9 hk, lc4_10 hk, nI_clamp (show i < 2 ^ 31 by omega), eA, eB]
    have go : stJ b u v i = false → ok (back (q, nI u, nI v, nI i + 1) M) (fun x => x = (joins b u v, M)) := fun z => hb _ _ ⟨by rw [nI_1], rfl, fun j hj => by
      by_cases e : j = i
      · rw [e]; exact z
      · exact hno j (by omega)⟩
    have won : stJ b u v i = true → ok (some (nI i, M)) (fun x => x = (joins b u v, M)) := fun z => ok_some (by unfold joins; rw [fst1_u hi z hno, if_pos hi])
    have s2 : ¬ (bA b i = u ∧ bB b i = v) → ok (gX4_strapJoining_35 N back q (nI u) (nI v) (nI i) 0 M) (fun x => x = (joins b u v, M)) := fun no => by
      unfold gX4_strapJoining_35
      rw [rc4_9 hk, rc4_10 hk, lc4_9 hk, lc4_10 hk, nI_clamp (show i < 2 ^ 31 by omega), eA, eB]
      refine ok_m (ok_t rfl (ok_t (ib_nI (by omega) (by omega)) (ok_if (fun z => ?_) (fun z => ?_))))
      · have z := (nI_eq (by omega) (by omega)).mp z
        refine ok_t (ib_nI (by omega) (by omega)) (ok_if (fun y => ?_) (fun y => ?_))
        · exact won (decide_eq_true (Or.inr ⟨z, (nI_eq (by omega) (by omega)).mp y⟩))
        · exact ok_m (go (decide_eq_false (fun w => w.elim no (fun w => y (by rw [w.2])))))
      · exact ok_m (go (decide_eq_false (fun w => w.elim no (fun w => z (by rw [w.1])))))
    refine ok_f (nI_ge hi (by omega)) (ok_t (ib_nI (by omega) (by omega)) (ok_if (fun z => ?_) (fun z => ?_)))
    · have z := (nI_eq (by omega) (by omega)).mp z
      refine ok_t (ib_nI (by omega) (by omega)) (ok_if (fun y => ?_) (fun y => ?_))
      · unfold gX4_strapJoining_35
        exact ok_m (ok_f (by decide) (won (decide_eq_true (Or.inl ⟨z, (nI_eq (by omega) (by omega)).mp y⟩))))
      · exact s2 (fun w => y (by rw [w.2]))
    · exact s2 (fun w => z (by rw [w.1]))
  · rintro s M1 back ⟨rfl, rfl, hno⟩
    unfold bX4_strapJoining_2
    dsimp only
    rw [h6]
    refine ok_t (nI_le (Nat.le_refl _) (by omega)) (ok_some ?_)
    unfold joins
    rw [fst1_n hno, if_neg (by omega)]
theorem r_joins {u v : Nat} {M : sg_M} (h : vb b) (hT : rTab (stp (gC b) (gR b)) M) (hu : u < 9) (hv : v < 9) (hN : 20 ≤ N) : fX11_strapOf N 0 (nI u) (nI v) M = some (joins b u v, M) := by
  have hn := vb_n h
  have hm := vb_m h
  have h8 : M.1 0 8 = nI (gS b) := hT.1
  unfold fX11_strapOf
  apply ok_eq
  refine ok_m ?_
  unfold gX11_strapOf_2
  refine ok_for 0 (gS b) (fun i s M1 => s = (0, nI u, nI v, nI i) ∧ M = M1 ∧ ∀ j, j < i → stJ b u v j = false) (by omega) (by omega) ⟨rfl, rfl, fun j hj => absurd hj (by omega)⟩ ?_ ?_
  · rintro i s M1 back hi ⟨rfl, rfl, hno⟩ hb
    obtain ⟨a1, a2⟩ := bAB h hi
    have eA : M.1 6 (2 * i) = nI (bA b i) := (hT.2 i hi).1
    have eB : M.1 6 (2 * i + 1) = nI (bB b i) := (hT.2 i hi).2
    have emin : (if nI v < nI u then nI v else nI u) = nI (if v < u then v else u) := by
      by_cases e : v < u
      · rw [if_pos (nI_lt e (by omega)), if_pos e]
      · rw [if_neg (nI_nlt (by omega) (by omega)), if_neg e]
    have emax : (if nI u < nI v then nI v else nI u) = nI (if u < v then v else u) := by
      by_cases e : u < v
      · rw [if_pos (nI_lt e (by omega)), if_pos e]
      · rw [if_neg (nI_nlt (by omega) (by omega)), if_neg e]
    have m1 : (if v < u then v else u) < 9 := by split <;> omega
    have m2 : (if u < v then v else u) < 9 := by split <;> omega
    have go : stJ b u v i = false → ok (back (0, nI u, nI v, nI i + 1) M) (fun x => x = (joins b u v, M)) := fun z => hb _ _ ⟨by rw [nI_1], rfl, fun j hj => by
      by_cases e : j = i
      · rw [e]; exact z
      · exact hno j (by omega)⟩
    unfold bX11_strapOf_2
    dsimp only
    rw [h8, yr_7, yl_6, k_2, nI_1, nI_clamp (show 2 * i < 2 ^ 31 by omega), nI_clamp (show 2 * i + 1 < 2 ^ 31 by omega), eA, eB, emin, emax]
    refine ok_f (nI_ge hi (by omega)) (ok_t (ib_nI (by omega) (by omega)) (ok_if (fun z => ?_) (fun z => ?_)))
    · have z := (nI_eq (by omega) (by omega)).mp z
      refine ok_t (ib_nI (by omega) (by omega)) (ok_if (fun y => ?_) (fun y => ?_))
      · have y := (nI_eq (by omega) (by omega)).mp y
        refine ok_some ?_
        unfold joins
        rw [fst1_u hi (decide_eq_true ?_) hno, if_pos hi]
        revert z y
        split <;> split <;> omega
      · refine ok_m (go (decide_eq_false (fun w => y (congrArg nI ?_))))
        revert z w
        split <;> split <;> omega
    · refine ok_m (go (decide_eq_false (fun w => z (congrArg nI ?_))))
      revert w
      split <;> omega
  · rintro s M1 back ⟨rfl, rfl, hno⟩
    unfold bX11_strapOf_2
    dsimp only
    rw [h8]
    refine ok_t (nI_le (Nat.le_refl _) (by omega)) (ok_some ?_)
    unfold joins
    rw [fst1_n hno, if_neg (by omega)]
theorem q_between {x y : Int32} (hN : 1000 ≤ N) : bth b (fX10_between N 0 x y) (fX11_between N 0 x y) := by
  intro Mc Mr hc hr
  have h := hc.1
  have hm := vb_m h
  unfold fX10_between fX11_between
  rw [c_hn hc, r_nod h hr, e_b, e_b, y0_1]
  by_cases hx : sg_ib x (gM b) = true
  case neg => simp only [if_neg hx, if_pos q0]; exact ⟨-2, ⟨_, rfl, hc, low_refl⟩, ⟨_, rfl, rEq_refl⟩⟩
  simp only [if_pos hx, if_neg q1]
  rw [c_hn hc, r_nod h hr, e_b, e_b]
  by_cases hy : sg_ib y (gM b) = true
  case neg => simp only [if_neg hy, if_pos q0]; exact ⟨-2, ⟨_, rfl, hc, low_refl⟩, ⟨_, rfl, rEq_refl⟩⟩
  simp only [if_pos hy, if_neg q1]
  obtain ⟨u, hu, rfl⟩ := ib_ex hx
  obtain ⟨v, hv, rfl⟩ := ib_ex hy
  obtain ⟨M1, e1, T1, F1⟩ := r_stp (N := N) h hr (by omega)
  rw [e1, e_b, c_joins h ⟨by decide, by decide⟩ (cNet_G (cI_N hc)) (by omega) (by omega) (by omega), r_joins h T1 (by omega) (by omega) (by omega)]
  exact ⟨_, ⟨_, rfl, hc, low_refl⟩, ⟨_, rfl, rsF_rEq (rFr_rsF F1)⟩⟩
theorem q_node {x y : Int32} (hN : 1000 ≤ N) : bth b (fX10_node N 0 x y) (fX11_node N 0 x y) := by
  intro Mc Mr hc hr
  have h := hc.1
  have hm := vb_m h
  obtain ⟨⟨n0, n1, n2, n3, n4, n7⟩, nG, nw, nl, ng, nb⟩ := cI_N hc
  unfold fX10_node fX11_node
  rw [c_hn hc, r_nod h hr, e_b, e_b, y0_1, y13_12, y13_13, yn_17, yn_18, yr_1, yl_1]
  by_cases hx : sg_ib x (gM b) = true
  case neg => simp only [if_neg hx, if_pos q0]; exact ⟨-1, ⟨_, rfl, hc, low_refl⟩, ⟨_, rfl, rEq_refl⟩⟩
  simp only [if_pos hx, if_neg q1]
  obtain ⟨v, hv, rfl⟩ := ib_ex hx
  rw [show (3 : Int64) = lI (((4 : Nat) : Int) - 1) from rfl, r_in (n := 4) (by omega), e_b, k_6, k_15, nI_clamp (show v < 2 ^ 31 by omega), nI_clamp (show 6 + v < 2 ^ 31 by omega), nI_clamp (show 15 + v < 2 ^ 31 by omega)]
  by_cases hy : sg_ib y 4 = true
  case neg =>
    have d0 : ¬ y = 0 := fun z => hy (by rw [z]; decide)
    have d1 : ¬ y = 1 := fun z => hy (by rw [z]; decide)
    have d2 : ¬ y = 2 := fun z => hy (by rw [z]; decide)
    have d3 : ¬ y = 3 := fun z => hy (by rw [z]; decide)
    simp only [if_neg hy, if_pos q0, if_neg d0, if_neg d1, if_neg d2, if_neg d3]
    exact ⟨-1, ⟨_, rfl, hc, low_refl⟩, ⟨_, rfl, rEq_refl⟩⟩
  simp only [if_pos hy, if_neg q1]
  obtain ⟨M1, e1, S1, F1⟩ := r_lay (N := N) h hr hN
  have i9 : sg_ib (nI v) 9 = true := (ib_nI (by omega) (by omega))
  have i40 : sg_ib (nI (6 + v)) 40 = true := (ib_nI (by omega) (by omega))
  have i41 : sg_ib (nI (15 + v)) 40 = true := (ib_nI (by omega) (by omega))
  have i5 : sg_ib (5 : Int32) 40 = true := by decide
  rw [e1, e_bv, if_pos i9, if_pos i9, if_pos i40, if_pos i41, if_pos i5, c_5, S1.2, nl v (by omega), ng v (by omega), c_pad (P := b 5) n7 (show v < 32 by omega), r_isOf (show v < 32 by omega), r_dd S1 (show v < 32 by omega), e_b, e_b, e_b]
  obtain ⟨k, hk, rfl⟩ := ib_ex hy
  obtain rfl | rfl | rfl | rfl : k = 0 ∨ k = 1 ∨ k = 2 ∨ k = 3 := by omega
  · rw [if_pos (show nI 0 = 0 from rfl), if_pos (show nI 0 = 0 from rfl)]
    by_cases z : bt (b 5) v = true
    · simp only [if_pos z, if_neg q1]
      exact ⟨_, ⟨_, rfl, hc, low_refl⟩, ⟨_, rfl, rsF_rEq F1⟩⟩
    · simp only [if_neg z, if_pos q0]
      exact ⟨_, ⟨_, rfl, hc, low_refl⟩, ⟨_, rfl, rsF_rEq F1⟩⟩
  · rw [if_neg (show ¬ nI 1 = 0 by decide), if_neg (show ¬ nI 1 = 0 by decide), if_pos (show nI 1 = 1 from rfl), if_pos (show nI 1 = 1 from rfl)]
    exact ⟨_, ⟨_, rfl, hc, low_refl⟩, ⟨_, rfl, rsF_rEq F1⟩⟩
  · rw [if_neg (show ¬ nI 2 = 0 by decide), if_neg (show ¬ nI 2 = 0 by decide), if_neg (show ¬ nI 2 = 1 by decide), if_neg (show ¬ nI 2 = 1 by decide), if_pos (show nI 2 = 2 from rfl), if_pos (show nI 2 = 2 from rfl)]
    exact ⟨_, ⟨_, rfl, hc, low_refl⟩, ⟨_, rfl, rsF_rEq F1⟩⟩
  · rw [if_neg (show ¬ nI 3 = 0 by decide), if_neg (show ¬ nI 3 = 0 by decide), if_neg (show ¬ nI 3 = 1 by decide), if_neg (show ¬ nI 3 = 1 by decide), if_neg (show ¬ nI 3 = 2 by decide), if_neg (show ¬ nI 3 = 2 by decide), if_pos (show nI 3 = 3 from rfl)]
    obtain ⟨M2, e2, c2, s2, f2⟩ := now_ok (N := N) hc hN
    rw [e2, e_b, c_dd s2 (show v < 32 by omega), e_b]
    by_cases z : bt (bQ b) v = true
    · simp only [if_pos z, if_neg q1]
      exact ⟨_, ⟨_, rfl, c2, nowF_low f2⟩, ⟨_, rfl, rsF_rEq F1⟩⟩
    · simp only [if_neg z, if_pos q0]
      exact ⟨_, ⟨_, rfl, c2, nowF_low f2⟩, ⟨_, rfl, rsF_rEq F1⟩⟩
theorem ib4 {x : Int32} : sg_ib x 4 = true ↔ ¬ x < 0 ∧ x < 4 := by
  have e : Int32.toInt 0 = 0 := by decide
  have e4 : Int32.toInt 4 = 4 := by decide
  rw [Int32.lt_iff_toInt_lt, Int32.lt_iff_toInt_lt, e, e4]
  unfold sg_ib
  rw [decide_eq_true_iff]
  omega
theorem q_budget {x : Int32} : bth b (fX10_budget N 0 x) (fX11_budget N 0 x) := by
  intro Mc Mr hc hr
  have h := hc.1
  obtain ⟨⟨n0, n1, n2, n3, n4, n7⟩, nG, nw, nl, ng, nb⟩ := cI_N hc
  unfold fX10_budget fX11_budget
  rw [c_ng hc, r_grd h hr, e_b, e_b, if_pos q0, if_neg q1, show (3 : Int64) = lI (((4 : Nat) : Int) - 1) from rfl, r_in (n := 4) (by omega), e_b, y0_1, y13_14, yn_19, yr_1, yl_1]
  by_cases hx : sg_ib x 4 = true
  · have hx2 := ib4.mp hx
    simp only [if_pos hx, if_neg q1, if_neg hx2.1, if_pos hx2.2]
    obtain ⟨v, hv, rfl⟩ := ib_ex hx
    rw [k_24, if_pos (ib_nI (by omega) (by omega)), nI_clamp (show v < 2 ^ 31 by omega), nI_clamp (show 24 + v < 2 ^ 31 by omega), nb v hv, hr]
    exact ⟨_, ⟨_, rfl, hc, low_refl⟩, ⟨_, rfl, rEq_refl⟩⟩
  · simp only [if_neg hx, if_pos q0]
    by_cases z : x < 0
    · rw [if_pos z]
      exact ⟨_, ⟨_, rfl, hc, low_refl⟩, ⟨_, rfl, rEq_refl⟩⟩
    · rw [if_neg z, if_neg (fun y => hx (ib4.mpr ⟨z, y⟩))]
      exact ⟨_, ⟨_, rfl, hc, low_refl⟩, ⟨_, rfl, rEq_refl⟩⟩
theorem q_drop {x y : Int32} (hN : 1000 ≤ N) : bth b (fX10_drop N 0 x y) (fX11_drop N 0 x y) := by
  intro Mc Mr hc hr
  have h := hc.1
  have hm := vb_m h
  have hd := bD_b h
  unfold fX10_drop fX11_drop
  rw [c_hn hc, r_nod h hr, e_b, e_b]
  by_cases hx : sg_ib x (gM b) = true
  case neg => simp only [if_neg hx, if_pos q0]; exact ⟨-2, ⟨_, rfl, hc, low_refl⟩, ⟨_, rfl, rEq_refl⟩⟩
  simp only [if_pos hx, if_neg q1]
  rw [c_isPart, r_isPart, e_b, e_b]
  by_cases hy : sg_ib y 2 = true
  case neg => simp only [if_neg hy, if_pos q0]; exact ⟨-2, ⟨_, rfl, hc, low_refl⟩, ⟨_, rfl, rEq_refl⟩⟩
  simp only [if_pos hy, if_neg q1]
  obtain ⟨v, hv, rfl⟩ := ib_ex hx
  obtain ⟨M1, e1, S1, F1⟩ := r_lay (N := N) h hr hN
  obtain ⟨M2, e2, c2, s2, f2⟩ := now_ok (N := N) hc hN
  have hb := bX_b h hv
  rw [e1, e2, e_b, e_bv, c_dd s2 (show v < 32 by omega), r_dd S1 (show v < 32 by omega), e_b, e_b]
  by_cases z : bt (bQ b) v = true
  · simp only [if_pos z, if_neg q1]
    exact ⟨_, ⟨_, rfl, c2, nowF_low f2⟩, ⟨_, rfl, rsF_rEq F1⟩⟩
  · simp only [if_neg z, if_pos q0]
    rw [y55_2, yn_56, if_pos (ib_nI (by omega) (by omega)), nI_clamp (show v < 2 ^ 31 by omega), b_ab c2 s2 hv, c_be s2, r_drp h S1 hv (by omega), e_b, r_whole S1, c_part (by omega) (by omega) (by omega), r_part (by omega) (by omega) (by omega)]
    exact ⟨_, ⟨_, rfl, c2, nowF_low f2⟩, ⟨_, rfl, rsF_rEq F1⟩⟩
theorem c_fl {M : sg_M} (h : cI b M) (hS : bsol b 55 M) : fl b 55 M := ⟨h.1, hS, cNet_G (cI_N h)⟩
theorem q_through {x y : Int32} (hN : 1000 ≤ N) : bth b (fX10_through N 0 x y) (fX11_through N 0 x y) := by
  intro Mc Mr hc hr
  have h := hc.1
  have hn := vb_n h
  have hd := bD_b h
  obtain ⟨M0, e0, T0, F0⟩ := r_istp (N := N) (x := x) h hr (by omega)
  have f0 := rFr_rsF F0
  have hr0 : M0.1 1 = b := (rsF_11 f0).trans hr
  unfold fX10_through fX11_through
  rw [c_hs hc, e0, e_b, e_b]
  by_cases hx : sg_ib x (gS b) = true
  case neg => simp only [if_neg hx, if_pos q0]; exact ⟨-9223372036854775808, ⟨_, rfl, hc, low_refl⟩, ⟨_, rfl, rsF_rEq f0⟩⟩
  simp only [if_pos hx, if_neg q1]
  rw [c_isPart, r_isPart, e_b, e_b]
  by_cases hy : sg_ib y 2 = true
  case neg => simp only [if_neg hy, if_pos q0]; exact ⟨-9223372036854775808, ⟨_, rfl, hc, low_refl⟩, ⟨_, rfl, rsF_rEq f0⟩⟩
  simp only [if_pos hy, if_neg q1]
  obtain ⟨s, hs, rfl⟩ := ib_ex hx
  obtain ⟨M1, e1, S1, F1⟩ := r_lay (N := N) h hr0 hN
  obtain ⟨M2, e2, c2, s2, f2⟩ := now_ok (N := N) hc hN
  have hb := thr_b h hs
  have hw4 := vb_w4 h (show s < 12 by omega)
  rw [e1, e2, e_b, e_bv, y0_1, y13_11, yn_16, if_pos (ib_nI (by omega) (by omega)), c_rise K55 (c_fl c2 s2) hs, e_b, e_m, nI_clamp (show s < 2 ^ 31 by omega), (cI_N c2).2.2.1 s (by omega), vb_w h (by omega), lI_nI (by omega), lI_mul, c_be s2, r_thr h S1 hs (by omega), e_b, r_whole S1]
  show ∃ A, okA (sg_b (fX10_partOf N (lI (thr b s)) _ y M2) _) A _ ∧ _
  rw [c_part (by omega) (by omega) (by omega), r_part (by omega) (by omega) (by omega)]
  exact ⟨_, ⟨_, rfl, c2, nowF_low f2⟩, ⟨_, rfl, rsF_rEq (rsF_tr f0 F1)⟩⟩
theorem q_gives {x y : Int32} (hN : 1000 ≤ N) : bth b (fX10_gives N 0 x y) (fX11_gives N 0 x y) := by
  intro Mc Mr hc hr
  have h := hc.1
  have hm := vb_m h
  have hd := bD_b h
  unfold fX10_gives fX11_gives
  rw [c_hn hc, r_nod h hr, e_b, e_b]
  by_cases hx : sg_ib x (gM b) = true
  case neg => simp only [if_neg hx, if_pos q0]; exact ⟨-2, ⟨_, rfl, hc, low_refl⟩, ⟨_, rfl, rEq_refl⟩⟩
  simp only [if_pos hx, if_neg q1]
  rw [c_isPart, r_isPart, e_b, e_b]
  by_cases hy : sg_ib y 2 = true
  case neg => simp only [if_neg hy, if_pos q0]; exact ⟨-2, ⟨_, rfl, hc, low_refl⟩, ⟨_, rfl, rEq_refl⟩⟩
  simp only [if_pos hy, if_neg q1]
  obtain ⟨v, hv, rfl⟩ := ib_ex hx
  rw [y0_1, yr_1, yl_1, if_pos (show sg_ib (5 : Int32) 40 = true by decide), c_5, hr, c_pad (cf7 hc) (show v < 32 by omega), r_isOf (show v < 32 by omega), e_b, e_b]
  by_cases hp : bt (b 5) v = true
  case neg => simp only [if_neg hp, if_pos q0]; exact ⟨-1, ⟨_, rfl, hc, low_refl⟩, ⟨_, rfl, rEq_refl⟩⟩
  simp only [if_pos hp, if_neg q1]
  obtain ⟨M1, e1, S1, F1⟩ := r_lay (N := N) h hr hN
  obtain ⟨M2, e2, c2, s2, f2⟩ := now_ok (N := N) hc hN
  have hb := gvn_b h hv
  rw [e1, e2, e_b, e_bv, c_giv K55 (c_fl c2 s2) (cI_N c2).2.2.1 (cI_N c2).2.2.2.1 hv (by omega), r_giv h S1 hv hp (by omega), e_b, e_b, c_be s2, r_whole S1, c_part (by omega) (by omega) (by omega), r_part (by omega) (by omega) (by omega)]
  exact ⟨_, ⟨_, rfl, c2, nowF_low f2⟩, ⟨_, rfl, rsF_rEq F1⟩⟩
end C1
