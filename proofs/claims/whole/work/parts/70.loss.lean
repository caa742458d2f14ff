/-! straps lost -/
section LO
variable {N : Nat} {b : Nat → Int32}
theorem K232 : sg_K Yc 232 1 := ⟨by decide, by decide⟩
theorem y228_3 : Yc.2.2.2 228 3 = 229 := by decide
theorem y228_6 : Yc.2.2.2 228 6 = 230 := by decide
theorem y228_7 : Yc.2.2.2 228 7 = 231 := by decide
theorem y228_8 : Yc.2.2.2 228 8 = 232 := by decide
theorem y232_3 : Yc.2.2.2 232 3 = 234 := by decide
theorem yn_229 : Yc.2.2.1 229 = 66 := by decide
theorem yn_230 : Yc.2.2.1 230 = 12 := by decide
theorem wo_v (h : vb b) {s o : Nat} (hs : s < gS b) (ho : o < gS b) : wdv b (wo b s o) := by
  have hn := vb_n h
  refine ⟨vb_wo h hs ho, fun k hk => ?_⟩
  show ub (ub _ _ _) _ _ _ = _
  rw [ub_ne (by omega), ub_ne (by omega)]
theorem wo_ss {s : Nat} : wo b s s = ub b (28 + s) 0 := ub_ub
/-- what a try without straps leaves -/
def oF (M M1 : sg_M) : Prop := ∀ a k, (a < 230 ∨ a = 231 ∨ 248 ≤ a) → M1.1 a k = M.1 a k ∧ M1.2 a k = M.2 a k
theorem oF_refl {M : sg_M} : oF M M := fun _ _ _ => ⟨rfl, rfl⟩
theorem oF_tr {M M1 M2 : sg_M} (h : oF M M1) (h2 : oF M1 M2) : oF M M2 := fun a k ha => ⟨((h2 a k ha).1).trans (h a k ha).1, ((h2 a k ha).2).trans (h a k ha).2⟩
theorem swo_ok {s o : Nat} {M : sg_M} (h : vb b) (hc : cNet 13 b M) (hs : s < gS b) (ho : o < gS b) (hN : 1000 ≤ N) : ok (fX3_settleWithout N 228 13 (nI s) (nI o) M) (fun M1 => bsol (wo b s o) 232 M1 ∧ oF M M1) := by
  have hn := vb_n h
  unfold fX3_settleWithout
  rw [y228_6, y228_8, y13_11, y13_12, yn_16, yn_230, show ((0 : Int32)).toNatClampNeg = 0 by decide, show ((12 : Int32)).toNatClampNeg = 12 by decide, nI_clamp (show s < 2 ^ 31 by omega), nI_clamp (show o < 2 ^ 31 by omega)]
  refine ok_t (by decide) (ok_m (ok_t (ib_nI (by omega) (by omega)) (ok_m (ok_t (ib_nI (by omega) (by omega)) (ok_m ?_)))))
  have nt : ∀ a k, a ≠ 230 → (sg_uI (sg_uI (sg_cpy M 16 230 0 0 12) 230 s 0) 230 o 0).1 a k = M.1 a k := fun a k ha => by rw [uI_na ha, uI_na ha, cpy_na ha]
  rw [nt 13 7 (by omega), hc.1.2.2.2.2.2]
  refine ok_bv (settle_w (N := N) (f := 232) (a := 230) K232 (by omega) (by omega) yn_230 (cNet_c hc (fun a k g1 g2 _ => nt a k (by omega))) (wo_v h hs ho) (fun t ht => ?_) hN) (fun M1 h1 => ok_some ⟨h1.1, fun a k ha => ⟨?_, ?_⟩⟩)
  · show _ = ub (ub b (28 + s) 0) (28 + o) 0 (28 + t)
    by_cases e : t = o
    · subst e; rw [uI_eq, ub_eq]
    · rw [uI_nb e, ub_ne (by omega)]
      by_cases e2 : t = s
      · subst e2; rw [uI_eq, ub_eq]
      · rw [uI_nb e2, ub_ne (by omega), cpy_in ht]; exact hc.2.2.1 t ht
  · rw [(h1.2 a k (by omega)).1, nt a k (by omega)]
  · rw [(h1.2 a k (by omega)).2, uI_l, uI_l, cpy_l]
theorem oF_c {M M1 : sg_M} (hc : cI b M) (hF : oF M M1) : cI b M1 ∧ low M M1 := cI_seg (lo := 230) (hi := 248) hc (fun a k ha => hF a k (by omega)) (by omega) (Or.inr (Or.inr (by omega))) (Or.inr (Or.inr (by omega))) (Or.inr (Or.inr (by omega))) (Or.inr (Or.inr (by omega)))
theorem q_without {x y : Int32} (hN : 1000 ≤ N) : bth b (fX10_without N 0 x y) (fX11_without N 0 x y) := by
  intro Mc Mr hc hr
  have h := hc.1
  have hn := vb_n h
  obtain ⟨M0, e0, T0, F0⟩ := r_istp (N := N) (x := x) h hr (by omega)
  have f0 := rFr_rsF F0
  have hr0 : M0.1 1 = b := (rsF_11 f0).trans hr
  unfold fX10_without fX11_without
  rw [c_hs hc, e0, e_b, e_b]
  by_cases hx : sg_ib x (gS b) = true
  case neg => simp only [if_neg hx, if_pos q0]; exact ⟨-2, ⟨_, rfl, hc, low_refl⟩, ⟨_, rfl, rsF_rEq f0⟩⟩
  simp only [if_pos hx, if_neg q1]
  rw [c_isPart, r_isPart, e_b, e_b]
  by_cases hy : sg_ib y 2 = true
  case neg => simp only [if_neg hy, if_pos q0]; exact ⟨-2, ⟨_, rfl, hc, low_refl⟩, ⟨_, rfl, rsF_rEq f0⟩⟩
  simp only [if_pos hy, if_neg q1]
  obtain ⟨s, hs, rfl⟩ := ib_ex hx
  have wv := wo_v h hs hs
  obtain ⟨M2, e2, S2, F2⟩ := swo_ok (N := N) h (cI_N hc) hs hs hN
  obtain ⟨c2, l2⟩ := oF_c hc F2
  have w1 : (sg_uI M0 1 (28 + s) 0).1 1 = wo b s s := by rw [uW hr0, wo_ss]
  obtain ⟨M1, e1, S1, F1⟩ := r_lay (N := N) wv.1 w1 hN
  have g1 := bMx_b wv.1
  have g2 := bD_b wv.1
  have i40 : sg_ib (nI (28 + s)) 40 = true := (ib_nI (by omega) (by omega))
  have sc := bsol_sco (f := 232) S2
  rw [y0_11, y0_1, e2, e_bv, y228_8, y232_3, show M2.2 234 1 = lI (bMx (wo b s s)) from sc.2.1, show M2.2 234 2 = lI (bD (wo b s s)) from sc.2.2, c_part (by omega) (by omega) (by omega), e_b]
  refine ⟨_, ⟨_, rfl, c2, l2⟩, okA_of ?_⟩
  rw [yr_1, yl_1, k_28, nI_clamp (show 28 + s < 2 ^ 31 by omega)]
  refine ok_t i40 (ok_m (ok_t i40 (ok_m ?_)))
  rw [e1, e_bv, r_mst wv.1 S1 (by omega), e_b, r_whole S1, r_part (by omega) (by omega) (by omega), e_b]
  refine ok_m (ok_t i40 (ok_m (ok_some ⟨rfl, reW_to (reW_tr (reW_of (rsF_rEq f0)) (raB_W (raB_tr (raB_tr raB_1 (raB_s F1)) raB_1))) ?_⟩)))
  rw [uW S1.2, hr, hr0, wo_ss, ub_ub, ub_id]
theorem q_lost {x : Int32} (hN : 1000 ≤ N) : bth b (fX10_lost N 0 x) (fX11_lost N 0 x) := by
  intro Mc Mr hc hr
  have h := hc.1
  have hn := vb_n h
  obtain ⟨M0, e0, T0, F0⟩ := r_istp (N := N) (x := x) h hr (by omega)
  have f0 := rFr_rsF F0
  have hr0 : M0.1 1 = b := (rsF_11 f0).trans hr
  unfold fX10_lost fX11_lost
  rw [c_hs hc, e0, e_b, e_b]
  by_cases hx : sg_ib x (gS b) = true
  case neg => simp only [if_neg hx, if_pos q0]; exact ⟨-2, ⟨_, rfl, hc, low_refl⟩, ⟨_, rfl, rsF_rEq f0⟩⟩
  simp only [if_pos hx, if_neg q1]
  obtain ⟨s, hs, rfl⟩ := ib_ex hx
  have wv := wo_v h hs hs
  obtain ⟨M2, e2, S2, F2⟩ := swo_ok (N := N) h (cI_N hc) hs hs hN
  obtain ⟨c2, l2⟩ := oF_c hc F2
  have w1 : (sg_uI M0 1 (28 + s) 0).1 1 = wo b s s := by rw [uW hr0, wo_ss]
  obtain ⟨M1, e1, S1, F1⟩ := r_lay (N := N) wv.1 w1 hN
  have i40 : sg_ib (nI (28 + s)) 40 = true := (ib_nI (by omega) (by omega))
  rw [y0_11, y0_1, e2, e_bv, y228_8, show M2.1 232 0 = bQ (wo b s s) from S2.1]
  refine ⟨_, ⟨_, rfl, c2, l2⟩, okA_of ?_⟩
  rw [yr_1, yl_1, k_28, nI_clamp (show 28 + s < 2 ^ 31 by omega)]
  refine ok_t i40 (ok_m (ok_t i40 (ok_m ?_)))
  rw [e1, e_bv]
  refine ok_t i40 (ok_m (ok_some ⟨?_, reW_to (reW_tr (reW_of (rsF_rEq f0)) (raB_W (raB_tr (raB_tr raB_1 (raB_s F1)) raB_1))) ?_⟩))
  · rw [uI_na (by omega)]; exact S1.1.1
  · rw [uW S1.2, hr, hr0, wo_ss, ub_ub, ub_id]
/-! singles -/
abbrev fO (b : Nat → Int32) : Nat → Nat × Int × Int := fun s => sco (wo b s s)
abbrev pO (b : Nat → Int32) : Nat → Bool := fun s => decide (0 < gW b s)
abbrev vk (b : Nat → Int32) (n : Nat) : Option Nat := bst (fun k j => btr (fO b j) (fO b k)) (pO b) n
theorem vk_e : vk b (gS b) = vtl b := rfl
theorem spr_s (k : Nat) : spr b (k + 1) = spr b k ||| (if sprB b k = true then bi k else 0) := rfl
theorem bt_spr (h : vb b) : ∀ k, k ≤ gS b → ∀ s, s < 32 → bt (spr b k) s = (decide (s < k) && sprB b s) := by
  have hn := vb_n h
  intro k
  induction k with
  | zero => intro _ s _; show bt 0 s = _; rw [b_0, decide_eq_false (by omega), Bool.false_and]
  | succ k ih =>
    intro hk s hs
    rw [spr_s, b_or, ih (by omega) s hs]
    by_cases q : sprB b k = true
    · rw [if_pos q, bt_bi (by omega) hs]
      by_cases e : s = k
      · subst e
        rw [decide_eq_true rfl, Bool.or_true, decide_eq_true (by omega : s < s + 1), q]
        rfl
      · rw [decide_eq_false e, Bool.or_false, decide_eq_decide.mpr (by omega : s < k ↔ s < k + 1)]
    · rw [if_neg q, b_0, Bool.or_false]
      by_cases e : s = k
      · subst e
        rw [show sprB b s = false by simpa using q, Bool.and_false, Bool.and_false]
      · rw [decide_eq_decide.mpr (by omega : s < k ↔ s < k + 1)]
def sgF (M M1 : sg_M) : Prop := ∀ a k, (a < 228 ∨ a = 229 ∨ 248 ≤ a ∨ (a = 228 ∧ k ≠ 0 ∧ k ≠ 1 ∧ k ≠ 4)) → M1.1 a k = M.1 a k ∧ M1.2 a k = M.2 a k
set_option maxHeartbeats 1000000 in
theorem singles_ok {M : sg_M} (h : vb b) (hc : cNet 13 b M) (hL : cLs b M) (hN : 1000 ≤ N) : ok (fX3_lookSingles N 228 13 M) (fun M1 => sgF M M1 ∧ M1.1 228 4 ≠ 0 ∧ M1.1 228 0 = oI (vtl b) ∧ M1.1 228 1 = spr b (gS b)) := by
  have hn := vb_n h
  unfold fX3_lookSingles
  refine ok_if (fun z => ok_m (ok_m (ok_m (ok_m ?_)))) (fun z => ok_some ⟨fun _ _ _ => ⟨rfl, rfl⟩, z, hL z⟩)
  have o1 : ∀ k, k ≤ gS b → (oI (vk b k) = -1 ↔ vk b k = none) := fun k hk => oI_n1 (fun j e => by have := (bst_lt e).1; omega)
  have gO : ∀ s, s < gS b → gsc (fO b s) := fun s hs => gsc_b (wo_v h hs hs).1
  unfold gX3_lookSingles_25
  refine ok_for 0 (gS b) (fun i s M1 => s = (228, 13, nI i) ∧ sgF M M1 ∧ M1.1 228 4 = 1 ∧ M1.1 228 0 = oI (vk b i) ∧ M1.1 228 1 = spr b i ∧ ∀ j, vk b i = some j → scoAt (fO b j) 231 M1) (by omega) (by omega) ⟨rfl, fun a k ha => ⟨by rw [uI_at, if_neg (by omega), uI_at, if_neg (by omega), uI_at, if_neg (by omega)], rfl⟩, by rw [uI_nb (by omega), uI_nb (by omega), uI_eq], by rw [uI_nb (by omega), uI_eq]; rfl, by rw [uI_eq]; rfl, fun j e => by cases e⟩ ?_ ?_
  · rintro i s M1 back hi ⟨rfl, hF, h4, h0, h1, hB⟩ hb
    have w4 := vb_w4 h (show i < 12 by omega)
    have cN : cNet 13 b M1 := cNet_c hc (fun a k g1 g2 _ => (hF a k (by omega)).1)
    have wv := wo_v h hi hi
    have n2 : ∀ M2, oF M1 M2 → M2.1 13 2 = nI (gT b) := fun M2 F2 => by rw [(F2 13 2 (by omega)).1, cN.1.2.2.1, vb_2 h]
    unfold bX3_lookSingles_25
    dsimp only
    rw [show M1.1 13 6 = nI (gS b) from (cNet_G cN).2.1, y13_11, yn_16, nI_clamp (show i < 2 ^ 31 by omega), cN.2.2.1 i (by omega), vb_w h (by omega), nI_1]
    refine ok_f (nI_ge hi (by omega)) (ok_t (ib_nI (by omega) (by omega)) (ok_if (fun z => ?_) (fun z => ?_)))
    · have z : gW b i = 0 := (nI_le0 (by omega)).mp z
      have np : ¬ pO b i = true := by show ¬ decide (0 < gW b i) = true; rw [decide_eq_false (by omega)]; decide
      have e : vk b (i + 1) = vk b i := bst_no np
      have es : spr b (i + 1) = spr b i := by rw [spr_s, if_neg (fun q => by unfold sprB at q; rw [decide_eq_false (by omega)] at q; cases q), Int32.or_zero]
      exact ok_m (hb _ _ ⟨rfl, hF, h4, by rw [e]; exact h0, by rw [es]; exact h1, fun j e2 => hB j (e ▸ e2)⟩)
    · have z : 0 < gW b i := by
        have : ¬ gW b i = 0 := fun w => z ((nI_le0 (by omega)).mpr w)
        omega
      have pz : pO b i = true := decide_eq_true z
      refine ok_bv (swo_ok (N := N) h cN hi hi hN) (fun M2 h2 => ?_)
      obtain ⟨S2, F2⟩ := h2
      have sc : scoAt (fO b i) 234 M2 := bsol_sco (f := 232) S2
      have F3 : sgF M M2 := fun a k ha => by rw [(F2 a k (by omega)).1, (F2 a k (by omega)).2]; exact hF a k ha
      have k4 : M2.1 228 4 = 1 := by rw [(F2 228 4 (by omega)).1, h4]
      have k0 : M2.1 228 0 = oI (vk b i) := by rw [(F2 228 0 (by omega)).1, h0]
      have k1 : M2.1 228 1 = spr b i := by rw [(F2 228 1 (by omega)).1, h1]
      have fin : ∀ M4 : sg_M, sgF M M4 → M4.1 228 4 = 1 → M4.1 228 0 = oI (vk b (i + 1)) → M4.1 228 1 = spr b i → (∀ j, vk b (i + 1) = some j → scoAt (fO b j) 231 M4) → scoAt (fO b i) 234 M4 → ok (gX3_lookSingles_93 N back 228 13 (nI i) M4) (fun M1 => sgF M M1 ∧ M1.1 228 4 ≠ 0 ∧ M1.1 228 0 = oI (vtl b) ∧ M1.1 228 1 = spr b (gS b)) := fun M4 g1 g2 g3 g4 g5 g6 => by
        unfold gX3_lookSingles_93
        have n2 : M4.1 13 2 = nI (gT b) := by rw [(g1 13 2 (by omega)).1, hc.1.2.2.1, vb_2 h]
        rw [y228_8, y232_3, n2, c_wT wv.1 g6 (wdv_sm wv).2.2.1, e_b, nI_1]
        have es : sprB b i = hold (wo b i i) := by unfold sprB; rw [decide_eq_true z, Bool.true_and]
        by_cases q : hold (wo b i i) = true
        · rw [if_pos q]
          refine ok_f q1 (ok_m (ok_m (hb _ _ ⟨rfl, fun a k ha => ⟨by rw [uI_at, if_neg (by omega)]; exact (g1 a k ha).1, (g1 a k ha).2⟩, by rw [uI_nb (by omega), g2], by rw [uI_nb (by omega), g3], ?_, fun j e => scoAt_c (g5 j e) (fun k => ⟨uI_na (by omega), rfl⟩)⟩)))
          rw [uI_eq, g4, spr_s, es, if_pos q]
          rfl
        · rw [if_neg q]
          refine ok_t q0 (ok_m (hb _ _ ⟨rfl, g1, g2, g3, ?_, g5⟩))
          rw [g4, spr_s, es, if_neg q, Int32.or_zero]
      have up : vk b (i + 1) = some i → ok (gX3_lookSingles_74 N back 228 13 (nI i) M2) (fun M1 => sgF M M1 ∧ M1.1 228 4 ≠ 0 ∧ M1.1 228 0 = oI (vtl b) ∧ M1.1 228 1 = spr b (gS b)) := fun e => by
        unfold gX3_lookSingles_74
        rw [y228_7, y228_8, y232_3]
        refine ok_m (ok_bv (c_cpy (N := N) (j1 := 231) (j2 := 234) (x := fO b i) (scoAt_c sc (fun k => ⟨uI_na (by omega), rfl⟩)) (by omega)) (fun M3 h3 => ?_))
        refine fin M3 (fun a k ha => ⟨?_, ?_⟩) ?_ ?_ ?_ (fun j e2 => ?_) (scoAt_c sc (fun k => ⟨by rw [(h3.2 234 k (by omega)).1, uI_na (by omega)], by rw [(h3.2 234 k (by omega)).2]; rfl⟩))
        · rw [(h3.2 a k (by omega)).1, uI_at, if_neg (by omega)]; exact (F3 a k ha).1
        · rw [(h3.2 a k (by omega)).2]; exact (F3 a k ha).2
        · rw [(h3.2 228 4 (by omega)).1, uI_nb (by omega), k4]
        · rw [(h3.2 228 0 (by omega)).1, uI_eq, e]; rfl
        · rw [(h3.2 228 1 (by omega)).1, uI_nb (by omega), k1]
        · rw [e] at e2; cases e2; exact h3.1
      rw [k0]
      refine ok_if (fun y => ?_) (fun y => ?_)
      · exact up (bst_1 pz ((o1 i (by omega)).mp y))
      · cases e4 : vk b i with
        | none => exact absurd ((o1 i (by omega)).mpr e4) y
        | some j =>
          have sj : scoAt (fO b j) 231 M2 := scoAt_c (hB j e4) (fun k => F2 231 k (by omega))
          rw [y228_7, y228_8, y232_3, c_btr sj sc (gO j (by have := (bst_lt e4).1; omega)) (gO i hi), e_b]
          by_cases l : btr (fO b j) (fO b i) = true
          · rw [if_pos l]
            exact ok_f q1 (up (bst_2 pz e4 l))
          · rw [if_neg l]
            have e : vk b (i + 1) = some j := bst_3 pz e4 l
            exact ok_t q0 (fin M2 F3 k4 (by rw [k0, e, e4]) k1 (fun k e2 => by rw [e] at e2; cases e2; exact sj) sc)
  · rintro s M1 back ⟨rfl, hF, h4, h0, h1, hB⟩
    unfold bX3_lookSingles_25
    dsimp only
    rw [(hF 13 6 (by omega)).1, show M.1 13 6 = nI (gS b) from (cNet_G hc).2.1]
    exact ok_t (nI_le (Nat.le_refl _) (by omega)) (ok_some ⟨hF, by rw [h4]; decide, h0, h1⟩)
theorem lsing_ok {M : sg_M} (hc : cI b M) (hN : 1000 ≤ N) : ok (fX3_lookSingles N 228 13 M) (fun M1 => (cI b M1 ∧ low M M1) ∧ M1.1 228 0 = oI (vtl b) ∧ M1.1 228 1 = spr b (gS b)) := by
  refine ok_imp (singles_ok (N := N) hc.1 (cI_N hc) hc.2.2.2.2.2.2.2.2.2.1 hN) (fun M1 h1 => ⟨?_, h1.2.2⟩)
  obtain ⟨hF, h4, h0, h1⟩ := h1
  refine cI_seg (lo := 228) (hi := 248) hc (fun a k ha => hF a k (by omega)) (by omega) (Or.inr (Or.inr (by omega))) (Or.inr (Or.inr (by omega))) (Or.inr (Or.inr (by omega))) (Or.inl ⟨fun _ => ⟨h0, h1⟩, fun z => ?_⟩)
  rw [(hF 228 5 (by omega)).1] at z
  obtain ⟨g1, g2⟩ := hc.2.2.2.2.2.2.2.2.2.2 z
  exact ⟨by rw [(hF 228 2 (by omega)).1, g1], fun i hi => by rw [(hF 229 i (by omega)).1, g2 i hi]⟩
/-! the reference's vital and spare -/
theorem r_scores2 {d : Nat → Int32} {x : Nat × Int × Int} {M : sg_M} (h : vb d) (h1 : M.1 1 = d) (hx : gsc x) (hB : bsR x M) (hN : 1000 ≤ N) : ok (fX11_scores N 0 M) (fun res => (res.1 ≤ 0 ↔ ¬ btr x (sco d) = true) ∧ rS d res.2 ∧ rsF M res.2) := by
  have g := gsc_b h
  have g1 := hx.1
  have st := bSt_b h
  unfold fX11_scores
  refine ok_bv (r_lay (N := N) h h1 hN) (fun M1 hM => ?_)
  obtain ⟨S1, F1⟩ := hM
  have B1 := bsR_c hB F1
  rw [r_dl h S1 (by omega), e_b, B1.1]
  refine ok_if (fun z => ?_) (fun z => ?_)
  · have z := (nI_eq (by omega) (by omega)).mp z
    obtain ⟨⟨m1, m2⟩, m3, m4⟩ := g.2
    obtain ⟨⟨k1, k2⟩, k3, k4⟩ := hx.2
    have e1 : (sco d).2.1 = bMx d := rfl
    have e2 : (sco d).2.2 = bD d := rfl
    rw [e1] at m1 m2
    rw [e2] at m3 m4
    rw [r_mst h S1 (by omega), e_b, r_whole S1, B1.2.1, B1.2.2, lNn m1, lNn (show 0 ≤ bD d by omega), lNn k1, lNn (show 0 ≤ x.2.2 by omega), r_compares (by omega) (by omega) (by omega) (by omega) (by omega), e_b]
    refine ok_some ⟨?_, S1, F1⟩
    show cmpN _ _ ≤ 0 ↔ _
    have c1 : (((bMx d).toNat * x.2.2.toNat : Nat) : Int) = bMx d * x.2.2 := by rw [Int.natCast_mul, Int.toNat_of_nonneg m1, Int.toNat_of_nonneg (show 0 ≤ x.2.2 by omega)]
    have c2 : ((x.2.1.toNat * (bD d).toNat : Nat) : Int) = x.2.1 * bD d := by rw [Int.natCast_mul, Int.toNat_of_nonneg k1, Int.toNat_of_nonneg (show 0 ≤ bD d by omega)]
    have e3 : (sco d).1 = bSt d := rfl
    rw [btr_iff, e1, e2, e3]
    have cl : cmpN ((bMx d).toNat * x.2.2.toNat) (x.2.1.toNat * (bD d).toNat) ≤ 0 ↔ ¬ x.2.1.toNat * (bD d).toNat < (bMx d).toNat * x.2.2.toNat := by
      unfold cmpN
      by_cases q : (bMx d).toNat * x.2.2.toNat < x.2.1.toNat * (bD d).toNat
      · rw [if_pos q]
        exact ⟨fun _ => by omega, fun _ => by decide⟩
      · rw [if_neg q]
        by_cases w : x.2.1.toNat * (bD d).toNat < (bMx d).toNat * x.2.2.toNat
        · rw [if_pos w]
          exact ⟨fun z => absurd z (by decide), fun z => absurd w z⟩
        · rw [if_neg w]
          exact ⟨fun _ => w, fun _ => by decide⟩
    rw [cl]
    omega
  · have z : ¬ bSt d = x.1 := fun w => z (by rw [w])
    have e3 : (sco d).1 = bSt d := rfl
    rw [r_dl h S1 (by omega), e_b, B1.1]
    refine ok_if (fun y => ?_) (fun y => ?_)
    · have y : ¬ bSt d < x.1 := fun w => nI_ge w (by omega) y
      refine ok_some ⟨?_, S1, F1⟩
      rw [btr_iff, e3]
      exact ⟨fun w => absurd w (show ¬ (1 : Int32) ≤ 0 by decide), fun w => absurd (Or.inl (by omega)) w⟩
    · have y : bSt d < x.1 := by
        apply Classical.byContradiction
        intro w
        exact y (nI_le (by omega) (by omega))
      refine ok_some ⟨?_, S1, F1⟩
      rw [btr_iff, e3]
      exact ⟨fun _ => by omega, fun _ => show (-1 : Int32) ≤ 0 by decide⟩
theorem r_scoresN {d : Nat → Int32} {M : sg_M} (h : vb d) (h1 : M.1 1 = d) (hB : M.1 0 31 = -1) (hN : 1000 ≤ N) : ok (fX11_scores N 0 M) (fun res => res.1 = 1 ∧ rS d res.2 ∧ rsF M res.2) := by
  have st := bSt_b h
  unfold fX11_scores
  refine ok_bv (r_lay (N := N) h h1 hN) (fun M1 hM => ?_)
  obtain ⟨S1, F1⟩ := hM
  have B1 : M1.1 0 31 = -1 := by rw [F1.1 0 31 (by omega) (by omega) (by omega) (by omega), hB]
  rw [r_dl h S1 (by omega), e_b, B1]
  refine ok_f (fun q => by rw [qn1 (by omega)] at q; exact q) ?_
  rw [r_dl h S1 (by omega), e_b, B1]
  refine ok_t ?_ (ok_some ⟨rfl, S1, F1⟩)
  rw [Int32.le_iff_toInt_le, nI_toInt (by omega), show Int32.toInt (-1) = -1 by decide]
  omega
theorem ub_b (h : vb b) {s : Nat} (hs : s < gS b) : ub (wo b s s) (28 + s) (nI (gW b s)) = b := by
  have hn := vb_n h
  rw [wo_ss, ub_ub, ← vb_w h (show s < 12 by omega), ub_id]
set_option maxHeartbeats 1000000 in
theorem q_vital (hN : 1000 ≤ N) : bth b (fX10_vital N 0) (fX11_vital N 0) := by
  intro Mc Mr hc hr
  have h := hc.1
  have hn := vb_n h
  obtain ⟨M2, e2, c2, k0, k1⟩ := lsing_ok (N := N) hc hN
  have gO : ∀ s, s < gS b → gsc (fO b s) := fun s hs => gsc_b (wo_v h hs hs).1
  unfold fX10_vital fX11_vital
  rw [c_ng hc, r_grd h hr, e_b, e_b, if_pos q0, if_neg q1, y0_11, y0_1, e2, e_bv, k0]
  refine ⟨_, ⟨_, rfl, c2⟩, okA_of ?_⟩
  refine ok_m (ok_m (ok_m (ok_m (ok_m ?_))))
  unfold gX11_vital_29
  refine ok_for 0 (gS b) (fun i s M => s = (0, oI (vk b i), nI i) ∧ M.1 1 = b ∧ raB Mr M ∧ (vk b i = none → M.1 0 31 = -1) ∧ ∀ j, vk b i = some j → bsR (fO b j) M) (by omega) (by omega) ⟨rfl, ?_, fun a k g1 g6 g9 g10 g0 => ?_, fun _ => ?_, fun j e => by cases e⟩ ?_ ?_
  · rw [← hr]
    funext k
    rw [uJ_i, uJ_i, uI_na (by omega)]
  · rw [uJ_i, uJ_i, uI_at, if_neg (by omega)]
  · rw [uJ_i, uJ_i, uI_eq]
  · rintro i s M back hi ⟨rfl, w1, r1, hN1, hB⟩ hb
    have w4 := vb_w4 h (show i < 12 by omega)
    have wv := wo_v h hi hi
    unfold bX11_vital_29
    dsimp only
    refine ok_a (r_stp (N := N) h w1 (by omega)) (fun M3 g3 => ?_)
    have F3 := rFr_rsF g3.2
    have w3 : M3.1 1 = b := (rsF_11 F3).trans w1
    have r3 : raB Mr M3 := raB_tr r1 (raB_s F3)
    have N3 : vk b i = none → M3.1 0 31 = -1 := fun e => by rw [F3.1 0 31 (by omega) (by omega) (by omega) (by omega), hN1 e]
    have B3 : ∀ j, vk b i = some j → bsR (fO b j) M3 := fun j e => bsR_c (hB j e) F3
    rw [yr_1, yl_1, k_28, nI_clamp (show 28 + i < 2 ^ 31 by omega), w3, vb_w h (by omega)]
    refine ok_f (nI_ge hi (by omega)) (ok_t (ib_nI (by omega) (by omega)) (ok_m (ok_t (ib_nI (by omega) (by omega)) (ok_m ?_))))
    have w5 : (sg_uI M3 1 (28 + i) 0).1 1 = wo b i i := by rw [uW w3, wo_ss]
    have fin : ∀ (x : Int32) (M4 : sg_M), M4.1 1 = wo b i i → raB Mr M4 → x = oI (vk b (i + 1)) → (vk b (i + 1) = none → M4.1 0 31 = -1) → (∀ j, vk b (i + 1) = some j → bsR (fO b j) M4) → ok (gX11_vital_74 N back 0 x (nI i) (nI (gW b i)) M4) (fun res => res.1 = oI (vtl b) ∧ rEq Mr res.2) := fun x M4 p1 p2 p3 p4 p5 => by
      unfold gX11_vital_74
      rw [yr_1, yl_1, k_28, nI_clamp (show 28 + i < 2 ^ 31 by omega), p3]
      refine ok_t (ib_nI (by omega) (by omega)) (ok_m (ok_m (hb _ _ ⟨by rw [nI_1], by rw [uW p1, ub_b h hi], raB_tr p2 raB_1, fun e => by rw [uI_na (by omega)]; exact p4 e, fun j e => bsR_1 (p5 j e)⟩)))
    refine ok_if (fun z => ?_) (fun z => ?_)
    · have z : gW b i = 0 := (nI_le0 (by omega)).mp z
      have np : ¬ pO b i = true := by show ¬ decide (0 < gW b i) = true; rw [decide_eq_false (by omega)]; decide
      have e : vk b (i + 1) = vk b i := bst_no np
      exact fin _ _ w5 (raB_tr r3 raB_1) (by rw [e]) (fun e2 => by rw [uI_na (by omega)]; exact N3 (e ▸ e2)) (fun j e2 => bsR_1 (B3 j (e ▸ e2)))
    · have z : 0 < gW b i := by
        have : ¬ gW b i = 0 := fun w => z ((nI_le0 (by omega)).mpr w)
        omega
      have pz : pO b i = true := decide_eq_true z
      have take : ∀ M5 : sg_M, rS (wo b i i) M5 → raB Mr M5 → vk b (i + 1) = some i → ok (sg_m (nI i) (fun x9 : Int32 => sg_bv (fX11_keeps N 0 M5) (fun M10 : sg_M => gX11_vital_74 N back 0 x9 (nI i) (nI (gW b i)) M10))) (fun res => res.1 = oI (vtl b) ∧ rEq Mr res.2) := fun M5 S5 r5 e => by
        refine ok_m (ok_bv (r_keeps (N := N) wv.1 S5 (by omega)) (fun M6 h6 => fin _ M6 h6.2.1.2 (raB_tr r5 h6.2.2) (by rw [e]; rfl) (fun e2 => by rw [e] at e2; cases e2) (fun j e2 => by rw [e] at e2; cases e2; exact h6.1)))
      cases e4 : vk b i with
      | none =>
        refine ok_b (r_scoresN (N := N) wv.1 w5 (by rw [uI_na (by omega)]; exact N3 e4) hN) (fun x M5 h5 => ?_)
        obtain ⟨hx, S5, F5⟩ := h5
        have hx : x = 1 := hx
        subst hx
        exact ok_f (by decide) (take M5 S5 (raB_tr (raB_tr r3 raB_1) (raB_s F5)) (bst_1 pz e4))
      | some j =>
        have gj := gO j (by have := (bst_lt e4).1; omega)
        refine ok_b (r_scores2 (N := N) wv.1 w5 gj (bsR_1 (B3 j e4)) hN) (fun x M5 h5 => ?_)
        obtain ⟨hx, S5, F5⟩ := h5
        have r5 : raB Mr M5 := raB_tr (raB_tr r3 raB_1) (raB_s F5)
        refine ok_if (fun y => ?_) (fun y => ?_)
        · have y := hx.mp y
          have e : vk b (i + 1) = some j := bst_3 pz e4 y
          exact fin _ M5 S5.2 r5 (by rw [e]) (fun e2 => by rw [e] at e2; cases e2) (fun k e2 => by rw [e] at e2; cases e2; exact bsR_c (bsR_1 (B3 j e4)) F5)
        · have y : btr (fO b j) (fO b i) = true := by
            apply Classical.byContradiction
            intro w
            exact y (hx.mpr w)
          exact take M5 S5 r5 (bst_2 pz e4 y)
  · rintro s M back ⟨rfl, w1, r1, hN1, hB⟩
    unfold bX11_vital_29
    dsimp only
    refine ok_a (r_stp (N := N) h w1 (by omega)) (fun M3 g3 => ?_)
    have F3 := rFr_rsF g3.2
    exact ok_t (nI_le (Nat.le_refl _) (by omega)) (ok_some ⟨rfl, reW_to (raB_W (raB_tr r1 (raB_s F3))) (((rsF_11 F3).trans w1).trans hr.symm)⟩)
theorem q_spare (hN : 1000 ≤ N) : bth b (fX10_spare N 0) (fX11_spare N 0) := by
  intro Mc Mr hc hr
  have h := hc.1
  have hn := vb_n h
  obtain ⟨M2, e2, c2, k0, k1⟩ := lsing_ok (N := N) hc hN
  unfold fX10_spare fX11_spare
  rw [c_ng hc, r_grd h hr, e_b, e_b, if_pos q0, if_neg q1, y0_11, y0_1, e2, e_bv, k1]
  refine ⟨_, ⟨_, rfl, c2⟩, okA_of ?_⟩
  refine ok_m (ok_m ?_)
  unfold gX11_spare_14
  refine ok_for 0 (gS b) (fun i s M => s = (0, spr b i, nI i) ∧ M.1 1 = b ∧ raB Mr M) (by omega) (by omega) ⟨rfl, hr, raB_refl⟩ ?_ ?_
  · rintro i s M back hi ⟨rfl, w1, r1⟩ hb
    have w4 := vb_w4 h (show i < 12 by omega)
    have wv := wo_v h hi hi
    unfold bX11_spare_14
    dsimp only
    refine ok_a (r_stp (N := N) h w1 (by omega)) (fun M3 g3 => ?_)
    have F3 := rFr_rsF g3.2
    have w3 : M3.1 1 = b := (rsF_11 F3).trans w1
    have r3 : raB Mr M3 := raB_tr r1 (raB_s F3)
    rw [yr_1, yl_1, k_28, nI_clamp (show 28 + i < 2 ^ 31 by omega), w3, vb_w h (by omega)]
    refine ok_f (nI_ge hi (by omega)) (ok_t (ib_nI (by omega) (by omega)) (ok_m (ok_t (ib_nI (by omega) (by omega)) (ok_m ?_))))
    have w5 : (sg_uI M3 1 (28 + i) 0).1 1 = wo b i i := by rw [uW w3, wo_ss]
    have fin : ∀ (x : Int32) (M4 : sg_M), M4.1 1 = wo b i i → raB Mr M4 → x = (if sprB b i = true then bi i else 0) → ok (gX11_spare_61 N back 0 (nI i) (nI (gW b i)) (spr b i) x M4) (fun res => res.1 = spr b (gS b) ∧ rEq Mr res.2) := fun x M4 p1 p2 p3 => by
      unfold gX11_spare_61
      rw [yr_1, yl_1, k_28, nI_clamp (show 28 + i < 2 ^ 31 by omega), p3]
      refine ok_m (ok_t (ib_nI (by omega) (by omega)) (ok_m (ok_m (hb _ _ ⟨by rw [nI_1, spr_s], by rw [uW p1, ub_b h hi], raB_tr p2 raB_1⟩))))
    refine ok_if (fun z => ?_) (fun z => ?_)
    · have z : gW b i = 0 := (nI_le0 (by omega)).mp z
      exact fin _ _ w5 (raB_tr r3 raB_1) (by rw [if_neg]; unfold sprB; rw [decide_eq_false (by omega), Bool.false_and]; decide)
    · have z : 0 < gW b i := by
        have : ¬ gW b i = 0 := fun w => z ((nI_le0 (by omega)).mpr w)
        omega
      have es : sprB b i = hold (wo b i i) := by unfold sprB; rw [decide_eq_true z, Bool.true_and]
      refine ok_a (r_hold (N := N) wv.1 w5 hN) (fun M5 h5 => ?_)
      obtain ⟨S5, F5⟩ := h5
      have r5 : raB Mr M5 := raB_tr (raB_tr r3 raB_1) (raB_s F5)
      by_cases q : hold (wo b i i) = true
      · rw [if_pos q]
        exact ok_f q1 (fin _ M5 S5.2 r5 (by rw [es, if_pos q]; rfl))
      · rw [if_neg q]
        exact ok_t q0 (fin _ M5 S5.2 r5 (by rw [es, if_neg q]))
  · rintro s M back ⟨rfl, w1, r1⟩
    unfold bX11_spare_14
    dsimp only
    refine ok_a (r_stp (N := N) h w1 (by omega)) (fun M3 g3 => ?_)
    have F3 := rFr_rsF g3.2
    exact ok_t (nI_le (Nat.le_refl _) (by omega)) (ok_some ⟨rfl, reW_to (raB_W (raB_tr r1 (raB_s F3))) (((rsF_11 F3).trans w1).trans hr.symm)⟩)
end LO
