/-! lay, feeds, draw, year -/
theorem CR_rq {Mc Mr Mr1 : sg_M} (h : CR Mc Mr) (r1 : rEq Mr Mr1) : CR Mc Mr1 := by
  obtain ⟨hR, hI, hz, n, h4, hD⟩ := h
  have w1 : Mr1.1 1 = Mr.1 1 := r1.1 1 (by omega)
  refine ⟨rdr_c hR (fun _ _ => rfl) (fun _ => rfl) ⟨r1.2 10 (by omega), r1.2 17 (by omega), r1.2 18 (by omega)⟩ (r1.1 7 (by omega)), imgs_c hI (fun _ _ _ _ => rfl) (r1.1 4 (by omega)) (r1.1 5 (by omega)), fun k hk => by rw [w1, hz k hk], n, by rw [r1.2 4 (by omega), h4], ?_⟩
  rw [w1, r1.1 3 (by omega)]
  exact hD
def actF (n : Nat) (k s a : Int32) (M M1 : sg_M) : Prop := (∀ b, caches b M1) ∧ M1.1 13 8 = nI (n + 1) ∧ (M1.1 20 n = k ∧ M1.1 21 n = s ∧ M1.1 22 n = a) ∧ ∀ x j, x < 55 → (x < 20 ∨ 23 ≤ x ∨ j ≠ n) → (x ≠ 13 ∨ j ≠ 8) → (x ≠ 0 ∨ j ≠ 5) → M1.1 x j = M.1 x j
section C5
variable {N : Nat}
theorem act_ok {n : Nat} {k s a : Int32} {M : sg_M} (h8 : M.1 13 8 = nI n) (hn : n < 20) (hN : 1000 ≤ N) : ∃ M1 M2, fX4_keepAct N 13 k s a M = some M1 ∧ fX10_forget N 0 M1 = some M2 ∧ actF n k s a M M2 := by
  obtain ⟨M1, e1, g8, g3, gF, -⟩ := keepAct_ok (N := N) (k := k) (s := s) (a := a) h8 hn
  obtain ⟨M2, e2, c2, l2, -⟩ := forget_ok (N := N) (M := M1) (by omega)
  exact ⟨M1, M2, e1, e2, c2, by rw [l2 13 8 (by omega) (by omega), g8], ⟨by rw [l2 20 n (by omega) (by omega), g3.1], by rw [l2 21 n (by omega) (by omega), g3.2.1], by rw [l2 22 n (by omega) (by omega), g3.2.2]⟩, fun x j h1 h2 h3 h4 => by rw [l2 x j h1 h4, gF x j h2 h3]⟩
theorem ib5 {x : Int32} : sg_ib x 5 = true ↔ ¬ x < 0 ∧ x ≤ 4 := by
  have e : Int32.toInt 0 = 0 := by decide
  have e4 : Int32.toInt 4 = 4 := by decide
  rw [Int32.lt_iff_toInt_lt, Int32.le_iff_toInt_le, e, e4]
  unfold sg_ib
  rw [decide_eq_true_iff]
  omega
theorem ib100 {x : Int32} : sg_ib x 100 = true ↔ ¬ x < 0 ∧ x ≤ 99 := by
  have e : Int32.toInt 0 = 0 := by decide
  have e4 : Int32.toInt 99 = 99 := by decide
  rw [Int32.lt_iff_toInt_lt, Int32.le_iff_toInt_le, e, e4]
  unfold sg_ib
  rw [decide_eq_true_iff]
  omega
theorem lt20 {n : Nat} (h : n < 20) : nI n < (20 : Int32) := show nI n < nI 20 from nI_lt h (by omega)
theorem nlt20 {n : Nat} (h : 20 ≤ n) (h2 : n < 2 ^ 31) : ¬ nI n < (20 : Int32) := show ¬ nI n < nI 20 from nI_nlt h h2
theorem eq20 {n : Nat} (h : n < 2 ^ 31) : nI n = (20 : Int32) ↔ n = 20 := show nI n = nI 20 ↔ n = 20 from nI_eq h (by omega)
theorem r_full {n : Nat} {M : sg_M} (h : M.1 0 4 = nI n) (hn : n ≤ 20) : fX11_isFull N 0 M = some (if n = 20 then 1 else 0, M) := by
  unfold fX11_isFull
  rw [h]
  by_cases q : n = 20
  · rw [if_pos ((eq20 (by omega)).mpr q), if_pos q]
  · rw [if_neg q, if_neg (fun z => q ((eq20 (by omega)).mp z))]
theorem d_lay {x y : Int32} (hN : 1000 ≤ N) : dua (fX10_lay N 0 x y) (fX11_lay N 0 x y) := by
  intro Mc Mr hCR
  obtain ⟨hR, hI, hz, n, h4, hD⟩ := id hCR
  rcases hD with ⟨hG, hC⟩ | ⟨hG, hC⟩
  case inr =>
    unfold fX10_lay fX11_lay
    rw [n_hs hG.1, rn_stp hG.2.1, e_b, e_b, if_pos q0, if_pos q0]
    exact ⟨_, _, _, rfl, rfl, hCR⟩
  have h := hG.1
  have hn := vb_n h
  have h8 := hG.2.2.1
  have n20 := hG.2.2.2.1
  have hc : cI (Mr.1 1) Mc := ⟨hG.1, hG.2.1, hC⟩
  obtain ⟨M0, e0, T0, F0⟩ := r_istp (N := N) (x := x) h rfl (by omega)
  have f0 := rFr_rsF F0
  have w0 : M0.1 1 = Mr.1 1 := rsF_11 f0
  have r0 := rsF_rEq f0
  have hCR0 := CR_rq hCR r0
  unfold fX10_lay fX11_lay
  rw [c_hs hc, e0, e_b, e_b]
  by_cases hx : sg_ib x (gS (Mr.1 1)) = true
  case neg =>
    rw [if_neg hx, if_pos q0, if_pos q0]
    exact ⟨_, _, _, rfl, rfl, hCR0⟩
  rw [if_pos hx, if_neg q1, if_neg q1, show (4 : Int64) = lI (((5 : Nat) : Int) - 1) from rfl, r_in (n := 5) (by omega), e_b]
  by_cases hy : sg_ib y 5 = true
  case neg =>
    rw [if_neg hy, if_pos q0]
    by_cases l : y < 0
    · rw [if_pos l]; exact ⟨_, _, _, rfl, rfl, hCR0⟩
    · rw [if_neg l, if_neg (fun z => hy (ib5.mpr ⟨l, z⟩))]; exact ⟨_, _, _, rfl, rfl, hCR0⟩
  have hy2 := ib5.mp hy
  rw [if_pos hy, if_neg q1, if_neg hy2.1, if_pos hy2.2]
  obtain ⟨s, hs, rfl⟩ := ib_ex hx
  obtain ⟨t, ht, rfl⟩ := ib_ex hy
  have w4 := vb_w4 h (show s < 12 by omega)
  have i12 : sg_ib (nI s) 12 = true := (ib_nI (by omega) (by omega))
  have i40 : sg_ib (nI (28 + s)) 40 = true := (ib_nI (by omega) (by omega))
  have h40 : M0.1 0 4 = nI n := (r0.2 4 (by omega)).trans h4
  rw [y0_1, y13_11, yn_16, if_pos i12, e_m, nI_clamp (show s < 2 ^ 31 by omega), hG.2.1.2.2.1 s (by omega), yr_1, yl_1, k_28, if_pos i40, e_m, e_m, nI_clamp (show 28 + s < 2 ^ 31 by omega), w0, vb_w h (by omega), h8, r_full h40 n20, e_b]
  by_cases eq : gW (Mr.1 1) s = t
  · rw [if_pos (by rw [eq]), if_pos (by rw [eq])]
    exact ⟨_, _, _, rfl, rfl, hCR0⟩
  rw [if_neg (fun z => eq ((nI_eq (by omega) (by omega)).mp z)), if_neg (fun z => eq ((nI_eq (by omega) (by omega)).mp z))]
  by_cases fu : n = 20
  · rw [if_pos fu, if_neg q1, if_neg (nlt20 (by omega) (by omega))]
    exact ⟨_, _, _, rfl, rfl, hCR0⟩
  rw [if_neg fu, if_pos q0, if_pos (lt20 (by omega)), if_pos i12]
  have u4 : ∀ a k, (a ≠ 16 ∨ k ≠ s) → (sg_uI Mc 16 s (nI t)).1 a k = Mc.1 a k := fun a k ha => by rw [uI_at, if_neg (by omega)]
  obtain ⟨M5, M6, e5, e6, cA, c8, c3, cF⟩ := act_ok (N := N) (n := n) (k := 0) (s := nI s) (a := nI (gW (Mr.1 1) s)) (M := sg_uI Mc 16 s (nI t)) (by rw [u4 13 8 (by omega), h8]) (by omega) hN
  obtain ⟨M8, e8, gT, gB, gk, ga, g4, gF, -⟩ := remembers_ok (N := N) (k := 0) (a := nI (gW (Mr.1 1) s)) w0 h40 (show n < 20 by omega) (by omega)
  rw [e5, e_bv, e6, e_bv, e8, e_bv, if_pos i40, e_m]
  have vB := (vb_wB (x := t) h hs (by omega)).1
  refine ⟨_, _, _, rfl, rfl, CR_act (e := wB (Mr.1 1) s t) (n := n) (k := 0) (s := nI s) (a := nI (gW (Mr.1 1) s)) hR hI hz (by omega) hG vB (cNet_wid hG.2.1 (fun k hk => ub_ne (by omega)) (fun r hr => ?_) (fun a k a1 a2 a3 a4 => ?_)) c8 c3 (fun a i a1 a2 a3 => ?_) (fun a i a1 a2 a3 => ?_) (cA _) ?_ (fun j hj => ?_) ?_ (fun j hj => ?_) (fun j hj => ?_) ?_ ?_ ⟨fun a ha => funext fun j => ?_, fun j hj => ?_⟩ (Or.inl ⟨rfl, s, by rw [wB_S]; exact hs, rfl, (wB_back h hs).symm⟩)⟩
  · rw [cF 16 r (by omega) (by omega) (by omega) (by omega), w_at]
    by_cases q : r = s
    · subst q; rw [uI_eq, if_pos rfl]
    · rw [u4 16 r (by omega), if_neg q]; exact hG.2.1.2.2.1 r hr
  · rw [cF a k (by omega) (by omega) (by omega) (by omega), u4 a k (by omega)]
  · rw [cF a i (by omega) (by omega) (by omega) (by omega), u4 a i (by omega)]
  · rw [cF a i (by omega) (by omega) (by omega) (by omega), u4 a i (by omega)]
  · rw [uW ((funext fun k => gF 1 k (by omega) (by omega)).trans w0)]; rfl
  · show ub _ _ _ _ = _
    rw [ub_ne (by omega), hz j hj]
  · rw [uI_na (by omega), g4]
  · rw [uI_na (by omega), gT j hj, r0.1 3 (by omega)]
  · rw [uI_na (by omega), gB j hj]
  · rw [uI_na (by omega), gk]
  · rw [uI_na (by omega), ga]
  · rw [uI_na (by omega), gF a j (by omega) (by omega), r0.1 a (by omega)]
  · rw [uI_na (by omega), gF 0 j (by omega) (by omega), r0.2 j (by omega)]
theorem d_draw {x y : Int32} (hN : 1000 ≤ N) : dua (fX10_draw N 0 x y) (fX11_draw N 0 x y) := by
  intro Mc Mr hCR
  obtain ⟨hR, hI, hz, n, h4, hD⟩ := id hCR
  rcases hD with ⟨hG, hC⟩ | ⟨hG, hC⟩
  case inr =>
    unfold fX10_draw fX11_draw
    rw [n_hn hG.1, rn_nod hG.2.1, e_b, e_b, if_pos q0, if_pos q0]
    exact ⟨_, _, _, rfl, rfl, hCR⟩
  have h := hG.1
  have hm := vb_m h
  have h8 := hG.2.2.1
  have n20 := hG.2.2.2.1
  have hc : cI (Mr.1 1) Mc := ⟨hG.1, hG.2.1, hC⟩
  unfold fX10_draw fX11_draw
  rw [c_hn hc, r_nod h rfl, e_b, e_b]
  by_cases hx : sg_ib x (gM (Mr.1 1)) = true
  case neg =>
    rw [if_neg hx, if_pos q0, if_pos q0]
    exact ⟨_, _, _, rfl, rfl, hCR⟩
  rw [if_pos hx, if_neg q1, if_neg q1, show (99 : Int64) = lI (((100 : Nat) : Int) - 1) from rfl, r_in (n := 100) (by omega), e_b]
  by_cases hy : sg_ib y 100 = true
  case neg =>
    rw [if_neg hy, if_pos q0]
    by_cases l : y < 0
    · rw [if_pos l]; exact ⟨_, _, _, rfl, rfl, hCR⟩
    · rw [if_neg l, if_neg (fun z => hy (ib100.mpr ⟨l, z⟩))]; exact ⟨_, _, _, rfl, rfl, hCR⟩
  have hy2 := ib100.mp hy
  rw [if_pos hy, if_neg q1, if_neg hy2.1, if_pos hy2.2]
  obtain ⟨s, hs, rfl⟩ := ib_ex hx
  obtain ⟨t, ht, rfl⟩ := ib_ex hy
  have w4 := vb_l99 h (show s < 9 by omega)
  have i12 : sg_ib (nI s) 9 = true := (ib_nI (by omega) (by omega))
  have i40 : sg_ib (nI (6 + s)) 40 = true := (ib_nI (by omega) (by omega))
  rw [y0_1, y13_12, yn_17, if_pos i12, e_m, nI_clamp (show s < 2 ^ 31 by omega), hG.2.1.2.2.2.1 s (by omega), yr_1, yl_1, k_6, if_pos i40, e_m, e_m, nI_clamp (show 6 + s < 2 ^ 31 by omega), vb_l h (by omega), h8, r_full h4 n20, e_b]
  by_cases eq : gL (Mr.1 1) s = t
  · rw [if_pos (by rw [eq]), if_pos (by rw [eq])]
    exact ⟨_, _, _, rfl, rfl, hCR⟩
  rw [if_neg (fun z => eq ((nI_eq (by omega) (by omega)).mp z)), if_neg (fun z => eq ((nI_eq (by omega) (by omega)).mp z))]
  by_cases fu : n = 20
  · rw [if_pos fu, if_neg q1, if_neg (nlt20 (by omega) (by omega))]
    exact ⟨_, _, _, rfl, rfl, hCR⟩
  rw [if_neg fu, if_pos q0, if_pos (lt20 (by omega)), if_pos i12]
  have u4 : ∀ a k, (a ≠ 17 ∨ k ≠ s) → (sg_uI Mc 17 s (nI t)).1 a k = Mc.1 a k := fun a k ha => by rw [uI_at, if_neg (by omega)]
  obtain ⟨M5, M6, e5, e6, cA, c8, c3, cF⟩ := act_ok (N := N) (n := n) (k := 2) (s := nI s) (a := nI (gL (Mr.1 1) s)) (M := sg_uI Mc 17 s (nI t)) (by rw [u4 13 8 (by omega), h8]) (by omega) hN
  obtain ⟨M8, e8, gT, gB, gk, ga, g4, gF, -⟩ := remembers_ok (N := N) (M := Mr) (k := 2) (a := nI (gL (Mr.1 1) s)) rfl h4 (show n < 20 by omega) (by omega)
  rw [e5, e_bv, e6, e_bv, e8, e_bv, if_pos i40, e_m]
  have vB := lB_v h hs (show t ≤ 99 by omega)
  have eM : gM (lB (Mr.1 1) s t) = gM (Mr.1 1) := (ldv_sm vB.1).2.2.2.2.2
  refine ⟨_, _, _, rfl, rfl, CR_act (e := lB (Mr.1 1) s t) (n := n) (k := 2) (s := nI s) (a := nI (gL (Mr.1 1) s)) hR hI hz (by omega) hG vB.1.1 (cNet_loa hG.2.1 vB.1.2 (fun r hr => ?_) (fun a k a1 a2 a3 a4 => ?_)) c8 c3 (fun a i a1 a2 a3 => ?_) (fun a i a1 a2 a3 => ?_) (cA _) ?_ (fun j hj => ?_) ?_ (fun j hj => ?_) (fun j hj => ?_) ?_ ?_ ⟨fun a ha => funext fun j => ?_, fun j hj => ?_⟩ (Or.inr (Or.inr (Or.inl ⟨rfl, s, by rw [eM]; exact hs, rfl, ?_⟩)))⟩
  · rw [cF 17 r (by omega) (by omega) (by omega) (by omega)]
    show _ = ub _ _ _ _
    by_cases q : r = s
    · subst q; rw [uI_eq, ub_eq]
    · rw [u4 17 r (by omega), ub_ne (by omega)]; exact hG.2.1.2.2.2.1 r hr
  · rw [cF a k (by omega) (by omega) (by omega) (by omega), u4 a k (by omega)]
  · rw [cF a i (by omega) (by omega) (by omega) (by omega), u4 a i (by omega)]
  · rw [cF a i (by omega) (by omega) (by omega) (by omega), u4 a i (by omega)]
  · rw [uW (funext fun k => gF 1 k (by omega) (by omega))]; rfl
  · show ub _ _ _ _ = _
    rw [ub_ne (by omega), hz j hj]
  · rw [uI_na (by omega), g4]
  · rw [uI_na (by omega), gT j hj]
  · rw [uI_na (by omega), gB j hj]
  · rw [uI_na (by omega), gk]
  · rw [uI_na (by omega), ga]
  · rw [uI_na (by omega), gF a j (by omega) (by omega)]
  · rw [uI_na (by omega), gF 0 j (by omega) (by omega)]
  · show _ = ub (ub _ _ _) _ _
    rw [ub_ub, ← vb_l h (show s < 9 by omega), ub_id]
theorem xor_P {P : Int32} {n v : Nat} (h1 : ∀ u, u < 32 → bt P u = true → u < n) (hv : v < n) (hn : n ≤ 32) : ∀ u, u < 32 → bt (P ^^^ bi v) u = true → u < n := fun u hu z => by
  rw [b_xor, bt_bi (by omega) hu] at z
  by_cases e : u = v
  · omega
  · rw [decide_eq_false e, Bool.xor_false] at z
    exact h1 u hu z
theorem xor_2 {P : Int32} {v : Nat} : P ^^^ bi v ^^^ bi v = P := by
  apply b_ext
  intro i hi
  rw [b_xor, b_xor, Bool.xor_assoc, Bool.xor_self, Bool.xor_false]
theorem d_feeds {x : Int32} (hN : 1000 ≤ N) : dua (fX10_feeds N 0 x) (fX11_feeds N 0 x) := by
  intro Mc Mr hCR
  obtain ⟨hR, hI, hz, n, h4, hD⟩ := id hCR
  rcases hD with ⟨hG, hC⟩ | ⟨hG, hC⟩
  case inr =>
    unfold fX10_feeds fX11_feeds
    rw [n_hn hG.1, rn_nod hG.2.1, e_b, e_b, if_pos q0, if_pos q0]
    exact ⟨_, _, _, rfl, rfl, hCR⟩
  have h := hG.1
  have hm := vb_m h
  have h8 := hG.2.2.1
  have n20 := hG.2.2.2.1
  have hc : cI (Mr.1 1) Mc := ⟨hG.1, hG.2.1, hC⟩
  unfold fX10_feeds fX11_feeds
  rw [c_hn hc, r_nod h rfl, e_b, e_b]
  by_cases hx : sg_ib x (gM (Mr.1 1)) = true
  case neg =>
    rw [if_neg hx, if_pos q0, if_pos q0]
    exact ⟨_, _, _, rfl, rfl, hCR⟩
  rw [if_pos hx, if_neg q1, if_neg q1, y0_1, h8, r_full h4 n20, e_b]
  obtain ⟨s, hs, rfl⟩ := ib_ex hx
  by_cases fu : n = 20
  · rw [if_pos fu, if_neg q1, if_neg (nlt20 (by omega) (by omega))]
    exact ⟨_, _, _, rfl, rfl, hCR⟩
  rw [if_neg fu, if_pos q0, if_pos (lt20 (by omega)), e_m, cf7 hc]
  have hP : ∀ u, u < 32 → bt (Mr.1 1 5 ^^^ bi s) u = true → u < gM (Mr.1 1) := xor_P (vb_P h) hs (by have := hm.2; omega)
  have vB := vb_pad h hP
  have eM : gM (ub (Mr.1 1) 5 (Mr.1 1 5 ^^^ bi s)) = gM (Mr.1 1) := (sm_of (b := Mr.1 1) (fun i hi => ub_ne (by omega))).2.2.2.2.2
  have u4 : ∀ a k, (a ≠ 13 ∨ k ≠ 7) → (sg_uI Mc 13 7 (Mr.1 1 5 ^^^ bi s)).1 a k = Mc.1 a k := fun a k ha => by rw [uI_at, if_neg (by omega)]
  obtain ⟨M5, M6, e5, e6, cA, c8, c3, cF⟩ := act_ok (N := N) (n := n) (k := 1) (s := nI s) (a := 0) (M := sg_uI Mc 13 7 (Mr.1 1 5 ^^^ bi s)) (by rw [u4 13 8 (by omega), h8]) (by omega) hN
  obtain ⟨M8, e8, gT, gB, gk, ga, g4, gF, -⟩ := remembers_ok (N := N) (M := Mr) (k := 1) (a := 0) rfl h4 (show n < 20 by omega) (by omega)
  have c7 : M6.1 13 7 = Mr.1 1 5 ^^^ bi s := by rw [cF 13 7 (by omega) (by omega) (by omega) (by omega), uI_eq]
  obtain ⟨t, ht, et⟩ := ex_nI (x := Mr.1 1 5 ^^^ bi s) (m := 9) (fun v hv z => by have := hP v hv z; omega)
  have w8 : M8.1 1 = Mr.1 1 := funext fun k => gF 1 k (by omega) (by omega)
  show ∃ A Mc1 Mr1, (sg_bv (fX4_keepAct N 13 1 (nI s) 0 (sg_uI Mc 13 7 (Mr.1 1 5 ^^^ bi s))) _) = _ ∧ _
  rw [e5, e_bv, e6, e_bv, c7, et, bc_ok (show t < 512 by omega), e_b, e8, e_bv, yr_1, yl_1, c_5, if_pos (by decide), if_pos (by decide), e_m, if_pos (by decide), uI_eq, w8, r_bits (by omega), e_b]
  show ∃ A Mc1 Mr1, _ ∧ some (nI (cnk (Mr.1 1 5 ^^^ bi s) 9), sg_uI M8 1 5 (Mr.1 1 5 ^^^ bi s)) = _ ∧ _
  rw [← et]
  refine ⟨_, _, _, rfl, rfl, CR_act (e := ub (Mr.1 1) 5 (Mr.1 1 5 ^^^ bi s)) (n := n) (k := 1) (s := nI s) (a := 0) hR hI hz (by omega) hG vB (cNet_pad hG.2.1 c7 (fun a k a1 a2 a3 => ?_)) c8 c3 (fun a i a1 a2 a3 => ?_) (fun a i a1 a2 a3 => ?_) (cA _) ?_ (fun j hj => ?_) ?_ (fun j hj => ?_) (fun j hj => ?_) ?_ ?_ ⟨fun a ha => funext fun j => ?_, fun j hj => ?_⟩ (Or.inr (Or.inl ⟨rfl, s, by rw [eM]; exact hs, rfl, ?_⟩))⟩
  · rw [cF a k (by omega) (by omega) (by omega) (by omega), u4 a k (by omega)]
  · rw [cF a i (by omega) (by omega) (by omega) (by omega), u4 a i (by omega)]
  · rw [cF a i (by omega) (by omega) (by omega) (by omega), u4 a i (by omega)]
  · rw [uW w8]
  · rw [ub_ne (by omega), hz j hj]
  · rw [uI_na (by omega), g4]
  · rw [uI_na (by omega), gT j hj]
  · rw [uI_na (by omega), gB j hj]
  · rw [uI_na (by omega), gk]
  · rw [uI_na (by omega), ga]
  · rw [uI_na (by omega), gF a j (by omega) (by omega)]
  · rw [uI_na (by omega), gF 0 j (by omega) (by omega)]
  · rw [ub_eq, xor_2, ub_ub, ub_id]
theorem bc_12a : ∀ i, i < 64 → ∀ j, j < 64 → (bc5 (bc4 (bc3 (bc2 (bc1 (nI (64 * i + j))))))) &&& 63 = nI (cnk (nI (64 * i + j)) 12) := by decide +kernel
theorem bc_12 (s : Nat) (h : s < 4096) : (bc5 (bc4 (bc3 (bc2 (bc1 (nI s)))))) &&& 63 = nI (cnk (nI s) 12) := by
  have := bc_12a (s / 64) (by omega) (s % 64) (by omega)
  rw [Nat.div_add_mod] at this
  exact this
theorem wbs_12 {b : Nat → Int32} (h : vb b) : ∀ v, v < 32 → bt (wbs b) v = true → v < gS b := fun v hv z => by
  unfold wbs at z
  rw [bt_wbF h _ (Nat.le_refl _) v hv, Bool.and_eq_true] at z
  exact of_decide_eq_true z.1
set_option maxHeartbeats 1000000 in
theorem d_year (hN : 1000 ≤ N) : dua (fX10_year N 0) (fX11_year N 0) := by
  intro Mc Mr hCR
  obtain ⟨hR, hI, hz, n, h4, hD⟩ := id hCR
  rcases hD with ⟨hG, hC⟩ | ⟨hG, hC⟩
  case inr =>
    unfold fX10_year fX11_year
    rw [n_ng hG.1, rn_grd hG.2.1, e_b, e_b, if_neg q1, if_pos q0]
    exact ⟨_, _, _, rfl, rfl, hCR⟩
  have h := hG.1
  have hn := vb_n h
  have h8 := hG.2.2.1
  have n20 := hG.2.2.2.1
  have hc : cI (Mr.1 1) Mc := ⟨hG.1, hG.2.1, hC⟩
  unfold fX10_year fX11_year
  rw [c_ng hc, r_grd h rfl, e_b, e_b, if_pos q0, if_neg q1, y0_1, h8, r_full h4 n20, e_b]
  by_cases fu : n = 20
  · rw [if_pos fu, if_neg q1, if_neg (nlt20 (by omega) (by omega))]
    exact ⟨_, _, _, rfl, rfl, hCR⟩
  rw [if_neg fu, if_pos q0, if_pos (lt20 (by omega))]
  obtain ⟨M2, e2, c2, s2, f2⟩ := now_ok (N := N) hc hN
  have l2 := nowF_low f2
  obtain ⟨M3, e3, g1, g2, g3⟩ := shift_ok (N := N) (q := 13) (a := 16) (bits := wbs (Mr.1 1)) (dl := -1) (M := M2) yn_16 (cf6 c2) hn (by omega) (by omega)
  obtain ⟨t, ht, et⟩ := ex_nI (x := wbs (Mr.1 1)) (m := 12) (fun v hv z => by have := wbs_12 h v hv z; omega)
  have ebc : fJ6_bitCount_0f7a4 N (wbs (Mr.1 1)) M3 = some (nI (cnk (wbs (Mr.1 1)) (gS (Mr.1 1))), M3) := by
    rw [← cnk_st (wbs_12 h) 12 hn (by omega), et, ← bc_12 t (by omega)]
    rfl
  have c38 : M3.1 13 8 = nI n := by rw [g2 13 8 (by omega), l2 13 8 (by omega) (by omega), h8]
  obtain ⟨M5, M6, e5, e6, cA, c8, c3, cF⟩ := act_ok (N := N) (n := n) (k := 3) (s := wbs (Mr.1 1)) (a := nI (cnk (wbs (Mr.1 1)) (gS (Mr.1 1)))) (M := M3) c38 (by omega) hN
  obtain ⟨M1, e1, S1, F1⟩ := r_wears (N := N) (M := Mr) h rfl hN
  have r1 := rsF_rEq F1
  rw [e2, e_b, y13_11, c_wear K55 (c_fl c2 s2) yn_16 (cI_N c2).2.2.1 (cI_N c2).1.2.2.2.1 (by omega), e_b, e_m, e3, e_bv, ebc, e_b, e_m, e5, e_bv, e6, e_bv, e1, e_b]
  have vA := vb_age h
  have key : ok (gX11_year_29 N (0, wbs (Mr.1 1), 0, 0) M1) (fun res => res.1 = nI (cnk (wbs (Mr.1 1)) (gS (Mr.1 1))) ∧ res.2.1 1 = age (Mr.1 1) ∧ (∀ j, j < 42 * n → res.2.1 3 j = Mr.1 3 j) ∧ (∀ j, j < 40 → res.2.1 3 (42 * n + j) = Mr.1 1 j) ∧ res.2.1 3 (42 * n + 40) = 3 ∧ res.2.1 3 (42 * n + 41) = nI (cnk (wbs (Mr.1 1)) (gS (Mr.1 1))) ∧ res.2.1 0 4 = nI (n + 1) ∧ (∀ x, (x = 4 ∨ x = 5 ∨ x = 7) → res.2.1 x = Mr.1 x) ∧ ∀ j, (j = 10 ∨ j = 17 ∨ j = 18) → res.2.1 0 j = Mr.1 0 j) := by
    unfold gX11_year_29
    refine ok_for 0 (gS (Mr.1 1)) (fun i s M => s = (0, wbs (Mr.1 1), nI (cnk (wbs (Mr.1 1)) i), nI i) ∧ M1 = M) (by omega) (by omega) ⟨rfl, rfl⟩ ?_ ?_
    · rintro i s M back hi ⟨rfl, rfl⟩ hb
      unfold bX11_year_29
      dsimp only
      rw [r_8 S1, r_isOf (show i < 32 by omega), e_b, nI_1, nI_1]
      refine ok_f (nI_ge hi (by omega)) ?_
      by_cases q : bt (wbs (Mr.1 1)) i = true
      · rw [if_pos q]
        exact ok_f q1 (ok_m (ok_m (hb _ _ ⟨by rw [cnk_s, if_pos q], rfl⟩)))
      · rw [if_neg q]
        exact ok_t q0 (ok_m (ok_m (hb _ _ ⟨by rw [cnk_s, if_neg q, Int32.add_zero]; rfl, rfl⟩)))
    · rintro s M back ⟨rfl, rfl⟩
      unfold bX11_year_29
      dsimp only
      rw [r_8 S1]
      refine ok_t (nI_le (Nat.le_refl _) (by omega)) (ok_bv (remembers_ok (N := N) (n := n) S1.2 ((r1.2 4 (by omega)).trans h4) (by omega) (by omega)) (fun M7 g7 => ?_))
      obtain ⟨gT, gB, gk, ga, g4, gF, -⟩ := g7
      refine ok_a (ages_ok (N := N) h ((funext fun k => gF 1 k (by omega) (by omega)).trans S1.2) hN) (fun M8 g8 => ok_some ⟨rfl, g8.1, fun j hj => ?_, fun j hj => ?_, ?_, ?_, ?_, fun x hx => funext fun j => ?_, fun j hj => ?_⟩)
      · rw [g8.2.1 3 j (by omega) (by omega) (by omega) (by omega) (by omega), gT j hj, r1.1 3 (by omega)]
      · rw [g8.2.1 3 _ (by omega) (by omega) (by omega) (by omega) (by omega), gB j hj]
      · rw [g8.2.1 3 _ (by omega) (by omega) (by omega) (by omega) (by omega), gk]
      · rw [g8.2.1 3 _ (by omega) (by omega) (by omega) (by omega) (by omega), ga]
      · rw [g8.2.1 0 4 (by omega) (by omega) (by omega) (by omega) (by omega), g4]
      · rw [g8.2.1 x j (by omega) (by omega) (by omega) (by omega) (by omega), gF x j (by omega) (by omega), r1.1 x (by omega)]
      · rw [g8.2.1 0 j (by omega) (by omega) (by omega) (by omega) (by omega), gF 0 j (by omega) (by omega), r1.2 j (by omega)]
  obtain ⟨⟨A, M9⟩, e9, k0, k1, k2, k3, k4, k5, k6, k7, k8⟩ := key
  have k0 : A = nI (cnk (wbs (Mr.1 1)) (gS (Mr.1 1))) := k0
  subst k0
  refine ⟨_, _, M9, rfl, e9, CR_act (e := age (Mr.1 1)) (n := n) (k := 3) (s := wbs (Mr.1 1)) (a := nI (cnk (wbs (Mr.1 1)) (gS (Mr.1 1)))) hR hI hz (by omega) hG vA.1 (cNet_wid hG.2.1 (fun k hk => ?_) (fun r hr => ?_) (fun a k a1 a2 a3 a4 => ?_)) c8 c3 (fun a i a1 a2 a3 => ?_) (fun a i a1 a2 a3 => ?_) (cA _) k1 (fun j hj => ?_) k6 k2 k3 k4 k5 ⟨k7, k8⟩ (Or.inr (Or.inr (Or.inr ⟨rfl, ?_⟩)))⟩
  · unfold age; rw [if_neg (by omega)]
  · show M6.1 16 r = _
    rw [cF 16 r (by omega) (by omega) (by omega) (by omega), g3 r, age_w, l2 16 r (by omega) (by omega), hG.2.1.2.2.1 r hr, Int32.sub_eq_add_neg]
  · rw [cF a k (by omega) (by omega) (by omega) (by omega), g2 a k (by omega), l2 a k (by omega) (by omega)]
  · rw [cF a i (by omega) (by omega) (by omega) (by omega), g2 a i (by omega), l2 a i (by omega) (by omega)]
  · rw [cF a i (by omega) (by omega) (by omega) (by omega), g2 a i (by omega), l2 a i (by omega) (by omega)]
  · unfold age; rw [if_neg (by omega), hz j hj]
  · funext i
    have eS : gS (age (Mr.1 1)) = gS (Mr.1 1) := (age_sm _).2.2.2.2.1
    rw [eS]
    unfold age
    by_cases q : 28 ≤ i ∧ i < 28 + gS (Mr.1 1) ∧ bt (wbs (Mr.1 1)) (i - 28) = true
    · rw [if_pos q, if_pos q, Int32.sub_add_cancel]
    · rw [if_neg q, if_neg q]
end C5
