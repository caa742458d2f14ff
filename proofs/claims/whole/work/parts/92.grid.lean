/-! grid: the text is read, the grid is laid -/
section GR
variable {N : Nat}
theorem and255 (x : Int32) : ∃ v, v < 256 ∧ x &&& 255 = nI v := by
  refine ⟨(x &&& 255).toBitVec.toNat, ?_, ?_⟩
  · rw [Int32.toBitVec_and, BitVec.toNat_and]
    exact Nat.lt_of_le_of_lt Nat.and_le_right (by decide)
  · apply Int32.toBitVec_inj.mp
    show _ = BitVec.ofNat 32 _
    rw [BitVec.ofNat_toNat, BitVec.setWidth_eq]
theorem clear_ok {M : sg_M} (hN : 1000 ≤ N) : ok (fX4_clear N 2 M) (fun M1 => (∀ k, k < 9 → M1.1 2 k = 0) ∧ (∀ s, s < 12 → M1.1 5 s = 0) ∧ (∀ v, v < 9 → M1.1 6 v = 0) ∧ (∀ v, v < 9 → M1.1 7 v = 0) ∧ (∀ g, g < 4 → M1.1 8 g = 999) ∧ (∀ a k, (a < 2 ∨ 9 ≤ a) → M1.1 a k = M.1 a k) ∧ M1.2 = M.2) := by
  unfold fX4_clear
  rw [show Yc.2.2.2 2 11 = 5 by decide, show Yc.2.2.2 2 12 = 6 by decide, show Yc.2.2.2 2 13 = 7 by decide, show Yc.2.2.2 2 14 = 8 by decide]
  refine ok_m (ok_m (ok_m (ok_m (ok_m (ok_m (ok_m (ok_m (ok_m ?_))))))))
  refine ok_bv (fillI_ok (N := N) (a := 5) (by decide) hN) (fun M1 h1 => ?_)
  refine ok_bv (fillI_ok (N := N) (a := 6) (by decide) hN) (fun M2 h2 => ?_)
  refine ok_bv (fillI_ok (N := N) (a := 7) (by decide) hN) (fun M3 h3 => ?_)
  refine ok_bv (fillI_ok (N := N) (a := 8) (by decide) hN) (fun M4 h4 => ok_some ?_)
  obtain ⟨a1, b1, c1⟩ := h1
  obtain ⟨a2, b2, c2⟩ := h2
  obtain ⟨a3, b3, c3⟩ := h3
  obtain ⟨a4, b4, c4⟩ := h4
  have l5 : Yc.2.2.1 5 = 12 := by decide
  have l6 : Yc.2.2.1 6 = 9 := by decide
  have l7 : Yc.2.2.1 7 = 9 := by decide
  have l8 : Yc.2.2.1 8 = 4 := by decide
  rw [l5] at b1
  rw [l6] at b2
  rw [l7] at b3
  rw [l8] at b4
  refine ⟨fun k hk => ?_, fun s hs => by rw [c4 5 s (by omega), c3 5 s (by omega), c2 5 s (by omega), b1 s hs], fun v hv => by rw [c4 6 v (by omega), c3 6 v (by omega), b2 v hv], fun v hv => by rw [c4 7 v (by omega), b3 v hv], b4, fun a k ha => ?_, by rw [a4, a3, a2, a1]; rfl⟩
  · rw [c4 2 k (by omega), c3 2 k (by omega), c2 2 k (by omega), c1 2 k (by omega)]
    obtain rfl | rfl | rfl | rfl | rfl | rfl | rfl | rfl | rfl : k = 0 ∨ k = 1 ∨ k = 2 ∨ k = 3 ∨ k = 4 ∨ k = 5 ∨ k = 6 ∨ k = 7 ∨ k = 8 := by omega
    all_goals simp [uI_at]
  · rw [c4 a k (by omega), c3 a k (by omega), c2 a k (by omega), c1 a k (by omega)]
    repeat rw [uI_na (by omega)]
theorem g40 : ∀ (d i n : Nat) (M : sg_M), i + d = 40 → d < n → (∀ t, t < i → M.1 2 t = 0) → ∃ M2, sg_lp (bX11_grid_40 N) n (0, nI i) M = sg_bv (fX11_advance N 0 M2) (fun M10 : sg_M => gX11_grid_63 N 0 M10) ∧ (∀ t, t < 40 → M2.1 2 t = 0) ∧ (∀ a k, a ≠ 2 → M2.1 a k = M.1 a k) ∧ M2.2 = M.2 := by
  intro d
  induction d with
  | zero =>
    intro i n M hi hn h
    obtain ⟨n, rfl⟩ : ∃ k, n = k + 1 := ⟨n - 1, (by omega)⟩
    obtain rfl : i = 40 := by omega
    refine ⟨M, ?_, h, fun _ _ _ => rfl, rfl⟩
    show bX11_grid_40 N (sg_lp (bX11_grid_40 N) n) (0, nI 40) M = _
    unfold bX11_grid_40
    dsimp only
    rw [if_pos (show (40 : Int32) ≤ nI 40 by decide)]
  | succ d ih =>
    intro i n M hi hn h
    obtain ⟨n, rfl⟩ : ∃ k, n = k + 1 := ⟨n - 1, (by omega)⟩
    obtain ⟨M2, e, h1, h2, h3⟩ := ih (i + 1) n (sg_uI M 2 i 0) (by omega) (by omega) (fun t ht => by
      by_cases q : t = i
      · subst q; exact uI_eq
      · rw [uI_nb q]; exact h t (by omega))
    refine ⟨M2, ?_, h1, fun a k ha => by rw [h2 a k ha, uI_na ha], by rw [h3]; rfl⟩
    show bX11_grid_40 N (sg_lp (bX11_grid_40 N) n) (0, nI i) M = _
    generalize sg_lp (bX11_grid_40 N) n = back at e ⊢
    unfold bX11_grid_40
    dsimp only
    have w : ¬ (40 : Int32) ≤ nI i := (show ¬ nI 40 ≤ nI i from nI_ge (by omega) (by omega))
    rw [if_neg w, yr_2, yl_2, if_pos (ib_nI (by omega) (by omega)), e_m, e_m, nI_clamp (by omega), nI_1]
    exact e
theorem g96 : ∀ (d i n : Nat) (M : sg_M), i + d = 40 → d < n → (∀ t, t < i → M.1 1 t = M.1 2 t) → ∃ M2, sg_lp (bX11_grid_96 N) n (0, nI i) M = some (M2.1 1 4, M2) ∧ (∀ t, t < 40 → M2.1 1 t = M.1 2 t) ∧ M2.1 0 4 = 0 ∧ (∀ k, 40 ≤ k → M2.1 1 k = M.1 1 k) ∧ (∀ a k, a ≠ 1 → (a ≠ 0 ∨ k ≠ 4) → M2.1 a k = M.1 a k) ∧ M2.2 = M.2 := by
  intro d
  induction d with
  | zero =>
    intro i n M hi hn h
    obtain ⟨n, rfl⟩ : ∃ k, n = k + 1 := ⟨n - 1, (by omega)⟩
    obtain rfl : i = 40 := by omega
    refine ⟨sg_uI M 0 4 0, ?_, fun t ht => by rw [uI_na (by omega)]; exact h t ht, uI_eq, fun k _ => uI_na (by omega), fun a k h1 h2 => by rw [uI_at, if_neg (by omega)], rfl⟩
    show bX11_grid_96 N (sg_lp (bX11_grid_96 N) n) (0, nI 40) M = _
    unfold bX11_grid_96
    dsimp only
    rw [if_pos (show (40 : Int32) ≤ nI 40 by decide), e_m, yr_1, yl_1, if_pos (show sg_ib (4 : Int32) 40 = true by decide), c_4]
  | succ d ih =>
    intro i n M hi hn h
    obtain ⟨n, rfl⟩ : ∃ k, n = k + 1 := ⟨n - 1, (by omega)⟩
    obtain ⟨M2, e, h1, h2, h3, h4, h5⟩ := ih (i + 1) n (sg_uI M 1 i (M.1 2 i)) (by omega) (by omega) (fun t ht => by
      rw [uI_na (a := 2) (by omega)]
      by_cases q : t = i
      · subst q; exact uI_eq
      · rw [uI_nb q]; exact h t (by omega))
    refine ⟨M2, ?_, fun t ht => by rw [h1 t ht, uI_na (by omega)], h2, fun k hk => by rw [h3 k hk, uI_nb (by omega)], fun a k g1 g2 => by rw [h4 a k g1 g2, uI_na g1], by rw [h5]; rfl⟩
    show bX11_grid_96 N (sg_lp (bX11_grid_96 N) n) (0, nI i) M = _
    generalize sg_lp (bX11_grid_96 N) n = back at e ⊢
    unfold bX11_grid_96
    dsimp only
    have w : ¬ (40 : Int32) ≤ nI i := (show ¬ nI 40 ≤ nI i from nI_ge (by omega) (by omega))
    rw [if_neg w, yr_2, yl_2, if_pos (ib_nI (by omega) (by omega)), yr_1, yl_1, if_pos (ib_nI (by omega) (by omega)), e_m, e_m, nI_clamp (by omega), nI_1]
    exact e
theorem vb_40 {f g : Nat → Int32} (h : vb f) (e : ∀ i, i < 40 → g i = f i) : vb g := (vb_wid (x := gW f) h (fun i hi => e i (by omega)) (fun s hs => ⟨by rw [e _ (by omega)]; exact vb_w h hs, vb_w4 h hs, vb_w0 h hs⟩)).1
theorem cNet_40 {q : Nat} {f g : Nat → Int32} {M : sg_M} (h : cNet q f M) (e : ∀ i, i < 40 → g i = f i) : cNet q g M := by
  obtain ⟨eC, eR, -, -, -, -⟩ := sm_of (b := f) (d := g) (fun i hi => e i (by omega))
  obtain ⟨⟨h0, h1, h2, h3, h4, h7⟩, hG, hw, hl, hg, hb⟩ := h
  exact ⟨⟨by rw [e 0 (by omega)]; exact h0, by rw [e 1 (by omega)]; exact h1, by rw [e 2 (by omega)]; exact h2, by rw [e 3 (by omega)]; exact h3, by rw [e 4 (by omega)]; exact h4, by rw [e 5 (by omega)]; exact h7⟩, by rw [eC, eR]; exact hG, fun s hs => by rw [e _ (by omega)]; exact hw s hs, fun v hv => by rw [e _ (by omega)]; exact hl v hv, fun v hv => by rw [e _ (by omega)]; exact hg v hv, fun g hg2 => by rw [e _ (by omega)]; exact hb g hg2⟩
/-- only the reader changes -/
theorem CR_tx {Mc Mr Mc1 Mr1 : sg_M} (h : CR Mc Mr) (hR : rdr Mc1 Mr1) (c1 : ∀ a k, (a = 0 ∨ 13 ≤ a) → Mc1.1 a k = Mc.1 a k) (c2 : ∀ a k, Mc1.2 a k = Mc.2 a k) (r1 : ∀ a k, (a = 1 ∨ a = 3 ∨ a = 4 ∨ a = 5 ∨ (a = 0 ∧ k = 4)) → Mr1.1 a k = Mr.1 a k) : CR Mc1 Mr1 := by
  obtain ⟨-, hI, hz, n, h4, hD⟩ := h
  have w1 : Mr1.1 1 = Mr.1 1 := funext fun k => r1 1 k (by omega)
  have w3 : Mr1.1 3 = Mr.1 3 := funext fun k => r1 3 k (by omega)
  refine ⟨hR, imgs_c hI (fun a k g1 g2 => c1 a k (by omega)) (funext fun k => r1 4 k (by omega)) (funext fun k => r1 5 k (by omega)), fun k hk => by rw [w1, hz k hk], n, by rw [r1 0 4 (by omega), h4], ?_⟩
  rw [w1, w3]
  rcases hD with ⟨hG, hC⟩ | ⟨hG, hC⟩
  · exact Or.inl ⟨nstG_c hG (fun a k g1 g2 => c1 a k (by omega)), caches_c hG.1 hC (fun a k ha => ⟨c1 a k (by omega), c2 a k⟩)⟩
  · exact Or.inr ⟨⟨fun k hk => by rw [c1 13 k (by omega), hG.1 k hk], hG.2.1, hG.2.2⟩, fun z => by rw [c1 55 0 (by omega)]; exact hC (by rw [← c1 0 5 (by omega)]; exact z)⟩
theorem d_grid (hN : 1000 ≤ N) : dua (fX10_grid N 0) (fX11_grid N 0) := by
  intro Mc Mr hCR
  obtain ⟨⟨⟨sz, s1, s2, s3, s4⟩, h1, h2⟩, hI, hz, n, h4, hD⟩ := id hCR
  obtain ⟨yb, y1, y2⟩ : ∃ yb : Nat → Nat, (∀ i, yb i < 256) ∧ ∀ i, Mr.1 7 i &&& 255 = nI (yb i) := ⟨fun i => (and255 (Mr.1 7 i)).choose, fun i => (and255 (Mr.1 7 i)).choose_spec.1, fun i => (and255 (Mr.1 7 i)).choose_spec.2⟩
  obtain ⟨Ma, ea, a2, a5, a6, a7, a8, aF, aL⟩ := clear_ok (N := N) (M := Mc) hN
  obtain ⟨Mr0, hMr0⟩ : ∃ m, m = sg_uI (sg_uI (sg_uI (sg_uI (sg_uI (sg_uI (sg_uI Mr 0 12 (Mr.1 0 10)) 0 10 0) 0 13 0) 0 17 0) 0 18 (-1)) 0 19 0) 0 20 0 := ⟨_, rfl⟩
  have R0 : ∀ a k, (a ≠ 0 ∨ k = 4) → Mr0.1 a k = Mr.1 a k := fun a k ha => by
    rw [hMr0]
    repeat rw [uI_at, if_neg (by omega)]
  have R12 : Mr0.1 0 12 = nI sz := by rw [hMr0, ← s3]; simp [uI_at]
  have R10 : Mr0.1 0 10 = 0 := by rw [hMr0]; simp [uI_at]
  have R13 : Mr0.1 0 13 = 0 := by rw [hMr0]; simp [uI_at]
  have R17 : Mr0.1 0 17 = 0 := by rw [hMr0]; simp [uI_at]
  have R18 : Mr0.1 0 18 = -1 := by rw [hMr0]; simp [uI_at]
  have R19 : Mr0.1 0 19 = 0 := by rw [hMr0]; simp [uI_at]
  have R20 : Mr0.1 0 20 = 0 := by rw [hMr0]; simp [uI_at]
  have L0 : Mr0.2 = Mr.2 := by rw [hMr0]; rfl
  obtain ⟨Mb, eb, b2, bF, bL⟩ := g40 (N := N) 40 0 N Mr0 (by omega) (by omega) (fun t ht => absurd ht (by omega))
  have hb : fX11_grid N 0 Mr = sg_bv (fX11_advance N 0 Mb) (fun M10 : sg_M => gX11_grid_63 N 0 M10) := by
    rw [hMr0] at eb
    exact eb
  have rT : rTx sz yb Mb := ⟨s1, y1, fun i hi => by rw [bF 7 i (by omega), R0 7 i (by omega)]; exact ⟨y2 i, (s4 i hi).2⟩, by rw [bF 0 12 (by omega), R12]⟩
  obtain ⟨Mr1, e1, t1, F1⟩ := adv_ok (N := N) (p := 0) rT (by rw [bF 0 13 (by omega), R13]; rfl) (by omega) hN
  obtain ⟨Mc0, hMc0⟩ : ∃ m, m = sg_uI (sg_uI (sg_uI (sg_uI Ma 1 1 0) 1 2 (-1)) 1 7 0) 1 12 0 := ⟨_, rfl⟩
  have C0 : ∀ a k, (a ≠ 1 ∨ (k ≠ 1 ∧ k ≠ 2 ∧ k ≠ 7 ∧ k ≠ 12)) → Mc0.1 a k = Ma.1 a k := fun a k ha => by
    rw [hMc0]
    repeat rw [uI_at, if_neg (by omega)]
  have C1 : Mc0.1 1 1 = 0 := by rw [hMc0]; simp [uI_at]
  have C2 : Mc0.1 1 2 = -1 := by rw [hMc0]; simp [uI_at]
  have C7 : Mc0.1 1 7 = 0 := by rw [hMc0]; simp [uI_at]
  have C12 : Mc0.1 1 12 = 0 := by rw [hMc0]; simp [uI_at]
  have LC : Mc0.2 = Mc.2 := by rw [hMc0, ← aL]; rfl
  have r1 : ∀ a k, (a ≠ 0 ∨ k < 13 ∨ 17 ≤ k) → a ≠ 2 → Mr1.1 a k = Mr0.1 a k := fun a k g1 g2 => by rw [F1.1 a k g1, bF a k g2]
  have m24 : Mr1.1 2 4 = nI 0 := by rw [F1.1 2 4 (by omega), b2 4 (by omega)]; rfl
  have hs : sim sz yb 0 Mc0 Mr1 := ⟨⟨s1, y1, fun i hi => by rw [C0 12 i (by omega), aF 12 i (by omega), (s4 i hi).1, y2 i], by rw [C0 1 0 (by omega), aF 1 0 (by omega), s2]⟩, ⟨s1, y1, fun i hi => by rw [r1 7 i (by omega) (by omega), R0 7 i (by omega)]; exact ⟨y2 i, (s4 i hi).2⟩, by rw [r1 0 12 (by omega) (by omega), R12]⟩, by omega, by rw [C7]; rfl, t1, by rw [r1 0 17 (by omega) (by omega), R17]⟩
  have hf : frs Mc0 Mr1 := ⟨fun k hk => by rw [C0 2 k (by omega), a2 k hk], fun k hk => by rw [C0 5 k (by omega), a5 k hk], fun k hk => by rw [C0 6 k (by omega), a6 k hk], fun k hk => by rw [C0 7 k (by omega), a7 k hk], fun k hk => by rw [C0 8 k (by omega), a8 k hk], C12, fun k hk => by rw [F1.1 2 k (by omega), b2 k hk], by rw [r1 0 19 (by omega) (by omega), R19], by rw [r1 0 20 (by omega) (by omega), R20]⟩
  obtain ⟨x, Mc1, Mr2, z1, z2, z3, z4, z5⟩ := text_ok (N := N) hN sz N N 0 0 Mc0 Mr1 (by omega) (by omega) (by omega) hs m24 (Nat.le_refl _) (Or.inl ⟨rfl, hf⟩)
  have hr : fX6_readText N 1 Mc = some (x, Mc1) := by
    unfold fX6_readText
    rw [y1_3, ea, e_bv]
    rw [hMc0] at z1
    exact z1
  have hg : fX11_grid N 0 Mr = gX11_grid_84 N 0 Mr2 := by
    rw [hb, e1, e_bv]
    exact z2
  have rF : ∀ a k, (a = 1 ∨ a = 3 ∨ a = 4 ∨ a = 5 ∨ (a = 0 ∧ k = 4)) → Mr2.1 a k = Mr.1 a k := fun a k ha => by rw [z4.1 a k (by omega), r1 a k (by omega) (by omega), R0 a k (by omega)]
  have r10 : Mr2.1 0 10 = nI 0 := by rw [z4.1 0 10 (by omega), r1 0 10 (by omega) (by omega), R10]; rfl
  have cF1 : ∀ a k, (a = 0 ∨ 12 ≤ a) → Mc1.1 a k = Mc.1 a k := fun a k ha => by rw [z3.1 a k (by omega), C0 a k (by omega), aF a k (by omega)]
  unfold fX10_grid
  rw [y0_0, y1_3, y0_1, hr, e_b, e_m, e_m]
  rcases z5 with ⟨rfl, g17, c11, c12, r18, zz⟩ | ⟨rfl, fl⟩
  · rw [if_neg q1]
    obtain ⟨M5, e5, cF⟩ := copyFrom_ok (N := N) (M := sg_uI Mc1 1 0 0) K13 K2 (by omega)
    obtain ⟨M6, e6, cc, l6, z05⟩ := forget_ok (N := N) (M := M5) (by omega)
    obtain ⟨M3, e3, p1, p2, p3, p4, p5⟩ := g96 (N := N) 40 0 N Mr2 (by omega) (by omega) (fun t ht => absurd ht (by omega))
    have hg2 : fX11_grid N 0 Mr = some (M3.1 1 4, M3) := by
      rw [hg]
      unfold gX11_grid_84
      rw [r_gd g17, e_b, if_neg q1, e_m]
      exact e3
    rw [e5, e_bv, e6, e_bv, hg2]
    have F9 := cF.2.2.2.2.2.2.2.2.2.2.1
    have n6 : ∀ k, k < 9 → M6.1 13 k = Mc1.1 2 k := fun k hk => by rw [l6 13 k (by omega) (by omega), cF.1 k hk, uI_na (by omega)]
    have c6 : ∀ a k, (a < 13 ∨ 23 ≤ a) → a < 55 → (a ≠ 0 ∨ k ≠ 5) → (a ≠ 1 ∨ k ≠ 0) → M6.1 a k = Mc1.1 a k := fun a k g1 g2 g3 g4 => by rw [l6 a k g2 g3, F9 a k (by omega), uI_at, if_neg (by omega)]
    have hans : M6.1 13 4 = M3.1 1 4 := by
      rw [n6 4 (by omega), p1 4 (by omega)]
      rcases zz with zf | zd
      · rw [zf.1 4 (by omega), zf.2.2.2.2.2.2.1 4 (by omega)]
      · exact zd.2.1.1.2.2.2.2.1
    refine ⟨M6.1 13 4, M6, M3, rfl, by rw [hans], ⟨⟨0, (by omega), ?_, ?_, fun i hi => absurd hi (by omega)⟩, ?_, ?_⟩, imgs_c hI (fun a k g1 g2 => by rw [c6 a k (by omega) g2 (by omega) (by omega), cF1 a k (by omega)]) (funext fun k => by rw [p4 4 k (by omega) (by omega), rF 4 k (by omega)]) (funext fun k => by rw [p4 5 k (by omega) (by omega), rF 5 k (by omega)]), fun k hk => by rw [p3 k hk, rF 1 k (by omega), hz k hk], 0, p2, ?_⟩
    · rw [l6 1 0 (by omega) (by omega), F9 1 0 (by omega), uI_eq]; rfl
    · rw [p4 0 10 (by omega) (by omega), r10]
    · rw [c6 1 1 (by omega) (by omega) (by omega) (by omega), c11, C1, p4 0 17 (by omega) (by omega), g17]
    · rw [c6 1 2 (by omega) (by omega) (by omega) (by omega), c12, C2, p4 0 18 (by omega) (by omega), r18, r1 0 18 (by omega) (by omega), R18]
    · rcases zz with zf | zd
      · exact Or.inr ⟨⟨fun k hk => by rw [n6 k hk, zf.1 k hk], fun k hk => by rw [p1 k hk, zf.2.2.2.2.2.2.1 k hk], rfl⟩, fun q => absurd z05 q⟩
      · refine Or.inl ⟨⟨vb_40 zd.1 p1, cNet_40 (f := Mr2.1 2) ?_ p1, by rw [n6 8 (by omega), zd.2.2.1]; rfl, by omega, ⟨fun _ => M3.1 1, rfl, fun i hi => absurd hi (by omega)⟩⟩, cc _⟩
        have hG : nst 2 (Mr2.1 2) 0 (M3.1 3) (sg_uI Mc1 1 0 0) := Or.inl ⟨zd.1, cNet_c zd.2.1 (fun a k g1 g2 g3 => uI_na (by omega)), by rw [uI_na (by omega), zd.2.2.1]; rfl, by omega, ⟨fun _ => Mr2.1 2, rfl, fun i hi => absurd hi (by omega)⟩⟩
        have hn := nst_c (M1 := M6) (nst_m (T2 := M3.1 3) (by omega) hG cF (fun _ _ => rfl)) (fun a j g1 g2 => l6 a j (by omega) (by omega))
        rcases hn with hn | hn
        · exact hn.2.1
        · exact absurd (by rw [hn.2.1 4 (by omega)]; decide) zd.1.2.2.2.1
  · rw [if_pos q0]
    have hg2 : fX11_grid N 0 Mr = some (-4, Mr2) := by
      rw [hg]
      unfold gX11_grid_84
      rw [r_bd fl.2.2, e_b, if_pos q0]
    refine ⟨_, _, _, rfl, hg2, CR_tx hCR ⟨⟨0, (by omega), uI_eq, r10, fun i hi => absurd hi (by omega)⟩, by rw [uI_nb (by omega)]; exact fl.1, by rw [uI_nb (by omega)]; exact fl.2.1⟩ (fun a k ha => by rw [uI_na (by omega), cF1 a k (by omega)]) (fun a k => by show Mc1.2 a k = _; rw [z3.2, LC]) rF⟩
end GR
