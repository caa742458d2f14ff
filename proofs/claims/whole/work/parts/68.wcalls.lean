/-! widens, widen, wide, slims, slim -/
def raC (M M1 : sg_M) : Prop := ∀ a k, a ≠ 1 → a ≠ 6 → a ≠ 9 → a ≠ 10 → a ≠ 16 → a ≠ 17 → (a ≠ 0 ∨ (k ≠ 8 ∧ k ≠ 21 ∧ k ≠ 24 ∧ k ≠ 31 ∧ k ≠ 35)) → M1.1 a k = M.1 a k
theorem raC_refl {M : sg_M} : raC M M := fun _ _ _ _ _ _ _ _ _ => rfl
theorem raC_tr {M M1 M2 : sg_M} (h : raC M M1) (h2 : raC M1 M2) : raC M M2 := fun a k h1 h6 h9 h10 h16 h17 h0 => (h2 a k h1 h6 h9 h10 h16 h17 h0).trans (h a k h1 h6 h9 h10 h16 h17 h0)
theorem raC_of {M M1 : sg_M} (h : raB M M1) : raC M M1 := fun a k h1 h6 h9 h10 _ _ h0 => h a k h1 h6 h9 h10 (by omega)
theorem raC_W {M M1 : sg_M} (h : raC M M1) : reW M M1 := ⟨fun a ha => funext fun k => h a k (by omega) (by omega) (by omega) (by omega) (by omega) (by omega) (by omega), fun k hk => h 0 k (by omega) (by omega) (by omega) (by omega) (by omega) (by omega) (by omega)⟩
theorem raC_35 {M : sg_M} {x : Int32} : raC M (sg_uI M 0 35 x) := fun a k _ _ _ _ _ _ h0 => by rw [uI_at, if_neg (by omega)]
theorem raC_16 {M : sg_M} {k : Nat} {x : Int32} : raC M (sg_uI M 16 k x) := fun a j _ _ _ _ h16 _ _ => uI_na h16
section WC
variable {N : Nat} {b : Nat → Int32}
theorem sv_C {M M1 : sg_M} (h : sv b M) (hF : raC M M1) : sv b M1 := fun k hk => by rw [hF 15 k (by omega) (by omega) (by omega) (by omega) (by omega) (by omega) (by omega), h k hk]
theorem outC {d : Nat → Int32} {M0 M : sg_M} (h0 : M0.1 1 = b) (hd : ∀ k, 40 ≤ k → d k = b k) (h1 : M.1 1 = d) (hs : sv b M) (hF : reW M0 M) (hN : 1000 ≤ N) : ok (fX11_takesOut N 0 M) (fun M1 => rEq M0 M1 ∧ (∀ a k, a ≠ 1 → M1.1 a k = M.1 a k)) := ok_imp (takesOut_ok (N := N) hs (fun k hk => by rw [h1, hd k hk]) (by omega)) (fun M1 g => ⟨reW_to (reW_tr hF ⟨fun a ha => funext fun k => g.2.1 a k (by omega), fun k _ => g.2.1 0 k (by omega)⟩) (g.1.trans h0.symm), g.2.1⟩)
theorem putC {M0 M : sg_M} (h0 : rEq M0 M) (h1 : M.1 1 = b) (hN : 1000 ≤ N) : ok (fX11_puts N 0 M) (fun M1 => M1.1 1 = b ∧ sv b M1 ∧ reW M0 M1 ∧ M1.1 0 8 = M.1 0 8) := ok_imp (puts_ok (N := N) h1 (by omega)) (fun M1 g => ⟨by rw [← h1]; exact funext fun k => g.2.1 1 k (by omega), g.1, reW_tr (reW_of h0) ⟨fun a ha => funext fun k => g.2.1 a k (by omega), fun k _ => g.2.1 0 k (by omega)⟩, g.2.1 0 8 (by omega)⟩)
theorem widensAll_ok {M : sg_M} (h : vb b) (h1 : M.1 1 = b) (hN : 1000 ≤ N) : ok (fX11_widensAll N 0 M) (fun M1 => M1.1 1 = wg b (wgN b) ∧ M1.1 0 35 = nI (wgN b) ∧ (∀ i, i < wgN b → M1.1 16 i = oI (nxw (wg b i))) ∧ raC M M1) := by
  have hn := vb_n h
  unfold fX11_widensAll
  refine ok_m ?_
  unfold gX11_widensAll_5
  refine ok_for 0 20 (fun i s M1 => s = 0 ∧ M1.1 1 = wg b i ∧ M1.1 0 35 = nI i ∧ (∀ j, j < i → M1.1 16 j = oI (nxw (wg b j)) ∧ pG b j = false) ∧ raC M M1) (by omega) (by omega) ⟨rfl, ?_, ?_, fun j hj => absurd hj (by omega), raC_35⟩ ?_ ?_
  · rw [← h1]
    exact funext fun k => uI_na (by omega)
  · rw [uI_eq]; rfl
  · rintro i s M1 back hi ⟨rfl, w1, c1, g1, r1⟩ hb
    have wv := wg_v h i
    have eS : gS (wg b i) = gS b := (wdv_sm wv).2.2.2.2.1
    have stop : pG b i = true → ∀ M2 : sg_M, M2.1 1 = wg b i → raB M1 M2 → ok (some M2) (fun M1 => M1.1 1 = wg b (wgN b) ∧ M1.1 0 35 = nI (wgN b) ∧ (∀ i, i < wgN b → M1.1 16 i = oI (nxw (wg b i))) ∧ raC M M1) := fun hp M2 w2 r2 => by
      have e : wgN b = i := fst1_u hi hp (fun j hj => (g1 j hj).2)
      rw [e]
      exact ok_some ⟨w2, by rw [r2 0 35 (by omega) (by omega) (by omega) (by omega) (by omega), c1], fun j hj => by rw [r2 16 j (by omega) (by omega) (by omega) (by omega) (by omega)]; exact (g1 j hj).1, raC_tr r1 (raC_of r2)⟩
    unfold bX11_widensAll_5
    rw [c1]
    refine ok_f (show ¬ nI 20 ≤ nI i from nI_ge hi (by omega)) (ok_a (r_hold (N := N) wv.1 w1 hN) (fun M2 h2 => ?_))
    obtain ⟨S2, F2⟩ := h2
    by_cases hh : hold (wg b i) = true
    · rw [if_pos hh]
      exact ok_f q1 (stop (by show (hold (wg b i) || _) = true; rw [hh]; rfl) M2 S2.2 (raB_s F2))
    rw [if_neg hh]
    have hh : hold (wg b i) = false := by simpa using hh
    refine ok_t q0 (ok_a (nextWider_ok (N := N) wv.1 S2.2 hN) (fun M3 h3 => ok_m ?_))
    have r3 : raB M1 M3 := raB_tr (raB_s F2) h3.2
    cases e : nxw (wg b i) with
    | none => exact ok_t rfl (stop (by show (_ || (nxw (wg b i)).isNone) = true; rw [e]; simp) M3 h3.1 r3)
    | some j =>
      obtain ⟨hj, pj, -⟩ := nxw_lt wv e
      have w4 := vb_w4 wv.1 (show j < 12 by omega)
      refine ok_f (fun q => by rw [show oI (some j) = nI j from rfl, qn1 (by omega)] at q; exact q) ?_
      rw [show oI (some j) = nI j from rfl, yr_1, yl_1, yr_34, yl_16, k_28, nI_clamp (show 28 + j < 2 ^ 31 by omega), h3.1, vb_w wv.1 (by omega), nI_1]
      refine ok_t (ib_nI (by omega) (by omega)) (ok_t (ib_nI (by omega) (by omega)) (ok_m ?_))
      have c3 : (sg_uI M3 1 (28 + j) (nI (gW (wg b i) j + 1))).1 0 35 = nI i := by rw [uI_na (by omega), r3 0 35 (by omega) (by omega) (by omega) (by omega) (by omega), c1]
      rw [c3, nI_clamp (show i < 2 ^ 31 by omega)]
      refine ok_t (ib_nI (by omega) (by omega)) (ok_m (ok_m (hb _ _ ⟨rfl, ?_, ?_, fun t ht => ?_, ?_⟩)))
      · rw [wg_s e]
        have := uW (k := 28 + j) (x := nI (gW (wg b i) j + 1)) h3.1
        show _ = ub _ _ _
        rw [← this]
        exact funext fun k => by rw [uI_na (by omega), uI_na (by omega)]
      · rw [uI_eq, uI_na (by omega), c3, nI_1]
      · by_cases q : t = i
        · subst q
          refine ⟨?_, ?_⟩
          · rw [uI_na (by omega), uI_eq, e]; rfl
          · show (hold (wg b t) || (nxw (wg b t)).isNone) = false
            rw [hh, e]; rfl
        · refine ⟨?_, (g1 t (by omega)).2⟩
          rw [uI_na (by omega), uI_nb q, uI_na (by omega), r3 16 t (by omega) (by omega) (by omega) (by omega) (by omega)]
          exact (g1 t (by omega)).1
      · exact raC_tr r1 (raC_tr (raC_of (raB_tr r3 raB_1)) (raC_tr raC_16 raC_35))
  · rintro s M1 back ⟨rfl, w1, c1, g1, r1⟩
    have e : wgN b = 20 := fst1_n (fun j hj => (g1 j hj).2)
    unfold bX11_widensAll_5
    rw [c1, e]
    exact ok_t (by decide) (ok_some ⟨w1, c1, fun j hj => (g1 j hj).1, r1⟩)
theorem wgN_b : wgN b ≤ 20 := (fst1_s _ 20).1
theorem r_lw {M0 M : sg_M} (h : vb b) (hr : M0.1 1 = b) (h0 : rEq M0 M) (hN : 1000 ≤ N) : okA (fX11_laysWidened N 0 M) 1 (fun M1 => rEq M0 M1 ∧ M1.1 0 35 = nI (wgN b) ∧ ∀ i, i < wgN b → M1.1 16 i = oI (nxw (wg b i))) := by
  apply okA_of
  have h1 : M.1 1 = b := (h0.1 1 (by omega)).trans hr
  unfold fX11_laysWidened
  rw [r_grd h h1, e_b, if_neg q1]
  refine ok_bv (putC (N := N) h0 h1 hN) (fun M1 g => ok_bv (widensAll_ok (N := N) h g.1 hN) (fun M2 g2 => ok_bv (outC (N := N) hr (fun k hk => (wg_v h (wgN b)).2 k (Or.inr hk)) g2.1 (sv_C g.2.1 g2.2.2.2) (reW_tr g.2.2.1 (raC_W g2.2.2.2)) hN) (fun M3 g3 => ok_some ⟨rfl, g3.1, ?_, fun i hi => ?_⟩)))
  · rw [g3.2 0 35 (by omega)]; exact g2.2.1
  · rw [g3.2 16 i (by omega)]; exact g2.2.2.1 i hi
theorem csg {M : sg_M} (hc : cI b M) (hk : M.1 205 7 ≠ 0) : M.1 205 0 = nI (wgN b) ∧ M.1 205 1 = (if hold (wg b (wgN b)) = true then 1 else 0) ∧ ∀ i, i < wgN b → M.1 206 i = oI (nxw (wg b i)) := hc.2.2.2.2.2.2.1 hk
theorem css {M : sg_M} (hc : cI b M) (hk : M.1 205 9 ≠ 0) : (hold b = true → M.1 205 5 = nI (slN b) ∧ ∀ s, s < 12 → M.1 208 s = sl b (slN b) (28 + s)) ∧ (hold b = false → M.1 205 5 = -1) := hc.2.2.2.2.2.2.2.2.1 hk
theorem q_widens (hN : 1000 ≤ N) : bth b (fX10_widens N 0) (fX11_widens N 0) := by
  intro Mc Mr hc hr
  have h := hc.1
  obtain ⟨M2, e2, c2, l2, k2⟩ := wgreedy_ok (N := N) hc hN
  obtain ⟨M1, e1, r1, w1, g1⟩ := r_lw (N := N) h hr rEq_refl hN
  unfold fX10_widens fX11_widens
  rw [c_ng hc, e1, e_b, e_b, if_pos q0, if_neg q1, y0_10, y0_1, e2, e_bv, (csg c2 k2).1, w1]
  exact ⟨_, ⟨_, rfl, c2, l2⟩, ⟨_, rfl, r1⟩⟩
theorem q_widen {x : Int32} (hN : 1000 ≤ N) : bth b (fX10_widen N 0 x) (fX11_widen N 0 x) := by
  intro Mc Mr hc hr
  have h := hc.1
  obtain ⟨M2, e2, c2, l2, k2⟩ := wgreedy_ok (N := N) hc hN
  obtain ⟨M1, e1, r1, w1, g1⟩ := r_lw (N := N) h hr rEq_refl hN
  obtain ⟨t1, -, t3⟩ := csg c2 k2
  have h20 : wgN b ≤ 20 := wgN_b
  unfold fX10_widen fX11_widen
  rw [c_ng hc, e_b, if_pos q0]
  by_cases hx : 0 ≤ x
  case neg =>
    have hx2 : x < 0 := by
      rw [Int32.le_iff_toInt_le] at hx
      rw [Int32.lt_iff_toInt_lt]
      omega
    rw [if_neg hx, if_pos hx2]
    exact ⟨-2, ⟨_, rfl, hc, low_refl⟩, ⟨_, rfl, rEq_refl⟩⟩
  have hx2 : ¬ x < 0 := by
    rw [Int32.le_iff_toInt_le] at hx
    rw [Int32.lt_iff_toInt_lt]
    omega
  rw [if_pos hx, if_neg hx2, e1, e_b, if_neg q1, y0_10, y0_1, e2, e_bv, t1, w1, y205_2, yn_206, yr_34, yl_16]
  obtain ⟨t, ht, rfl⟩ := nn_ex hx
  by_cases q : wgN b ≤ t
  · rw [if_pos (nI_le q ht), if_pos (nI_le q ht)]
    exact ⟨_, ⟨_, rfl, c2, l2⟩, ⟨_, rfl, r1⟩⟩
  · rw [if_neg (nI_ge (by omega) (by omega)), if_neg (nI_ge (by omega) (by omega)), if_pos (ib_nI (by omega) (by omega)), if_pos (ib_nI (by omega) (by omega)), nI_clamp (show t < 2 ^ 31 by omega), t3 t (by omega), g1 t (by omega)]
    exact ⟨_, ⟨_, rfl, c2, l2⟩, ⟨_, rfl, r1⟩⟩
theorem q_wide (hN : 1000 ≤ N) : bth b (fX10_wide N 0) (fX11_wide N 0) := by
  intro Mc Mr hc hr
  have h := hc.1
  obtain ⟨M2, e2, c2, l2, k2⟩ := wgreedy_ok (N := N) hc hN
  obtain ⟨-, t2, -⟩ := csg c2 k2
  unfold fX10_wide fX11_wide
  rw [c_ng hc, r_grd h hr, e_b, e_b, if_pos q0, if_neg q1, y0_10, y0_1, e2, e_bv, t2]
  refine ⟨if hold (wg b (wgN b)) = true then 1 else 0, ?_, okA_of ?_⟩
  · by_cases z : hold (wg b (wgN b)) = true
    · simp only [if_pos z, if_neg q1]; exact ⟨_, rfl, c2, l2⟩
    · simp only [if_neg z, if_pos q0]; exact ⟨_, rfl, c2, l2⟩
  · refine ok_bv (putC (N := N) rEq_refl hr hN) (fun M1 g => ok_bv (widensAll_ok (N := N) h g.1 hN) (fun M3 g2 => ?_))
    have wv := wg_v h (wgN b)
    refine ok_a (r_hold (N := N) wv.1 g2.1 hN) (fun M4 h4 => ?_)
    obtain ⟨S4, F4⟩ := h4
    have r4 : raC M1 M4 := raC_tr g2.2.2.2 (raC_of (raB_s F4))
    have fin : ∀ x : Int32, ok (gX11_wide_30 N 0 x M4) (fun res => res.1 = x ∧ rEq Mr res.2) := fun x => by
      unfold gX11_wide_30
      exact ok_m (ok_bv (outC (N := N) hr (fun k hk => wv.2 k (Or.inr hk)) S4.2 (sv_C g.2.1 r4) (reW_tr g.2.2.1 (raC_W r4)) hN) (fun M5 g5 => ok_some ⟨rfl, g5.1⟩))
    by_cases z : hold (wg b (wgN b)) = true
    · simp only [if_pos z]; exact ok_f q1 (fin 1)
    · simp only [if_neg z]; exact ok_t trivial (fin 0)
theorem slimsAll_ok {M : sg_M} (h : vb b) (h1 : M.1 1 = b) (h8 : M.1 0 8 = nI (gS b)) (hN : 1000 ≤ N) : okA (fX11_slimsAll N 0 M) (nI (slN b)) (fun M1 => M1.1 1 = sl b (slN b) ∧ raB M M1) := by
  apply okA_of
  have hn := vb_n h
  obtain ⟨s1, s2, s3⟩ := slN_b h
  unfold fX11_slimsAll
  refine ok_m (ok_a (nextSlim_ok (N := N) h h1 h8 hN) (fun M1 g => ok_m ?_))
  unfold gX11_slimsAll_7
  refine ok_lp (fun m s M2 => ∃ i, i ≤ slN b ∧ m = slN b - i ∧ s = (0, nI i, oI (nxs (sl b i))) ∧ M2.1 1 = sl b i ∧ M2.1 0 8 = nI (gS b) ∧ raB M M2) ?_ N (slN b) _ M1 ⟨0, Nat.zero_le _, (Nat.sub_zero _).symm, rfl, g.1, g.2.1, g.2.2⟩ (by omega)
  rintro m s M2 back ⟨i, hi, rfl, rfl, w2, g8, r2⟩ hb
  have wv := sl_v h i
  have eS : gS (sl b i) = gS b := (wdv_sm wv).2.2.2.2.1
  unfold bX11_slimsAll_7
  dsimp only
  cases e : nxs (sl b i) with
  | none =>
    have e2 : slN b = i := by
      apply Classical.byContradiction
      intro q
      obtain ⟨s, z⟩ := s3 i (by omega)
      rw [e] at z; cases z
    rw [e2]
    exact ok_t rfl (ok_some ⟨rfl, w2, r2⟩)
  | some j =>
    obtain ⟨hj, pj, -⟩ := nxs_lt wv e
    have hlt : i < slN b := by
      apply Classical.byContradiction
      intro q
      rw [show i = slN b by omega, s2] at e; cases e
    have w4 := vb_w4 wv.1 (show j < 12 by omega)
    refine ok_f (fun q => by rw [show oI (some j) = nI j from rfl, qn1 (by omega)] at q; exact q) ?_
    rw [show oI (some j) = nI j from rfl, yr_1, yl_1, k_28, nI_clamp (show 28 + j < 2 ^ 31 by omega), w2, vb_w wv.1 (by omega), nI_dec (by omega)]
    refine ok_t (ib_nI (by omega) (by omega)) (ok_t (ib_nI (by omega) (by omega)) (ok_m (ok_m ?_)))
    have w3 : (sg_uI M2 1 (28 + j) (nI (gW (sl b i) j - 1))).1 1 = sl b (i + 1) := by rw [uW w2, sl_s e]; rfl
    have wv1 := sl_v h (i + 1)
    have eS1 : gS (sl b (i + 1)) = gS b := (wdv_sm wv1).2.2.2.2.1
    refine ok_a (nextSlim_ok (N := N) wv1.1 w3 (by rw [uI_na (by omega), eS1]; exact g8) hN) (fun M3 g3 => ok_m (hb (slN b - (i + 1)) _ _ (by omega) ⟨i + 1, hlt, rfl, by rw [nI_1], g3.1, by rw [← eS1]; exact g3.2.1, raB_tr r2 (raB_tr raB_1 g3.2.2)⟩))
theorem q_slims (hN : 1000 ≤ N) : bth b (fX10_slims N 0) (fX11_slims N 0) := by
  intro Mc Mr hc hr
  have h := hc.1
  obtain ⟨M2, e2, c2, l2, k2⟩ := wslim_ok (N := N) hc hN
  obtain ⟨t1, t2⟩ := css c2 k2
  obtain ⟨M1, e1, S1, F1⟩ := r_hold (N := N) h hr hN
  unfold fX10_slims fX11_slims
  rw [c_ng hc, r_grd h hr, e_b, e_b, if_pos q0, if_neg q1, y0_10, y0_1, e2, e_bv, e1, e_b]
  by_cases z : hold b = true
  · simp only [if_pos z, if_neg q1]
    rw [(t1 z).1]
    refine ⟨_, ⟨_, rfl, c2, l2⟩, okA_of ?_⟩
    refine ok_bv (putC (N := N) (rsF_rEq F1) S1.2 hN) (fun M3 g => ok_a (slimsAll_ok (N := N) h g.1 (by rw [g.2.2.2]; exact r_8 S1) hN) (fun M4 g4 => ok_m (ok_bv (outC (N := N) hr (fun k hk => (sl_v h (slN b)).2 k (Or.inr hk)) g4.1 (sv_B g.2.1 g4.2) (reW_tr g.2.2.1 (raB_W g4.2)) hN) (fun M5 g5 => ok_some ⟨rfl, g5.1⟩))))
  · simp only [if_neg z, if_pos q0]
    rw [t2 (by simpa using z)]
    exact ⟨_, ⟨_, rfl, c2, l2⟩, ⟨_, rfl, rsF_rEq F1⟩⟩
theorem q_slim {x : Int32} (hN : 1000 ≤ N) : bth b (fX10_slim N 0 x) (fX11_slim N 0 x) := by
  intro Mc Mr hc hr
  have h := hc.1
  have hn := vb_n h
  obtain ⟨s1, -, -⟩ := slN_b h
  obtain ⟨M2, e2, c2, l2, k2⟩ := wslim_ok (N := N) hc hN
  obtain ⟨t1, t2⟩ := css c2 k2
  obtain ⟨M0, e0, T0, F0⟩ := r_istp (N := N) (x := x) h hr (by omega)
  have f0 := rFr_rsF F0
  have hr0 : M0.1 1 = b := (rsF_11 f0).trans hr
  obtain ⟨M1, e1, S1, F1⟩ := r_hold (N := N) h hr0 hN
  unfold fX10_slim fX11_slim
  rw [c_hs hc, e0, e_b, e_b]
  by_cases hx : sg_ib x (gS b) = true
  case neg => simp only [if_neg hx, if_pos q0]; exact ⟨-2, ⟨_, rfl, hc, low_refl⟩, ⟨_, rfl, rsF_rEq f0⟩⟩
  simp only [if_pos hx, if_neg q1]
  obtain ⟨s, hs, rfl⟩ := ib_ex hx
  rw [y0_10, y0_1, e2, e_bv, e1, e_b, y205_6, yn_208, nI_clamp (show s < 2 ^ 31 by omega)]
  by_cases z : hold b = true
  · simp only [if_pos z, if_neg q1]
    have n1 : ¬ nI (slN b) = -1 := fun q => by rw [qn1 (by omega)] at q; exact q
    rw [(t1 z).1, if_neg n1, if_pos (ib_nI (by omega) (by omega)), (t1 z).2 s (by omega)]
    refine ⟨_, ⟨_, rfl, c2, l2⟩, okA_of ?_⟩
    refine ok_bv (putC (N := N) (rEq_tr (rsF_rEq f0) (rsF_rEq F1)) S1.2 hN) (fun M3 g => ok_a (slimsAll_ok (N := N) h g.1 (by rw [g.2.2.2]; exact r_8 S1) hN) (fun M4 g4 => ?_))
    rw [yr_1, yl_1, k_28, nI_clamp (show 28 + s < 2 ^ 31 by omega), g4.1]
    refine ok_t (ib_nI (by omega) (by omega)) (ok_m (ok_bv (outC (N := N) hr (fun k hk => (sl_v h (slN b)).2 k (Or.inr hk)) g4.1 (sv_B g.2.1 g4.2) (reW_tr g.2.2.1 (raB_W g4.2)) hN) (fun M5 g5 => ok_some ⟨?_, g5.1⟩)))
    generalize sl b (slN b) = v
    trace_state
    rfl
  · simp only [if_neg z, if_pos q0]
    rw [t2 (by simpa using z), if_pos rfl]
    exact ⟨_, ⟨_, rfl, c2, l2⟩, ⟨_, rfl, rEq_tr (rsF_rEq f0) (rsF_rEq F1)⟩⟩
end WC
