/-! aged, lasts, worn, calms -/
def reW (M M1 : sg_M) : Prop := (∀ a, (a = 3 ∨ a = 4 ∨ a = 5 ∨ a = 7) → M1.1 a = M.1 a) ∧ ∀ k, (k = 4 ∨ k = 10 ∨ k = 17 ∨ k = 18) → M1.1 0 k = M.1 0 k
theorem reW_refl {M : sg_M} : reW M M := ⟨fun _ _ => rfl, fun _ _ => rfl⟩
theorem reW_tr {M M1 M2 : sg_M} (h : reW M M1) (h2 : reW M1 M2) : reW M M2 := ⟨fun a ha => (h2.1 a ha).trans (h.1 a ha), fun k hk => (h2.2 k hk).trans (h.2 k hk)⟩
theorem reW_of {M M1 : sg_M} (h : rEq M M1) : reW M M1 := ⟨fun a ha => h.1 a (by omega), h.2⟩
theorem reW_to {M M1 : sg_M} (h : reW M M1) (h1 : M1.1 1 = M.1 1) : rEq M M1 := ⟨fun a ha => by
  rcases ha with rfl | ha
  · exact h1
  · exact h.1 a ha, h.2⟩
/-- the reference's world may change, and what solves changes -/
def raF (M M1 : sg_M) : Prop := (∀ a k, a ≠ 1 → a ≠ 6 → a ≠ 9 → a ≠ 10 → (a ≠ 0 ∨ (k ≠ 8 ∧ k ≠ 21 ∧ k ≠ 24)) → M1.1 a k = M.1 a k) ∧ ∀ a k, a ≠ 11 → (a ≠ 0 ∨ k ≠ 26) → M1.2 a k = M.2 a k
theorem raF_refl {M : sg_M} : raF M M := ⟨fun _ _ _ _ _ _ _ => rfl, fun _ _ _ _ => rfl⟩
theorem raF_tr {M M1 M2 : sg_M} (h : raF M M1) (h2 : raF M1 M2) : raF M M2 := ⟨fun a k h1 h6 h9 h10 h0 => (h2.1 a k h1 h6 h9 h10 h0).trans (h.1 a k h1 h6 h9 h10 h0), fun a k h11 h0 => (h2.2 a k h11 h0).trans (h.2 a k h11 h0)⟩
theorem raF_of {M M1 : sg_M} (h : rsF M M1) : raF M M1 := ⟨fun a k _ h6 h9 h10 h0 => h.1 a k h6 h9 h10 h0, h.2⟩
theorem raF_W {M M1 : sg_M} (h : raF M M1) : reW M M1 := ⟨fun a ha => funext fun k => h.1 a k (by omega) (by omega) (by omega) (by omega) (by omega), fun k hk => h.1 0 k (by omega) (by omega) (by omega) (by omega) (by omega)⟩
theorem raF_1 {M : sg_M} {k : Nat} {x : Int32} : raF M (sg_uI M 1 k x) := ⟨fun a j h1 _ _ _ _ => uI_na h1, fun _ _ _ _ => rfl⟩
/-- what was put aside -/
def sv (b : Nat → Int32) (M : sg_M) : Prop := ∀ k, k < 40 → M.1 15 k = b k
theorem sv_c {b : Nat → Int32} {M M1 : sg_M} (h : sv b M) (hF : raF M M1) : sv b M1 := fun k hk => by rw [hF.1 15 k (by omega) (by omega) (by omega) (by omega) (by omega), h k hk]
section YC
variable {N : Nat} {b : Nat → Int32}
theorem puts_ok {M : sg_M} (h1 : M.1 1 = b) (hN : 100 ≤ N) : ok (fX11_puts N 0 M) (fun M1 => sv b M1 ∧ (∀ a k, a ≠ 15 → M1.1 a k = M.1 a k) ∧ M1.2 = M.2) := by
  unfold fX11_puts
  refine ok_m ?_
  unfold gX11_puts_2
  refine ok_for 0 40 (fun i s M1 => s = (0, nI i) ∧ (∀ k, k < i → M1.1 15 k = b k) ∧ (∀ a k, a ≠ 15 → M1.1 a k = M.1 a k) ∧ M1.2 = M.2) (by omega) (by omega) ⟨rfl, fun k hk => absurd hk (by omega), fun _ _ _ => rfl, rfl⟩ ?_ ?_
  · rintro i s M1 back hi ⟨rfl, g1, g2, g3⟩ hb
    unfold bX11_puts_2
    dsimp only
    rw [yr_1, yr_30, yl_1, yl_15, nI_clamp (show i < 2 ^ 31 by omega), nI_1]
    refine ok_f (show ¬ nI 40 ≤ nI i from nI_ge hi (by omega)) (ok_t (ib_nI (by omega) (by omega)) (ok_t (ib_nI (by omega) (by omega)) (ok_m (ok_m (hb _ _ ⟨rfl, fun k hk => ?_, fun a k ha => by rw [uI_na ha, g2 a k ha], g3⟩)))))
    by_cases e : k = i
    · subst e; rw [uI_eq, g2 1 k (by omega), h1]
    · rw [uI_nb e, g1 k (by omega)]
  · rintro s M1 back ⟨rfl, g1, g2, g3⟩
    unfold bX11_puts_2
    dsimp only
    exact ok_t (by decide) (ok_some ⟨g1, g2, g3⟩)
theorem takesOut_ok {M : sg_M} (hs : sv b M) (hh : ∀ k, 40 ≤ k → M.1 1 k = b k) (hN : 100 ≤ N) : ok (fX11_takesOut N 0 M) (fun M1 => M1.1 1 = b ∧ (∀ a k, a ≠ 1 → M1.1 a k = M.1 a k) ∧ M1.2 = M.2) := by
  unfold fX11_takesOut
  refine ok_m ?_
  unfold gX11_takesOut_2
  refine ok_for 0 40 (fun i s M1 => s = (0, nI i) ∧ (∀ k, (k < i ∨ 40 ≤ k) → M1.1 1 k = b k) ∧ (∀ a k, a ≠ 1 → M1.1 a k = M.1 a k) ∧ M1.2 = M.2) (by omega) (by omega) ⟨rfl, fun k hk => hh k (by omega), fun _ _ _ => rfl, rfl⟩ ?_ ?_
  · rintro i s M1 back hi ⟨rfl, g1, g2, g3⟩ hb
    unfold bX11_takesOut_2
    dsimp only
    rw [yr_1, yr_30, yl_1, yl_15, nI_clamp (show i < 2 ^ 31 by omega), nI_1]
    refine ok_f (show ¬ nI 40 ≤ nI i from nI_ge hi (by omega)) (ok_t (ib_nI (by omega) (by omega)) (ok_t (ib_nI (by omega) (by omega)) (ok_m (ok_m (hb _ _ ⟨rfl, fun k hk => ?_, fun a k ha => by rw [uI_na ha, g2 a k ha], g3⟩)))))
    by_cases e : k = i
    · subst e; rw [uI_eq, g2 15 k (by omega), hs k hi]
    · rw [uI_nb e, g1 k (by omega)]
  · rintro s M1 back ⟨rfl, g1, g2, g3⟩
    unfold bX11_takesOut_2
    dsimp only
    exact ok_t (by decide) (ok_some ⟨funext fun k => g1 k (by omega), g2, g3⟩)
theorem uW {M : sg_M} {d : Nat → Int32} {k : Nat} {x : Int32} (h : M.1 1 = d) : (sg_uI M 1 k x).1 1 = ub d k x := by
  funext i
  rw [uI_at]
  unfold ub
  by_cases e : i = k
  · rw [if_pos ⟨rfl, e⟩, if_pos e]
  · rw [if_neg (fun z => e z.2), if_neg e, h]
theorem age_at (h : vb b) : ∀ i, i ≤ gS b → (fun k => if 28 ≤ k ∧ k < 28 + i ∧ bt (wbs b) (k - 28) = true then b k - 1 else b k) = (fun k => if 28 ≤ k ∧ k < 28 + i ∧ bt (wbs b) (k - 28) = true then b k - 1 else b k) := fun _ _ => rfl
theorem ages_ok {M : sg_M} (h : vb b) (h1 : M.1 1 = b) (hN : 1000 ≤ N) : okA (fX11_ages N 0 M) (wbs b) (fun M1 => M1.1 1 = age b ∧ raF M M1) := by
  apply okA_of
  have hn := vb_n h
  unfold fX11_ages
  refine ok_a (r_wears (N := N) h h1 hN) (fun M1 hM => ok_m (ok_m ?_))
  obtain ⟨S1, F1⟩ := hM
  unfold gX11_ages_7
  refine ok_for 0 (gS b) (fun i s M2 => s = (0, wbs b, nI i) ∧ (∀ k, M2.1 1 k = if 28 ≤ k ∧ k < 28 + i ∧ bt (wbs b) (k - 28) = true then b k - 1 else b k) ∧ raF M1 M2 ∧ M2.1 0 8 = nI (gS b)) (by omega) (by omega) ⟨rfl, fun k => by rw [if_neg (by omega), S1.2], raF_refl, r_8 S1⟩ ?_ ?_
  · rintro i s M2 back hi ⟨rfl, g1, g2, g3⟩ hb
    unfold bX11_ages_7
    dsimp only
    rw [g3, r_isOf (show i < 32 by omega), e_b, yr_1, yl_1, k_28, nI_clamp (show 28 + i < 2 ^ 31 by omega), nI_1]
    have ei : 28 + i - 28 = i := by omega
    refine ok_f (nI_ge hi (by omega)) ?_
    by_cases z : bt (wbs b) i = true
    · rw [if_pos z]
      refine ok_f q1 (ok_t (ib_nI (by omega) (by omega)) (ok_t (ib_nI (by omega) (by omega)) (ok_m (ok_m (hb _ _ ⟨rfl, fun k => ?_, raF_tr g2 raF_1, by rw [uI_na (by omega)]; exact g3⟩)))))
      by_cases e : k = 28 + i
      · subst e
        rw [uI_eq, g1, if_neg (by omega), if_pos ⟨(by omega), (by omega), by rw [ei]; exact z⟩]
      · rw [uI_nb e, g1]
        by_cases q : 28 ≤ k ∧ k < 28 + i ∧ bt (wbs b) (k - 28) = true
        · rw [if_pos q, if_pos ⟨q.1, (by omega), q.2.2⟩]
        · rw [if_neg q, if_neg (fun w => q ⟨w.1, (by omega), w.2.2⟩)]
    · rw [if_neg z]
      refine ok_t q0 (ok_m (hb _ _ ⟨rfl, fun k => ?_, g2, g3⟩))
      rw [g1]
      by_cases q : 28 ≤ k ∧ k < 28 + i ∧ bt (wbs b) (k - 28) = true
      · rw [if_pos q, if_pos ⟨q.1, (by omega), q.2.2⟩]
      · rw [if_neg q, if_neg (fun w => q ⟨w.1, by
          by_cases e : k = 28 + i
          · subst e; rw [ei] at w; exact absurd w.2.2 z
          · omega, w.2.2⟩)]
  · rintro s M2 back ⟨rfl, g1, g2, g3⟩
    unfold bX11_ages_7
    dsimp only
    rw [g3]
    exact ok_t (nI_le (Nat.le_refl _) (by omega)) (ok_some ⟨rfl, funext fun k => by rw [g1]; rfl, raF_tr (raF_of F1) g2⟩)
theorem age_0 (hz : wbs b = 0) : age b = b := by
  funext i
  unfold age
  rw [hz, if_neg (fun z => by rw [b_0] at z; cases z.2.2)]
theorem yr_k (y : Nat) : yr b (y + 1) = age (yr b y) := rfl
theorem cal_0 (h : vb b) : wbs (yr b (cal b)) = 0 ∧ ∀ j, j < cal b → wbs (yr b j) ≠ 0 := by
  obtain ⟨h1, h2, h3⟩ := fst1_s (fun y => decide (wbs (yr b y) = 0)) 49
  have c48 := cal_48 h
  exact ⟨of_decide_eq_true (h2 (by have : fst1 (fun y => decide (wbs (yr b y) = 0)) 49 ≤ 48 := c48; omega)), fun j hj => of_decide_eq_false (h3 j hj)⟩
theorem yr_cal (h : vb b) : ∀ y, cal b ≤ y → yr b y = yr b (cal b) := by
  intro y
  induction y with
  | zero => intro hy; rw [show cal b = 0 by omega]
  | succ y ih =>
    intro hy
    by_cases e : cal b = y + 1
    · rw [e]
    · rw [yr_k, ih (by omega), age_0 (cal_0 h).1]
theorem yr_hi (h : vb b) {k : Nat} (hk : 40 ≤ k) : ∀ y, yr b y k = b k := by
  intro y
  induction y with
  | zero => rfl
  | succ y ih =>
    rw [yr_k]
    have hn := vb_n (yr_v h y)
    unfold age
    rw [if_neg (by omega), ih]
/-- the reference in year y -/
def rY (b : Nat → Int32) (y : Nat) (M0 M : sg_M) : Prop := M.1 1 = yr b y ∧ sv b M ∧ reW M0 M
theorem rY_ages {y : Nat} {M0 M : sg_M} (h : vb b) (hM : rY b y M0 M) (hN : 1000 ≤ N) : okA (fX11_ages N 0 M) (wbs (yr b y)) (fun M1 => rY b (y + 1) M0 M1) := okA_imp (ages_ok (yr_v h y) hM.1 hN) (fun M1 h1 => ⟨h1.1, sv_c hM.2.1 h1.2, reW_tr hM.2.2 (raF_W h1.2)⟩)
theorem rY_hold {y : Nat} {M0 M : sg_M} (h : vb b) (hM : rY b y M0 M) (hN : 1000 ≤ N) : okA (fX11_doesHold N 0 M) (if hold (yr b y) = true then 1 else 0) (fun M1 => rY b y M0 M1) := okA_imp (r_hold (yr_v h y) hM.1 hN) (fun M1 h1 => ⟨h1.1.2, sv_c hM.2.1 (raF_of h1.2), reW_tr hM.2.2 (raF_W (raF_of h1.2))⟩)
theorem rY_out {y : Nat} {M0 M : sg_M} (h : vb b) (h0 : M0.1 1 = b) (hM : rY b y M0 M) (hN : 1000 ≤ N) : ok (fX11_takesOut N 0 M) (rEq M0) := ok_imp (takesOut_ok hM.2.1 (fun k hk => by rw [hM.1, yr_hi h hk]) (by omega)) (fun M1 h1 => reW_to (reW_tr hM.2.2 ⟨fun a ha => funext fun k => h1.2.1 a k (by omega), fun k _ => h1.2.1 0 k (by omega)⟩) (h1.1.trans h0.symm))
theorem rY_puts {M0 M : sg_M} (h0 : rEq M0 M) (h1 : M.1 1 = b) (hN : 1000 ≤ N) : ok (fX11_puts N 0 M) (fun M1 => rY b 0 M0 M1) := ok_imp (puts_ok h1 (by omega)) (fun M1 g => ⟨by rw [← h1]; exact funext fun k => g.2.1 1 k (by omega), g.1, reW_tr (reW_of h0) ⟨fun a ha => funext fun k => g.2.1 a k (by omega), fun k _ => g.2.1 0 k (by omega)⟩⟩)
theorem ib101 {x : Int32} : sg_ib x 101 = true ↔ ¬ x < 0 ∧ x ≤ 100 := by
  have e : Int32.toInt 0 = 0 := by decide
  have e4 : Int32.toInt 100 = 100 := by decide
  rw [Int32.lt_iff_toInt_lt, Int32.le_iff_toInt_le, e, e4]
  unfold sg_ib
  rw [decide_eq_true_iff]
  omega
theorem cye {M : sg_M} (hc : cI b M) (hk : M.1 106 0 ≠ 0) : M.1 106 1 = nI (cal b) ∧ M.1 106 2 = (if lst b ≤ cal b then nI (lst b) else -1) ∧ ∀ y, y ≤ cal b → ∀ s, s < 12 → M.1 (108 + y) s = yr b y (28 + s) := hc.2.2.2.1 hk
theorem q_calms (hN : 1000 ≤ N) : bth b (fX10_calms N 0) (fX11_calms N 0) := by
  intro Mc Mr hc hr
  have h := hc.1
  have c48 := cal_48 h
  obtain ⟨z0, zn⟩ := cal_0 h
  obtain ⟨M2, e2, c2, l2, k2⟩ := look_ok (N := N) hc hN
  unfold fX10_calms fX11_calms
  rw [c_ng hc, r_grd h hr, e_b, e_b, if_pos q0, if_neg q1, y0_8, y0_1, e2, e_bv, (cye c2 k2).1]
  refine ⟨_, ⟨_, rfl, c2, l2⟩, okA_of ?_⟩
  refine ok_bv (rY_puts (N := N) rEq_refl hr hN) (fun M1 hM => ok_m ?_)
  unfold gX11_calms_16
  refine ok_lp (fun m s M => ∃ y, y ≤ cal b ∧ m = cal b - y ∧ s = (0, nI y) ∧ rY b y Mr M) ?_ N (cal b) _ M1 ⟨0, Nat.zero_le _, (Nat.sub_zero _).symm, rfl, hM⟩ (by omega)
  rintro m s M back ⟨y, hy, rfl, rfl, hM⟩ hb
  unfold bX11_calms_16
  dsimp only
  refine ok_a (rY_ages (N := N) h hM hN) (fun M3 h3 => ok_if (fun z => ?_) (fun z => ?_))
  · have e : y = cal b := by
      apply Classical.byContradiction
      intro w
      exact zn y (by omega) z
    exact ok_bv (rY_out (N := N) h hr h3 hN) (fun M4 h4 => ok_some ⟨by rw [e], h4⟩)
  · have e : ¬ y = cal b := fun w => z (by rw [w]; exact z0)
    rw [nI_1]
    exact ok_m (hb (cal b - (y + 1)) _ _ (by omega) ⟨y + 1, (by omega), rfl, rfl, h3⟩)
theorem q_lasts (hN : 1000 ≤ N) : bth b (fX10_lasts N 0) (fX11_lasts N 0) := by
  intro Mc Mr hc hr
  have h := hc.1
  have c48 := cal_48 h
  obtain ⟨z0, zn⟩ := cal_0 h
  obtain ⟨M2, e2, c2, l2, k2⟩ := look_ok (N := N) hc hN
  unfold fX10_lasts fX11_lasts
  rw [c_ng hc, r_grd h hr, e_b, e_b, if_pos q0, if_neg q1, y0_8, y0_1, e2, e_bv, (cye c2 k2).2.1]
  refine ⟨_, ⟨_, rfl, c2, l2⟩, okA_of ?_⟩
  refine ok_bv (rY_puts (N := N) rEq_refl hr hN) (fun M1 hM => ok_m ?_)
  refine ok_a (rY_hold (N := N) h hM hN) (fun M3 h3 => ok_m ?_)
  obtain ⟨p1, p2, p3⟩ := fst1_s (pH b) (cal b + 1)
  unfold gX11_lasts_21
  refine ok_lp (fun m s M => ∃ y, y ≤ cal b ∧ m = cal b - y ∧ s = (0, nI y, if hold (yr b y) = true then 1 else 0) ∧ rY b y Mr M ∧ ∀ j, j < y → hold (yr b j) = true) ?_ N (cal b) _ M3 ⟨0, Nat.zero_le _, (Nat.sub_zero _).symm, rfl, h3, fun j hj => absurd hj (by omega)⟩ (by omega)
  rintro m s M back ⟨y, hy, rfl, rfl, hM, hH⟩ hb
  unfold bX11_lasts_21
  dsimp only
  by_cases z : hold (yr b y) = true
  · rw [if_pos z]
    refine ok_f q1 (ok_a (rY_ages (N := N) h hM hN) (fun M4 h4 => ok_if (fun w => ?_) (fun w => ?_)))
    · have e : y = cal b := by
        apply Classical.byContradiction
        intro v
        exact zn y (by omega) w
      unfold gX11_lasts_43
      refine ok_bv (rY_out (N := N) h hr h4 hN) (fun M5 h5 => ok_f q1 (ok_some ⟨?_, h5⟩))
      have e2 : lst b = cal b + 1 := fst1_n (fun i hi => by
        show (!hold (yr b i)) = false
        by_cases q : i = y
        · rw [q, z]; rfl
        · rw [hH i (by omega)]; rfl)
      rw [if_neg (by omega)]
    · have e : ¬ y = cal b := fun v => w (by rw [v]; exact z0)
      rw [nI_1]
      refine ok_m (ok_a (rY_hold (N := N) h h4 hN) (fun M5 h5 => ok_m (hb (cal b - (y + 1)) _ _ (by omega) ⟨y + 1, (by omega), rfl, rfl, h5, fun j hj => ?_⟩)))
      by_cases q : j = y
      · rw [q]; exact z
      · exact hH j (by omega)
  · rw [if_neg z]
    refine ok_t q0 ?_
    unfold gX11_lasts_43
    refine ok_bv (rY_out (N := N) h hr hM hN) (fun M5 h5 => ok_t q0 (ok_some ⟨?_, h5⟩))
    have e : lst b = y := fst1_u (by omega) (by show (!hold (yr b y)) = true; simpa using z) (fun i hi => by show (!hold (yr b i)) = false; rw [hH i hi]; rfl)
    rw [if_pos (by omega), e]
set_option maxHeartbeats 1000000 in
theorem q_worn {x : Int32} (hN : 1000 ≤ N) : bth b (fX10_worn N 0 x) (fX11_worn N 0 x) := by
  intro Mc Mr hc hr
  have h := hc.1
  have hn := vb_n h
  have c48 := cal_48 h
  obtain ⟨z0, zn⟩ := cal_0 h
  obtain ⟨M0, e0, T0, F0⟩ := r_istp (N := N) (x := x) h hr (by omega)
  have f0 := rFr_rsF F0
  have hr0 : M0.1 1 = b := (rsF_11 f0).trans hr
  unfold fX10_worn fX11_worn
  rw [c_hs hc, e0, e_b, e_b]
  by_cases hx : sg_ib x (gS b) = true
  case neg => simp only [if_neg hx, if_pos q0]; exact ⟨-2, ⟨_, rfl, hc, low_refl⟩, ⟨_, rfl, rsF_rEq f0⟩⟩
  simp only [if_pos hx, if_neg q1]
  obtain ⟨s, hs, rfl⟩ := ib_ex hx
  obtain ⟨M2, e2, c2, l2, k2⟩ := look_ok (N := N) hc hN
  obtain ⟨y1, y2, y3⟩ := cye c2 k2
  have w4 : ∀ y, gW (yr b y) s ≤ 4 := fun y => vb_w4 (yr_v h y) (by omega)
  have ew : ∀ y, yr b y (28 + s) = nI (gW (yr b y) s) := fun y => vb_w (yr_v h y) (by omega)
  rw [y0_8, y0_1, e2, e_bv]
  refine ⟨if wrn b s ≤ cal b then nI (wrn b s) else -1, okA_of ?_, okA_of ?_⟩
  · refine ok_m ?_
    unfold gX10_worn_24
    refine ok_for 0 (cal b + 1) (fun y t M => t = (0, nI s, nI y) ∧ M2 = M ∧ ∀ j, j < y → ¬ gW (yr b j) s = 0) (by omega) (by omega) ⟨rfl, rfl, fun j hj => absurd hj (by omega)⟩ ?_ ?_
    · rintro y t M back hy ⟨rfl, rfl, hno⟩ hb
      have wy := w4 y
      unfold bX10_worn_24
      dsimp only
      rw [y0_8, y106_3, yn_107, y1, nI_clamp (show y < 2 ^ 31 by omega), nI_clamp (show s < 2 ^ 31 by omega), y107_y (by omega), yn_row (by omega), y3 y (by omega) s (by omega), ew y, nI_1]
      refine ok_f (nI_nlt (by omega) (by omega)) (ok_t (ib_nI (by omega) (by omega)) (ok_t (ib_nI (by omega) (by omega)) (ok_if (fun z => ?_) (fun z => ?_))))
      · have z := (nI_z (by omega)).mp z
        have e : wrn b s = y := fst1_u hy (decide_eq_true z) (fun i hi => decide_eq_false (hno i hi))
        exact ok_some ⟨by rw [e, if_pos (by omega)], c2, l2⟩
      · have z : ¬ gW (yr b y) s = 0 := fun w => z ((nI_z (by omega)).mpr w)
        exact ok_m (hb _ _ ⟨rfl, rfl, fun j hj => by
          by_cases e : j = y
          · rw [e]; exact z
          · exact hno j (by omega)⟩)
    · rintro t M back ⟨rfl, rfl, hno⟩
      unfold bX10_worn_24
      dsimp only
      rw [y0_8, y1]
      have e : wrn b s = cal b + 1 := fst1_n (fun i hi => decide_eq_false (hno i hi))
      exact ok_t (nI_lt (by omega) (by omega)) (ok_some ⟨by rw [if_neg (by omega)], c2, l2⟩)
  · refine ok_bv (rY_puts (N := N) (rsF_rEq f0) hr0 hN) (fun M1 hM => ok_m ?_)
    unfold gX11_worn_17
    refine ok_lp (fun m t M => ∃ y, y ≤ cal b ∧ m = cal b - y ∧ t = (0, nI s, nI y) ∧ rY b y Mr M ∧ ∀ j, j < y → ¬ gW (yr b j) s = 0) ?_ N (cal b) _ M1 ⟨0, Nat.zero_le _, (Nat.sub_zero _).symm, rfl, hM, fun j hj => absurd hj (by omega)⟩ (by omega)
    rintro m t M back ⟨y, hy, rfl, rfl, hM, hno⟩ hb
    have wy := w4 y
    unfold bX11_worn_17
    dsimp only
    rw [yr_1, yl_1, k_28, nI_clamp (show 28 + s < 2 ^ 31 by omega), hM.1, ew y]
    refine ok_t (ib_nI (by omega) (by omega)) (ok_if (fun z => ?_) (fun z => ?_))
    · have z := (nI_le0 (by omega)).mp z
      have e : wrn b s = y := fst1_u (by omega) (decide_eq_true z) (fun i hi => decide_eq_false (hno i hi))
      unfold gX11_worn_42
      rw [yr_1, yl_1, k_28, nI_clamp (show 28 + s < 2 ^ 31 by omega), hM.1, ew y]
      refine ok_t (ib_nI (by omega) (by omega)) (ok_t ((nI_z (by omega)).mpr z) ?_)
      unfold gX11_worn_59
      exact ok_m (ok_bv (rY_out (N := N) h hr hM hN) (fun M5 h5 => ok_f q1 (ok_some ⟨by rw [e, if_pos hy], h5⟩)))
    · have z : ¬ gW (yr b y) s = 0 := fun w => z ((nI_le0 (by omega)).mpr w)
      refine ok_a (rY_ages (N := N) h hM hN) (fun M4 h4 => ok_if (fun w => ?_) (fun w => ?_))
      · have e : y = cal b := by
          apply Classical.byContradiction
          intro v
          exact zn y (by omega) w
        have e3 : wrn b s = cal b + 1 := fst1_n (fun i hi => decide_eq_false (by
          by_cases q : i = y
          · rw [q]; exact z
          · exact hno i (by omega)))
        unfold gX11_worn_42
        rw [yr_1, yl_1, k_28, nI_clamp (show 28 + s < 2 ^ 31 by omega), h4.1, yr_k, age_0 w, ew y]
        refine ok_t (ib_nI (by omega) (by omega)) (ok_f (fun q => z ((nI_z (by omega)).mp q)) ?_)
        unfold gX11_worn_59
        exact ok_m (ok_bv (rY_out (N := N) h hr h4 hN) (fun M5 h5 => ok_t q0 (ok_some ⟨by rw [e3, if_neg (by omega)], h5⟩)))
      · have e : ¬ y = cal b := fun v => w (by rw [v]; exact z0)
        rw [nI_1]
        exact ok_m (hb (cal b - (y + 1)) _ _ (by omega) ⟨y + 1, (by omega), rfl, rfl, h4, fun j hj => by
          by_cases q : j = y
          · rw [q]; exact z
          · exact hno j (by omega)⟩)
theorem q_aged {x y : Int32} (hN : 1000 ≤ N) : bth b (fX10_aged N 0 x y) (fX11_aged N 0 x y) := by
  intro Mc Mr hc hr
  have h := hc.1
  have hn := vb_n h
  have c48 := cal_48 h
  obtain ⟨M0, e0, T0, F0⟩ := r_istp (N := N) (x := y) h hr (by omega)
  have f0 := rFr_rsF F0
  have hr0 : M0.1 1 = b := (rsF_11 f0).trans hr
  unfold fX10_aged fX11_aged
  rw [c_hs hc, e_b, show (100 : Int64) = lI (((101 : Nat) : Int) - 1) from rfl, r_in (n := 101) (by omega), e_b, e0, e_b]
  by_cases hx : sg_ib x 101 = true
  case neg =>
    simp only [if_neg hx, if_pos q0]
    have hx2 : ¬ (¬ x < 0 ∧ x ≤ 100) := fun z => hx (ib101.mpr z)
    refine ⟨-2, ?_, ⟨_, rfl, rEq_refl⟩⟩
    by_cases hy : sg_ib y (gS b) = true
    · simp only [if_pos hy, if_neg q1]
      by_cases l : x < 0
      · rw [if_pos l]; exact ⟨_, rfl, hc, low_refl⟩
      · rw [if_neg l, if_neg (fun z => hx2 ⟨l, z⟩)]; exact ⟨_, rfl, hc, low_refl⟩
    · simp only [if_neg hy, if_pos q0]; exact ⟨_, rfl, hc, low_refl⟩
  have hx2 := ib101.mp hx
  simp only [if_pos hx, if_neg q1]
  by_cases hy : sg_ib y (gS b) = true
  case neg => simp only [if_neg hy, if_pos q0]; exact ⟨-2, ⟨_, rfl, hc, low_refl⟩, ⟨_, rfl, rsF_rEq f0⟩⟩
  simp only [if_pos hy, if_neg q1]
  rw [if_neg hx2.1, if_pos hx2.2]
  obtain ⟨n, hn2, rfl⟩ := ib_ex hx
  obtain ⟨s, hs, rfl⟩ := ib_ex hy
  obtain ⟨M2, e2, c2, l2, k2⟩ := look_ok (N := N) hc hN
  obtain ⟨y1, y2, y3⟩ := cye c2 k2
  have emn : (if nI (cal b) < nI n then nI (cal b) else nI n) = nI (min n (cal b)) := by
    by_cases e : cal b < n
    · rw [if_pos (nI_lt e (by omega)), Nat.min_eq_right (by omega)]
    · rw [if_neg (nI_nlt (by omega) (by omega)), Nat.min_eq_left (by omega)]
  rw [y0_8, y0_1, e2, e_bv, y106_3, yn_107, y1, emn, nI_clamp (show min n (cal b) < 2 ^ 31 by omega), y107_y (by omega), yn_row (by omega), nI_clamp (show s < 2 ^ 31 by omega), if_pos (ib_nI (by omega) (by omega)), if_pos (ib_nI (by omega) (by omega)), y3 _ (by omega) s (by omega)]
  refine ⟨_, ⟨_, rfl, c2, l2⟩, okA_of ?_⟩
  refine ok_bv (rY_puts (N := N) (rsF_rEq f0) hr0 hN) (fun M1 hM => ok_m ?_)
  unfold gX11_aged_29
  refine ok_for 0 n (fun i t M => t = (0, nI n, nI s, nI i) ∧ rY b i Mr M) (by omega) (by omega) ⟨rfl, hM⟩ ?_ ?_
  · rintro i t M back hi ⟨rfl, hM⟩ hb
    unfold bX11_aged_29
    dsimp only
    rw [nI_1]
    exact ok_f (nI_ge hi (by omega)) (ok_a (rY_ages (N := N) h hM hN) (fun M4 h4 => ok_m (hb _ _ ⟨rfl, h4⟩)))
  · rintro t M back ⟨rfl, hM⟩
    unfold bX11_aged_29
    dsimp only
    rw [yr_1, yl_1, k_28, nI_clamp (show 28 + s < 2 ^ 31 by omega), hM.1]
    refine ok_t (nI_le (Nat.le_refl _) (by omega)) (ok_t (ib_nI (by omega) (by omega)) (ok_m (ok_bv (rY_out (N := N) h hr hM hN) (fun M5 h5 => ok_some ⟨?_, h5⟩))))
    by_cases e : n ≤ cal b
    · rw [Nat.min_eq_left e]
    · rw [Nat.min_eq_right (by omega), yr_cal h n (by omega)]
end YC
