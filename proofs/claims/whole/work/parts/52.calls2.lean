/-! chief, area, worst, over, holds, loss, moves, resists -/
section C2
variable {N : Nat} {b : Nat → Int32}
def chf (b : Nat → Int32) : Nat → Option Nat := bst (fun k j => decide (gvn b j < gvn b k)) (fun v => bt (b 5) v)
theorem oI_n1 {o : Option Nat} (h : ∀ j, o = some j → j < 1000) : oI o = -1 ↔ o = none := by
  cases o with
  | none => exact ⟨fun _ => rfl, fun _ => rfl⟩
  | some j =>
    have := h j rfl
    refine ⟨fun z => ?_, fun z => by cases z⟩
    rw [show oI (some j) = nI j from rfl, qn1 (by omega)] at z
    exact z.elim
theorem q_chief (hN : 1000 ≤ N) : bth b (fX10_chief N 0) (fX11_chief N 0) := by
  intro Mc Mr hc hr
  have h := hc.1
  have hm := vb_m h
  obtain ⟨M1, e1, S1, F1⟩ := r_asks (N := N) h hr hN
  obtain ⟨M2, e2, c2, s2, f2⟩ := now_ok (N := N) hc hN
  have cl : ∀ {k j : Nat}, chf b k = some j → j < k ∧ bt (b 5) j = true := fun e => bst_lt e
  have o1 : ∀ k, k ≤ gM b → (oI (chf b k) = -1 ↔ chf b k = none) := fun k hk => oI_n1 (fun j e => by have := (cl e).1; omega)
  unfold fX10_chief fX11_chief
  rw [c_ng hc, e1, e_b, e_b, if_pos q0, if_neg q1, e2, e_b]
  refine ⟨oI (chf b (gM b)), okA_of ?_, okA_of ?_⟩
  · refine ok_m (ok_m (ok_m ?_))
    unfold gX10_chief_22
    refine ok_for 0 (gM b) (fun i s M => ∃ g, s = (0, 55, oI (chf b i), lI g, nI i) ∧ M2 = M ∧ ∀ j, chf b i = some j → g = gvn b j) (by omega) (by omega) ⟨0, rfl, rfl, fun j e => by cases e⟩ ?_ ?_
    · rintro i s M back hi ⟨g, rfl, rfl, hg⟩ hb
      have hv := gvn_b h hi
      unfold bX10_chief_22
      dsimp only
      rw [y0_1, cf5 c2, c_pad (cf7 c2) (show i < 32 by omega), e_b, c_giv K55 (c_fl c2 s2) (cI_N c2).2.2.1 (cI_N c2).2.2.2.1 hi (by omega), e_b, e_m]
      refine ok_f (nI_ge hi (by omega)) (ok_if (fun z => ?_) (fun z => ?_))
      · have z : ¬ bt (b 5) i = true := fun q => by rw [if_pos q] at z; exact absurd z q1
        refine ok_m (hb _ _ ⟨g, by rw [nI_1]; show _ = (0, 55, oI (chf b (i + 1)), _, _); rw [show chf b (i + 1) = chf b i from bst_no z], rfl, fun j e => hg j ((show chf b (i + 1) = chf b i from bst_no z) ▸ e)⟩)
      · have z : bt (b 5) i = true := by
          apply Classical.byContradiction
          intro q
          rw [if_neg q] at z
          exact z rfl
        refine ok_if (fun y => ?_) (fun y => ?_)
        · have y := (o1 i (by omega)).mp y
          have e : chf b (i + 1) = some i := bst_1 z y
          unfold gX10_chief_70
          refine ok_m (ok_m (ok_m (hb _ _ ⟨gvn b i, by rw [nI_1, e]; rfl, rfl, fun j e3 => by rw [e] at e3; cases e3; rfl⟩)))
        · cases e4 : chf b i with
          | none => exact absurd ((o1 i (by omega)).mpr e4) y
          | some j =>
            have gj := hg j e4
            have hj := gvn_b h (show j < gM b by have := (cl e4).1; omega)
            refine ok_if (fun x => ?_) (fun x => ?_)
            · have x : ¬ gvn b j < gvn b i := fun q => lg_le.mp x ((lI_lt (by omega) (by omega) (by omega) (by omega)).mpr (by omega))
              have e : chf b (i + 1) = some j := bst_3 z e4 (by rw [decide_eq_false x]; decide)
              refine ok_m (hb _ _ ⟨g, by rw [nI_1, e], rfl, fun k e3 => by rw [e] at e3; cases e3; exact gj⟩)
            · have x : gvn b j < gvn b i := by
                apply Classical.byContradiction
                intro q
                exact x (lg_le.mpr (fun y => q (by have := (lI_lt (by omega) (by omega) (by omega) (by omega)).mp y; omega)))
              have e : chf b (i + 1) = some i := bst_2 z e4 (decide_eq_true x)
              unfold gX10_chief_70
              refine ok_m (ok_m (ok_m (hb _ _ ⟨gvn b i, by rw [nI_1, e]; rfl, rfl, fun j e3 => by rw [e] at e3; cases e3; rfl⟩)))
    · rintro s M back ⟨g, rfl, rfl, hg⟩
      unfold bX10_chief_22
      dsimp only
      rw [y0_1, cf5 c2]
      exact ok_t (nI_le (Nat.le_refl _) (by omega)) (ok_some ⟨rfl, c2, nowF_low f2⟩)
  · refine ok_m (ok_m ?_)
    unfold gX11_chief_14
    refine ok_for 0 (gM b) (fun i s M => s = (0, oI (chf b i), nI i) ∧ M1 = M) (by omega) (by omega) ⟨rfl, rfl⟩ ?_ ?_
    · rintro i s M back hi ⟨rfl, rfl⟩ hb
      have hv := gvn_b h hi
      unfold bX11_chief_14
      dsimp only
      rw [r_nd h S1.2, e_b, yr_1, yl_1, c_5, S1.2, r_isOf (show i < 32 by omega), e_b]
      refine ok_f (nI_ge hi (by omega)) (ok_t (by decide) (ok_if (fun z => ?_) (fun z => ?_)))
      · have z : ¬ bt (b 5) i = true := fun q => by rw [if_pos q] at z; exact absurd z q1
        exact ok_m (hb _ _ ⟨by rw [nI_1, show chf b (i + 1) = chf b i from bst_no z], rfl⟩)
      · have z : bt (b 5) i = true := by
          apply Classical.byContradiction
          intro q
          rw [if_neg q] at z
          exact z rfl
        refine ok_if (fun y => ?_) (fun y => ?_)
        · have y := (o1 i (by omega)).mp y
          have e : chf b (i + 1) = some i := bst_1 z y
          exact ok_m (ok_m (hb _ _ ⟨by rw [nI_1, e]; rfl, rfl⟩))
        · cases e4 : chf b i with
          | none => exact absurd ((o1 i (by omega)).mpr e4) y
          | some j =>
            have hj := gvn_b h (show j < gM b by have := (cl e4).1; omega)
            rw [r_giv h S1 hi z (by omega), e_b, show oI (some j) = nI j from rfl, r_giv h S1 (by have := (cl e4).1; omega) (cl e4).2 (by omega), e_b]
            refine ok_if (fun x => ?_) (fun x => ?_)
            · have x : ¬ gvn b j < gvn b i := fun q => lg_le.mp x ((lI_lt (by omega) (by omega) (by omega) (by omega)).mpr (by omega))
              have e : chf b (i + 1) = some j := bst_3 z e4 (by rw [decide_eq_false x]; decide)
              exact ok_m (hb _ _ ⟨by rw [nI_1, e]; rfl, rfl⟩)
            · have x : gvn b j < gvn b i := by
                apply Classical.byContradiction
                intro q
                exact x (lg_le.mpr (fun y => q (by have := (lI_lt (by omega) (by omega) (by omega) (by omega)).mp y; omega)))
              have e : chf b (i + 1) = some i := bst_2 z e4 (decide_eq_true x)
              exact ok_m (ok_m (hb _ _ ⟨by rw [nI_1, e]; rfl, rfl⟩))
    · rintro s M back ⟨rfl, rfl⟩
      unfold bX11_chief_14
      dsimp only
      rw [r_nd h S1.2, e_b]
      exact ok_t (nI_le (Nat.le_refl _) (by omega)) (ok_some ⟨rfl, rsF_rEq F1⟩)
theorem tw_stop (h : vb b) : ∀ k, gS b ≤ k → k ≤ 12 → tw b k = tw b (gS b) := by
  intro k
  induction k with
  | zero => intro h1 _; rw [show gS b = 0 by omega]
  | succ k ih =>
    intro h1 h2
    by_cases e : gS b = k + 1
    · rw [e]
    · show tw b k + gW b k = _
      rw [ih (by omega) (by omega), vb_w0 h (by omega) (by omega)]
      rfl
theorem q_area (hN : 1000 ≤ N) : bth b (fX10_area N 0) (fX11_area N 0) := by
  intro Mc Mr hc hr
  have h := hc.1
  have hn := vb_n h
  unfold fX10_area fX11_area
  rw [c_ng hc, r_grd h hr, e_b, e_b, if_pos q0, if_neg q1]
  refine ⟨nI (tw b (gS b)), okA_of ?_, okA_of ?_⟩
  · refine ok_m (ok_m ?_)
    unfold gX10_area_14
    refine ok_for 0 (gS b) (fun i s M => s = (0, nI (tw b i), nI i) ∧ Mc = M) (by omega) (by omega) ⟨rfl, rfl⟩ ?_ ?_
    · rintro i s M back hi ⟨rfl, rfl⟩ hb
      unfold bX10_area_14
      dsimp only
      rw [y0_1, y13_11, yn_16, cf6 hc, nI_clamp (show i < 2 ^ 31 by omega), (cI_N hc).2.2.1 i (by omega), vb_w h (by omega), nI_add, nI_1]
      exact ok_f (nI_ge hi (by omega)) (ok_t (ib_nI (by omega) (by omega)) (ok_m (ok_m (hb _ _ ⟨rfl, rfl⟩))))
    · rintro s M back ⟨rfl, rfl⟩
      unfold bX10_area_14
      dsimp only
      rw [y0_1, cf6 hc]
      exact ok_t (nI_le (Nat.le_refl _) (by omega)) (ok_some ⟨rfl, hc, low_refl⟩)
  · refine ok_m (ok_m ?_)
    unfold gX11_area_14
    refine ok_for 0 12 (fun i s M => s = (0, nI (tw b i), nI i) ∧ Mr = M) (by omega) (by omega) ⟨rfl, rfl⟩ ?_ ?_
    · rintro i s M back hi ⟨rfl, rfl⟩ hb
      unfold bX11_area_14
      dsimp only
      rw [yr_1, yl_1, k_28, nI_clamp (show 28 + i < 2 ^ 31 by omega), hr, vb_w h (by omega), nI_add, nI_1]
      exact ok_f (show ¬ nI 12 ≤ nI i from nI_ge hi (by omega)) (ok_t (ib_nI (by omega) (by omega)) (ok_m (ok_m (hb _ _ ⟨rfl, rfl⟩))))
    · rintro s M back ⟨rfl, rfl⟩
      unfold bX11_area_14
      dsimp only
      exact ok_t (by decide) (ok_some ⟨by rw [tw_stop h 12 hn (by omega)], rEq_refl⟩)
/-- the first of the greatest -/
def wst (b : Nat → Int32) : Nat → Option Nat := bst (fun k j => decide (bX b j < bX b k)) (fun v => !bt (bQ b) v)
theorem bst_max {f : Nat → Int} {p : Nat → Bool} : ∀ n, (bst (fun k j => decide (f j < f k)) p n = none → ∀ i, i < n → p i = false) ∧ ∀ j, bst (fun k j => decide (f j < f k)) p n = some j → (∀ i, i < n → p i = true → f i ≤ f j) ∧ ∀ i, i < j → p i = true → f i < f j := by
  intro n
  induction n with
  | zero => exact ⟨fun _ i h => absurd h (by omega), fun j e => by cases e⟩
  | succ n ih =>
    by_cases q : p n = true
    · cases e : bst (fun k j => decide (f j < f k)) p n with
      | none =>
        have e1 := bst_1 (lt := fun k j => decide (f j < f k)) q e
        rw [e1]
        have hno := ih.1 e
        refine ⟨(fun z => by cases z), fun j z => ?_⟩
        cases z
        refine ⟨fun i hi hp => ?_, fun i hi hp => ?_⟩
        · by_cases z : i = n
          · subst z; omega
          · rw [hno i (by omega)] at hp; cases hp
        · rw [hno i hi] at hp; cases hp
      | some k =>
        obtain ⟨h1, h2⟩ := ih.2 k e
        have hk := (bst_lt e).1
        by_cases l : f k < f n
        · have e1 := bst_2 (lt := fun k j => decide (f j < f k)) q e (decide_eq_true l)
          rw [e1]
          refine ⟨(fun z => by cases z), fun j z => ?_⟩
          cases z
          refine ⟨fun i hi hp => ?_, fun i hi hp => ?_⟩
          · by_cases z : i = n
            · subst z; omega
            · have := h1 i (by omega) hp; omega
          · have := h1 i hi hp; omega
        · have e1 := bst_3 (lt := fun k j => decide (f j < f k)) q e (by rw [decide_eq_false l]; decide)
          rw [e1]
          refine ⟨(fun z => by cases z), fun j z => ?_⟩
          cases z
          refine ⟨fun i hi hp => ?_, h2⟩
          by_cases z : i = n
          · subst z; omega
          · exact h1 i (by omega) hp
    · have e1 := bst_no (lt := fun k j => decide (f j < f k)) q
      rw [e1]
      refine ⟨fun z i hi => ?_, fun j z => ⟨fun i hi hp => ?_, (ih.2 j z).2⟩⟩
      · by_cases y : i = n
        · subst y; simpa using q
        · exact ih.1 z i (by omega)
      · by_cases y : i = n
        · subst y; exact absurd hp q
        · exact (ih.2 j z).1 i (by omega) hp
theorem dead_0 (h : vb b) {v : Nat} (hv : v < gM b) (hd : bt (bQ b) v = true) : bX b v = 0 := by
  show xN _ _ _ _ _ _ = 0
  have : bt (bQ b) v = !bt (clo (gC b) (gR b) (gW b) 9 (b 5)) v := bt_dead h.1 hv
  rw [this] at hd
  unfold xN unk
  rw [show bt (clo (gC b) (gR b) (gW b) 9 (b 5)) v = false by simpa using hd]
  rfl
theorem mx_le : ∀ k v, v < k → bX b v ≤ mxX (gC b) (gR b) (gW b) (b 5) (gL b) k := by
  intro k
  induction k with
  | zero => intro v h; omega
  | succ k ih =>
    intro v hv
    unfold mxX
    by_cases q : xN (gC b) (gR b) (gW b) (b 5) (gL b) k < mxX (gC b) (gR b) (gW b) (b 5) (gL b) k
    · rw [if_pos q]
      by_cases e : v = k
      · subst e
        have : bX b v < _ := q
        omega
      · exact ih v (by omega)
    · rw [if_neg q]
      by_cases e : v = k
      · subst e; exact Int.le_refl _
      · have := ih v (by omega)
        omega
theorem mx_at (h : vb b) : ∀ k, k ≤ gM b → mxX (gC b) (gR b) (gW b) (b 5) (gL b) k = 0 ∨ ∃ v, v < k ∧ bX b v = mxX (gC b) (gR b) (gW b) (b 5) (gL b) k := by
  intro k
  induction k with
  | zero => intro _; exact Or.inl rfl
  | succ k ih =>
    intro hk
    unfold mxX
    by_cases q : xN (gC b) (gR b) (gW b) (b 5) (gL b) k < mxX (gC b) (gR b) (gW b) (b 5) (gL b) k
    · rw [if_pos q]
      rcases ih (by omega) with z | ⟨v, h1, h2⟩
      · exact Or.inl z
      · exact Or.inr ⟨v, (by omega), h2⟩
    · rw [if_neg q]
      exact Or.inr ⟨k, (by omega), rfl⟩
theorem wst_mx (h : vb b) {j : Nat} (e : wst b (gM b) = some j) : bX b j = bMx b := by
  obtain ⟨h1, h2⟩ := bst_lt e
  have hx := bX_b h h1
  have hl : bX b j ≤ bMx b := mx_le (gM b) j h1
  rcases mx_at h (gM b) (Nat.le_refl _) with z | ⟨v, hv, z⟩
  · have z : bMx b = 0 := z
    omega
  · have z : bX b v = bMx b := z
    by_cases q : bt (bQ b) v = true
    · have := dead_0 h hv q
      omega
    · have := ((bst_max (gM b)).2 j e).1 v hv (by simpa using q)
      omega
theorem q_worst (hN : 1000 ≤ N) : bth b (fX10_worst N 0) (fX11_worst N 0) := by
  intro Mc Mr hc hr
  have h := hc.1
  have hm := vb_m h
  obtain ⟨M1, e1, S1, F1⟩ := r_asks (N := N) h hr hN
  obtain ⟨M2, e2, c2, s2, f2⟩ := now_ok (N := N) hc hN
  have o1 : ∀ k, k ≤ gM b → (oI (wst b k) = -1 ↔ wst b k = none) := fun k hk => oI_n1 (fun j e => by have := (bst_lt e).1; omega)
  have hmx := bMx_b h
  unfold fX10_worst fX11_worst
  rw [c_ng hc, e1, e_b, e_b, if_pos q0, if_neg q1, e2, e_b]
  refine ⟨oI (wst b (gM b)), okA_of ?_, okA_of ?_⟩
  · refine ok_m (ok_m (ok_m ?_))
    unfold gX10_worst_22
    refine ok_for 0 (gM b) (fun i s M => ∃ g, s = (0, 55, oI (wst b i), lI g, nI i) ∧ M2 = M ∧ ∀ j, wst b i = some j → g = bX b j) (by omega) (by omega) ⟨0, rfl, rfl, fun j e => by cases e⟩ ?_ ?_
    · rintro i s M back hi ⟨g, rfl, rfl, hg⟩ hb
      have hv := bX_b h hi
      unfold bX10_worst_22
      dsimp only
      rw [y0_1, cf5 c2, c_dd s2 (show i < 32 by omega), e_b, y55_2, yn_56, nI_clamp (show i < 2 ^ 31 by omega), b_ab c2 s2 hi]
      refine ok_f (nI_ge hi (by omega)) (ok_if (fun z => ?_) (fun z => ?_))
      · have z : (!bt (bQ b) i) = true := by
          cases q : bt (bQ b) i with
          | false => rfl
          | true => rw [if_pos q] at z; exact absurd z q1
        have up : wst b (i + 1) = some i → ok (gX10_worst_60 N back 0 55 (nI i) M2) (fun res => res.1 = oI (wst b (gM b)) ∧ cI b res.2 ∧ low Mc res.2) := fun e => by
          unfold gX10_worst_60
          rw [y55_2, yn_56, nI_clamp (show i < 2 ^ 31 by omega), b_ab c2 s2 hi]
          exact ok_m (ok_t (ib_nI (by omega) (by omega)) (ok_m (ok_m (hb _ _ ⟨bX b i, by rw [nI_1, e]; rfl, rfl, fun j e3 => by rw [e] at e3; cases e3; rfl⟩))))
        refine ok_if (fun y => ?_) (fun y => ?_)
        · exact up (bst_1 z ((o1 i (by omega)).mp y))
        · cases e4 : wst b i with
          | none => exact absurd ((o1 i (by omega)).mpr e4) y
          | some j =>
            have gj := hg j e4
            have hj := bX_b h (show j < gM b by have := (bst_lt e4).1; omega)
            refine ok_t (ib_nI (by omega) (by omega)) (ok_if (fun x => ?_) (fun x => ?_))
            · have x : ¬ bX b j < bX b i := fun q => lg_le.mp x ((lI_lt (by omega) (by omega) (by omega) (by omega)).mpr (by omega))
              have e : wst b (i + 1) = some j := bst_3 z e4 (by rw [decide_eq_false x]; decide)
              refine ok_m (hb _ _ ⟨g, by rw [nI_1, e], rfl, fun k e3 => by rw [e] at e3; cases e3; exact gj⟩)
            · have x : bX b j < bX b i := by
                apply Classical.byContradiction
                intro q
                exact x (lg_le.mpr (fun y => q (by have := (lI_lt (by omega) (by omega) (by omega) (by omega)).mp y; omega)))
              exact up (bst_2 z e4 (decide_eq_true x))
      · have z : ¬ (!bt (bQ b) i) = true := fun q => by
          rw [if_neg (by simpa using q)] at z
          exact z rfl
        have e : wst b (i + 1) = wst b i := bst_no z
        exact ok_m (hb _ _ ⟨g, by rw [nI_1, e], rfl, fun j e3 => hg j (e ▸ e3)⟩)
    · rintro s M back ⟨g, rfl, rfl, hg⟩
      unfold bX10_worst_22
      dsimp only
      rw [y0_1, cf5 c2]
      exact ok_t (nI_le (Nat.le_refl _) (by omega)) (ok_some ⟨rfl, c2, nowF_low f2⟩)
  · refine ok_m ?_
    unfold gX11_worst_12
    refine ok_for 0 (gM b) (fun i s M => s = (0, nI i) ∧ M1 = M ∧ ∀ j, j < i → bt (bQ b) j = false → bX b j ≠ bMx b) (by omega) (by omega) ⟨rfl, rfl, fun j hj => absurd hj (by omega)⟩ ?_ ?_
    · rintro i s M back hi ⟨rfl, rfl, hno⟩ hb
      have hv := bX_b h hi
      unfold bX11_worst_12
      dsimp only
      rw [r_nd h S1.2, e_b, r_dd S1 (show i < 32 by omega), e_b, r_drp h S1 hi (by omega), e_b, r_mst h S1 (by omega), e_b]
      refine ok_f (nI_ge hi (by omega)) (ok_if (fun z => ?_) (fun z => ?_))
      · have z : bt (bQ b) i = false := by
          cases q : bt (bQ b) i with
          | false => rfl
          | true => rw [if_pos q] at z; exact absurd z q1
        refine ok_if (fun y => ?_) (fun y => ?_)
        · have y := (lI_eq (by omega) (by omega) (by omega) (by omega)).mp (lg0.mp y)
          refine ok_some ⟨?_, rsF_rEq F1⟩
          cases e : wst b (gM b) with
          | none =>
            have := (bst_max (gM b)).1 e i hi
            rw [z] at this
            cases this
          | some j =>
            obtain ⟨h1, h2⟩ := (bst_max (gM b)).2 j e
            have ej := wst_mx h e
            have hjl := bst_lt e
            have : ¬ j < i := fun q => hno j q (by simpa using hjl.2) ej
            have : ¬ i < j := fun q => by
              have := h2 i q (by rw [z]; rfl)
              omega
            have : i = j := by omega
            rw [this]
            rfl
        · have y : bX b i ≠ bMx b := fun q => y (lg0.mpr (by rw [q]))
          exact ok_m (hb _ _ ⟨by rw [nI_1], rfl, fun j hj hd => by
            by_cases e : j = i
            · rw [e]; exact y
            · exact hno j (by omega) hd⟩)
      · have z : bt (bQ b) i = true := by
          apply Classical.byContradiction
          intro q
          rw [if_neg q] at z
          exact z rfl
        exact ok_m (hb _ _ ⟨by rw [nI_1], rfl, fun j hj hd => by
            by_cases e : j = i
            · rw [e, z] at hd; cases hd
            · exact hno j (by omega) hd⟩)
    · rintro s M back ⟨rfl, rfl, hno⟩
      unfold bX11_worst_12
      dsimp only
      rw [r_nd h S1.2, e_b]
      refine ok_t (nI_le (Nat.le_refl _) (by omega)) (ok_some ⟨?_, rsF_rEq F1⟩)
      cases e : wst b (gM b) with
      | none => rfl
      | some j =>
        have hjl := bst_lt e
        exact absurd (wst_mx h e) (hno j hjl.1 (by simpa using hjl.2))
def ovr (b : Nat → Int32) : Nat → Int32
  | 0 => 0
  | k + 1 => ovr b k ||| (if (gT b : Int) * bD b < bX b k then bi k else 0)
theorem q_over (hN : 1000 ≤ N) : bth b (fX10_over N 0) (fX11_over N 0) := by
  intro Mc Mr hc hr
  have h := hc.1
  have hm := vb_m h
  have hT := vb_T h
  have hmt := mulT_b hT (bD_b h)
  obtain ⟨M1, e1, S1, F1⟩ := r_asks (N := N) h hr hN
  obtain ⟨M2, e2, c2, s2, f2⟩ := now_ok (N := N) hc hN
  unfold fX10_over fX11_over
  rw [c_ng hc, e1, e_b, e_b, if_pos q0, if_neg q1, e2, e_b]
  have st : ∀ i, ovr b (i + 1) = ovr b i ||| (if (gT b : Int) * bD b < bX b i then bi i else 0) := fun _ => rfl
  refine ⟨ovr b (gM b), okA_of ?_, okA_of ?_⟩
  · refine ok_m (ok_m ?_)
    unfold gX10_over_19
    refine ok_for 0 (gM b) (fun i s M => s = (0, 55, ovr b i, nI i) ∧ M2 = M) (by omega) (by omega) ⟨rfl, rfl⟩ ?_ ?_
    · rintro i s M back hi ⟨rfl, rfl⟩ hb
      have hv := bX_b h hi
      unfold bX10_over_19
      dsimp only
      rw [y0_1, cf5 c2, y55_2, yn_56, nI_clamp (show i < 2 ^ 31 by omega), b_ab c2 s2 hi, (cI_N c2).1.2.2.1, vb_2 h, c_be s2, lI_nI (by omega), lI_mul, nI_1]
      refine ok_f (nI_ge hi (by omega)) (ok_t (ib_nI (by omega) (by omega)) (ok_if (fun z => ?_) (fun z => ?_)))
      · have z : ¬ (gT b : Int) * bD b < bX b i := fun q => lg_le.mp z ((lI_lt (by omega) (by omega) (by omega) (by omega)).mpr q)
        exact ok_m (hb _ _ ⟨by rw [st, if_neg z, Int32.or_zero], rfl⟩)
      · have z : (gT b : Int) * bD b < bX b i := by
          apply Classical.byContradiction
          intro q
          exact z (lg_le.mpr (fun y => q ((lI_lt (by omega) (by omega) (by omega) (by omega)).mp y)))
        exact ok_m (ok_m (hb _ _ ⟨by rw [st, if_pos z]; rfl, rfl⟩))
    · rintro s M back ⟨rfl, rfl⟩
      unfold bX10_over_19
      dsimp only
      rw [y0_1, cf5 c2]
      exact ok_t (nI_le (Nat.le_refl _) (by omega)) (ok_some ⟨rfl, c2, nowF_low f2⟩)
  · refine ok_m (ok_m ?_)
    unfold gX11_over_14
    refine ok_for 0 (gM b) (fun i s M => s = (0, ovr b i, nI i) ∧ M1 = M) (by omega) (by omega) ⟨rfl, rfl⟩ ?_ ?_
    · rintro i s M back hi ⟨rfl, rfl⟩ hb
      have hv := bX_b h hi
      unfold bX11_over_14
      dsimp only
      rw [r_nd h S1.2, e_b, r_drp h S1 hi (by omega), e_b, yr_1, yl_1, c_2, S1.2, vb_2 h, r_whole S1, lI_nI (by omega), lI_mul, nI_1]
      refine ok_f (nI_ge hi (by omega)) (ok_t (by decide) (ok_if (fun z => ?_) (fun z => ?_)))
      · have z : ¬ (gT b : Int) * bD b < bX b i := fun q => lg_le.mp z ((lI_lt (by omega) (by omega) (by omega) (by omega)).mpr q)
        exact ok_m (ok_m (hb _ _ ⟨by rw [st, if_neg z], rfl⟩))
      · have z : (gT b : Int) * bD b < bX b i := by
          apply Classical.byContradiction
          intro q
          exact z (lg_le.mpr (fun y => q ((lI_lt (by omega) (by omega) (by omega) (by omega)).mp y)))
        exact ok_m (ok_m (hb _ _ ⟨by rw [st, if_pos z]; rfl, rfl⟩))
    · rintro s M back ⟨rfl, rfl⟩
      unfold bX11_over_14
      dsimp only
      rw [r_nd h S1.2, e_b]
      exact ok_t (nI_le (Nat.le_refl _) (by omega)) (ok_some ⟨rfl, rsF_rEq F1⟩)
theorem q_holds (hN : 1000 ≤ N) : bth b (fX10_holds N 0) (fX11_holds N 0) := by
  intro Mc Mr hc hr
  have h := hc.1
  obtain ⟨M1, e1, S1, F1⟩ := r_hold (N := N) h hr hN
  obtain ⟨M2, e2, c2, s2, f2⟩ := now_ok (N := N) hc hN
  unfold fX10_holds fX11_holds
  rw [c_ng hc, r_grd h hr, e_b, e_b, if_pos q0, if_neg q1, e1, e2, e_b, e_b, y0_1, y55_3, (cI_N c2).1.2.2.1, vb_2 h, c_hold (f := 55) h s2, e_b]
  by_cases z : hold b = true
  · simp only [if_pos z, if_neg q1]
    exact ⟨_, ⟨_, rfl, c2, nowF_low f2⟩, ⟨_, rfl, rsF_rEq F1⟩⟩
  · simp only [if_neg z, if_pos q0]
    exact ⟨_, ⟨_, rfl, c2, nowF_low f2⟩, ⟨_, rfl, rsF_rEq F1⟩⟩
def lss (b : Nat → Int32) (v : Nat) : Int := (gL b v : Int) * bX b v
theorem lss_b (h : vb b) {v : Nat} (hv : v < gM b) : 0 ≤ lss b v ∧ lss b v ≤ 1873000267776 := by
  have hm := vb_m h
  have hx := bX_b h hv
  have hl := vb_l99 h (show v < 9 by omega)
  unfold lss
  exact ⟨Int.mul_nonneg (by omega) hx.1, Int.le_trans (Int.mul_le_mul (show (gL b v : Int) ≤ 99 by omega) hx.2 hx.1 (by omega)) (by omega)⟩
theorem q_loss {y : Int32} (hN : 1000 ≤ N) : bth b (fX10_loss N 0 y) (fX11_loss N 0 y) := by
  intro Mc Mr hc hr
  have h := hc.1
  have hm := vb_m h
  have hd := bD_b h
  unfold fX10_loss fX11_loss
  rw [c_ng hc, e_b, if_pos q0, c_isPart, r_isPart, e_b, e_b]
  by_cases hy : sg_ib y 2 = true
  case neg => simp only [if_neg hy, if_pos q0]; exact ⟨-2, ⟨_, rfl, hc, low_refl⟩, ⟨_, rfl, rEq_refl⟩⟩
  simp only [if_pos hy, if_neg q1]
  obtain ⟨M1, e1, S1, F1⟩ := r_asks (N := N) h hr hN
  obtain ⟨M2, e2, c2, s2, f2⟩ := now_ok (N := N) hc hN
  rw [e1, e2, e_b, e_b, if_neg q1]
  have tot := fs_bd (n := gM b) (g := lss b) (B := 1873000267776) (fun i hi => lss_b h hi)
  have t2 : (gM b : Int) * 1873000267776 ≤ 9 * 1873000267776 := Int.mul_le_mul_of_nonneg_right (by omega) (by omega)
  refine ⟨pt (fs (gM b) (lss b)) (bD b) y, okA_of ?_, okA_of ?_⟩
  · refine ok_m (ok_m ?_)
    unfold gX10_loss_28
    refine ok_for 0 (gM b) (fun i s M => s = (0, y, 55, lI (fs i (lss b)), nI i) ∧ M2 = M) (by omega) (by omega) ⟨rfl, rfl⟩ ?_ ?_
    · rintro i s M back hi ⟨rfl, rfl⟩ hb
      unfold bX10_loss_28
      dsimp only
      have hl := vb_l99 h (show i < 9 by omega)
      rw [y0_1, y13_12, yn_17, cf5 c2, y55_2, yn_56, nI_clamp (show i < 2 ^ 31 by omega), b_ab c2 s2 hi, (cI_N c2).2.2.2.1 i (by omega), vb_l h (by omega), lI_nI (by omega), lI_mul, lI_add, nI_1]
      exact ok_f (nI_ge hi (by omega)) (ok_t (ib_nI (by omega) (by omega)) (ok_t (ib_nI (by omega) (by omega)) (ok_m (ok_m (hb _ _ ⟨rfl, rfl⟩)))))
    · rintro s M back ⟨rfl, rfl⟩
      unfold bX10_loss_28
      dsimp only
      rw [y0_1, cf5 c2, c_be s2, c_part (by omega) (by omega) (by omega)]
      exact ok_t (nI_le (Nat.le_refl _) (by omega)) (ok_some ⟨rfl, c2, nowF_low f2⟩)
  · refine ok_m (ok_m ?_)
    unfold gX11_loss_23
    refine ok_for 0 (gM b) (fun i s M => s = (0, y, lI (fs i (lss b)), nI i) ∧ M1 = M) (by omega) (by omega) ⟨rfl, rfl⟩ ?_ ?_
    · rintro i s M back hi ⟨rfl, rfl⟩ hb
      unfold bX11_loss_23
      dsimp only
      have hl := vb_l99 h (show i < 9 by omega)
      rw [r_nd h S1.2, e_b, r_drp h S1 hi (by omega), e_b, yr_1, yl_1, k_6, nI_clamp (show 6 + i < 2 ^ 31 by omega), S1.2, vb_l h (by omega), lI_nI (by omega), lI_mul, lI_add, nI_1]
      exact ok_f (nI_ge hi (by omega)) (ok_t (ib_nI (by omega) (by omega)) (ok_m (ok_m (hb _ _ ⟨rfl, rfl⟩))))
    · rintro s M back ⟨rfl, rfl⟩
      unfold bX11_loss_23
      dsimp only
      rw [r_nd h S1.2, e_b, r_whole S1, r_part (by omega) (by omega) (by omega)]
      exact ok_t (nI_le (Nat.le_refl _) (by omega)) (ok_some ⟨rfl, rsF_rEq F1⟩)
end C2
