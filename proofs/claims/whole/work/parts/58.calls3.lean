/-! the worst within bounds -/
section C3
variable {N : Nat} {b : Nat → Int32}
theorem fr87 {M M1 : sg_M} (h : cI b M) (hf : fr 87 106 M M1) : cI b M1 ∧ low M M1 := ⟨cI_tr h (fun a k h1 _ => hf a k (by omega)), fun a k h1 _ => (hf a k (by omega)).1⟩
theorem mstb (h : vb b) {u : Nat} (hu : u < gM b) : 0 ≤ mst b u ∧ mst b u ≤ 18919194624 := mst_b h hu (ol_9 h)
theorem q_most {x y : Int32} (hN : 1000 ≤ N) : bth b (fX10_most N 0 x y) (fX11_most N 0 x y) := by
  intro Mc Mr hc hr
  have h := hc.1
  have hm := vb_m h
  have hd := bD_b h
  unfold fX10_most fX11_most
  rw [c_hn hc, r_nod h hr, e_b, e_b]
  by_cases hx : sg_ib x (gM b) = true
  case neg => simp only [if_neg hx, if_pos q0]; exact ⟨-2, ⟨_, rfl, hc, low_refl⟩, ⟨_, rfl, rEq_refl⟩⟩
  simp only [if_pos hx, if_neg q1]
  rw [c_isPart, r_isPart, e_b, e_b]
  by_cases hy : sg_ib y 2 = true
  case neg => simp only [if_neg hy, if_pos q0]; exact ⟨-2, ⟨_, rfl, hc, low_refl⟩, ⟨_, rfl, rEq_refl⟩⟩
  simp only [if_pos hy, if_neg q1]
  obtain ⟨u, hu, rfl⟩ := ib_ex hx
  obtain ⟨M1, e1, S1, F1⟩ := r_lay (N := N) h hr hN
  obtain ⟨M2, e2, c2, s2, f2⟩ := now_ok (N := N) hc hN
  rw [e1, e2, e_b, e_bv, c_dd s2 (show u < 32 by omega), r_dd S1 (show u < 32 by omega), e_b, e_b]
  by_cases d1 : bt (bQ b) u = true
  · simp only [if_pos d1, if_neg q1]
    exact ⟨_, ⟨_, rfl, c2, nowF_low f2⟩, ⟨_, rfl, rsF_rEq F1⟩⟩
  simp only [if_neg d1, if_pos q0, if_true]
  obtain ⟨M3, e3, B3, F3⟩ := drawAgainst_ok (N := N) c2 hu hN
  obtain ⟨c3, l3⟩ := fr87 c2 F3
  obtain ⟨M4, e4, F4⟩ := mostOf_ok (N := N) h S1 hu hN
  have S4 := rS_rd S1 F4
  have hb := mstb h hu
  rw [y0_7, y0_1, e3, e4, e_b, e_bv, show M3.2 87 0 = lI (mst b u) from B3.2.2.1, B3.2.2.2, r_whole S4, c_part (by omega) (by omega) (by omega), r_part (by omega) (by omega) (by omega)]
  exact ⟨_, ⟨_, rfl, c3, low_tr (nowF_low f2) l3⟩, ⟨_, rfl, rEq_tr (rsF_rEq F1) (rdF_rEq F4)⟩⟩
theorem q_drawn {x y : Int32} (hN : 1000 ≤ N) : bth b (fX10_drawn N 0 x y) (fX11_drawn N 0 x y) := by
  intro Mc Mr hc hr
  have h := hc.1
  have hm := vb_m h
  unfold fX10_drawn fX11_drawn
  rw [c_hn hc, r_nod h hr, e_b, e_b]
  by_cases hx : sg_ib x (gM b) = true
  case neg => simp only [if_neg hx, if_pos q0]; exact ⟨-2, ⟨_, rfl, hc, low_refl⟩, ⟨_, rfl, rEq_refl⟩⟩
  simp only [if_pos hx, if_neg q1]
  rw [c_hn hc, r_nod h hr, e_b, e_b]
  by_cases hy : sg_ib y (gM b) = true
  case neg => simp only [if_neg hy, if_pos q0]; exact ⟨-2, ⟨_, rfl, hc, low_refl⟩, ⟨_, rfl, rEq_refl⟩⟩
  simp only [if_pos hy, if_neg q1]
  obtain ⟨u, hu, rfl⟩ := ib_ex hx
  obtain ⟨v, hv, rfl⟩ := ib_ex hy
  obtain ⟨M1, e1, S1, F1⟩ := r_lay (N := N) h hr hN
  obtain ⟨M2, e2, c2, s2, f2⟩ := now_ok (N := N) hc hN
  rw [e1, e2, e_b, e_bv, c_dd s2 (show u < 32 by omega), r_dd S1 (show u < 32 by omega), e_b, e_b]
  by_cases d1 : bt (bQ b) u = true
  · simp only [if_pos d1, if_neg q1]
    exact ⟨_, ⟨_, rfl, c2, nowF_low f2⟩, ⟨_, rfl, rsF_rEq F1⟩⟩
  simp only [if_neg d1, if_pos q0, if_true]
  obtain ⟨M3, e3, B3, F3⟩ := drawAgainst_ok (N := N) c2 hu hN
  obtain ⟨c3, l3⟩ := fr87 c2 F3
  obtain ⟨M4, e4, L4, D4, F4⟩ := draws_ok (N := N) h S1 hu hN
  rw [y0_7, y0_1, e3, e4, e_bv, e_bv, y87_2, yn_88, yr_28, yl_13, if_pos (ib_nI (by omega) (by omega)), if_pos (ib_nI (by omega) (by omega)), nI_clamp (show v < 2 ^ 31 by omega), B3.2.1 v (by omega), D4 v hv]
  exact ⟨_, ⟨_, rfl, c3, low_tr (nowF_low f2) l3⟩, ⟨_, rfl, rEq_tr (rsF_rEq F1) (rdF_rEq F4)⟩⟩
def tgt (lf : Nat → Nat) : Nat → Int32
  | 0 => 0
  | k + 1 => tgt lf k ||| (if lf k = 0 then bi k else 0)
theorem q_tight {x : Int32} (hN : 1000 ≤ N) : bth b (fX10_tight N 0 x) (fX11_tight N 0 x) := by
  intro Mc Mr hc hr
  have h := hc.1
  have hm := vb_m h
  unfold fX10_tight fX11_tight
  rw [c_hn hc, r_nod h hr, e_b, e_b]
  by_cases hx : sg_ib x (gM b) = true
  case neg => simp only [if_neg hx, if_pos q0]; exact ⟨-2, ⟨_, rfl, hc, low_refl⟩, ⟨_, rfl, rEq_refl⟩⟩
  simp only [if_pos hx, if_neg q1]
  obtain ⟨u, hu, rfl⟩ := ib_ex hx
  obtain ⟨M1, e1, S1, F1⟩ := r_lay (N := N) h hr hN
  obtain ⟨M2, e2, c2, s2, f2⟩ := now_ok (N := N) hc hN
  rw [e1, e2, e_b, e_bv, c_dd s2 (show u < 32 by omega), r_dd S1 (show u < 32 by omega), e_b, e_b]
  by_cases d1 : bt (bQ b) u = true
  · simp only [if_pos d1, if_neg q1]
    exact ⟨_, ⟨_, rfl, c2, nowF_low f2⟩, ⟨_, rfl, rsF_rEq F1⟩⟩
  simp only [if_neg d1, if_pos q0, if_true]
  obtain ⟨M3, e3, B3, F3⟩ := drawAgainst_ok (N := N) c2 hu hN
  obtain ⟨c3, l3⟩ := fr87 c2 F3
  obtain ⟨M4, e4, L4, D4, F4⟩ := draws_ok (N := N) h S1 hu hN
  rw [y0_7, y0_1, e3, e4, e_bv, e_bv]
  have b9 := (drs_b h (ol b u) (ol_9 h)).1
  refine ⟨tgt (drs b (ol b u)).1 4, okA_of ?_, okA_of ?_⟩
  · refine ok_m (ok_m ?_)
    unfold gX10_tight_40
    refine ok_for 0 4 (fun i s M => s = (0, tgt (drs b (ol b u)).1 i, nI i) ∧ M3 = M) (by omega) (by omega) ⟨rfl, rfl⟩ ?_ ?_
    · rintro i s M back hi ⟨rfl, rfl⟩ hb
      have := b9 i hi
      unfold bX10_tight_40
      dsimp only
      rw [y0_7, y87_3, yn_89, nI_clamp (show i < 2 ^ 31 by omega), B3.1 i hi, nI_1]
      refine ok_f (show ¬ nI 4 ≤ nI i from nI_ge hi (by omega)) (ok_t (ib_nI (by omega) (by omega)) (ok_if (fun z => ?_) (fun z => ?_)))
      · exact ok_m (ok_m (hb _ _ ⟨by show _ = (0, tgt _ i ||| _, _); rw [if_pos ((nI_z (by omega)).mp z)]; rfl, rfl⟩))
      · exact ok_m (hb _ _ ⟨by show _ = (0, tgt _ i ||| _, _); rw [if_neg (fun q => z ((nI_z (by omega)).mpr q)), Int32.or_zero], rfl⟩)
    · rintro s M back ⟨rfl, rfl⟩
      unfold bX10_tight_40
      dsimp only
      exact ok_t (by decide) (ok_some ⟨rfl, c3, low_tr (nowF_low f2) l3⟩)
  · refine ok_m (ok_m ?_)
    unfold gX11_tight_34
    refine ok_for 0 4 (fun i s M => s = (0, tgt (drs b (ol b u)).1 i, nI i) ∧ M4 = M) (by omega) (by omega) ⟨rfl, rfl⟩ ?_ ?_
    · rintro i s M back hi ⟨rfl, rfl⟩ hb
      have := b9 i hi
      unfold bX11_tight_34
      dsimp only
      rw [yr_29, yl_14, nI_clamp (show i < 2 ^ 31 by omega), L4 i hi, nI_1]
      refine ok_f (show ¬ nI 4 ≤ nI i from nI_ge hi (by omega)) (ok_t (ib_nI (by omega) (by omega)) (ok_if (fun z => ?_) (fun z => ?_)))
      · exact ok_m (ok_m (hb _ _ ⟨by show _ = (0, tgt _ i ||| _, _); rw [if_pos ((nI_z (by omega)).mp z)]; rfl, rfl⟩))
      · exact ok_m (ok_m (hb _ _ ⟨by show _ = (0, tgt _ i ||| _, _); rw [if_neg (fun q => z ((nI_z (by omega)).mpr q))], rfl⟩))
    · rintro s M back ⟨rfl, rfl⟩
      unfold bX11_tight_34
      dsimp only
      exact ok_t (by decide) (ok_some ⟨rfl, rEq_tr (rsF_rEq F1) (rdF_rEq F4)⟩)
def foeS (b : Nat → Int32) : Nat → Option Nat := bst (fun k j => decide (mst b j < mst b k)) (aliv b)
theorem alv {i : Nat} {z : Int32} (hz : z = if bt (bQ b) i = true then 1 else 0) : (z = 0 → aliv b i = true) ∧ (¬ z = 0 → ¬ aliv b i = true) := by
  subst hz
  unfold aliv
  cases bt (bQ b) i
  · exact ⟨fun _ => rfl, fun z => absurd rfl z⟩
  · exact ⟨fun z => absurd z q1, fun _ => by decide⟩
set_option maxHeartbeats 1000000 in
theorem q_foe (hN : 1000 ≤ N) : bth b (fX10_foe N 0) (fX11_foe N 0) := by
  intro Mc Mr hc hr
  have h := hc.1
  have hm := vb_m h
  have hd := bD_b h
  obtain ⟨M1, e1, S1, F1⟩ := r_asks (N := N) h hr hN
  have o1 : ∀ k, k ≤ gM b → (oI (foeS b k) = -1 ↔ foeS b k = none) := fun k hk => oI_n1 (fun j e => by have := (bst_lt e).1; omega)
  have mb : ∀ u, u < gM b → 0 ≤ mst b u * bD b ∧ mst b u * bD b ≤ 3213790574450671616 := fun u hu => by
    have := mstb h hu
    exact ⟨Int.mul_nonneg this.1 (by omega), Int.le_trans (Int.mul_le_mul this.2 hd.2 (by omega) (by omega)) (by omega)⟩
  have cm : ∀ u v, u < gM b → v < gM b → (mst b u < mst b v ↔ mst b u * bD b < mst b v * bD b) := fun u v _ _ => by
    constructor
    · intro z; exact Int.mul_lt_mul_of_pos_right z hd.1
    · intro z; exact Int.lt_of_mul_lt_mul_right z (by omega)
  unfold fX10_foe fX11_foe
  rw [c_ng hc, e1, e_b, e_b, if_pos q0, if_neg q1]
  refine ⟨oI (foeS b (gM b)), okA_of ?_, okA_of ?_⟩
  · refine ok_m (ok_m (ok_m (ok_m ?_)))
    unfold gX10_foe_20
    refine ok_for 0 (gM b) (fun i s M => ∃ g e, s = (0, oI (foeS b i), lI g, lI e, nI i) ∧ cI b M ∧ low Mc M ∧ ∀ j, foeS b i = some j → g = mst b j ∧ e = bD b) (by omega) (by omega) ⟨0, 1, rfl, hc, low_refl, fun j e => by cases e⟩ ?_ ?_
    · rintro i s M back hi ⟨g, e, rfl, c1, l1, hg⟩ hb
      have hv := mstb h hi
      unfold bX10_foe_20
      dsimp only
      obtain ⟨M2, e2, c2, s2, f2⟩ := now_ok (N := N) c1 hN
      rw [y0_1, cf5 c1, e2, e_b, c_dd s2 (show i < 32 by omega), e_b, y0_7]
      obtain ⟨z0, z1⟩ := alv (b := b) (i := i) rfl
      refine ok_f (nI_ge hi (by omega)) (ok_if (fun z => ?_) (fun z => ?_))
      · have z := z0 z
        refine ok_bv (drawAgainst_ok (N := N) c2 hi hN) (fun M3 h3 => ?_)
        obtain ⟨B3, F3⟩ := h3
        obtain ⟨c3, l3⟩ := fr87 c2 F3
        have l3 := low_tr l1 (low_tr (nowF_low f2) l3)
        have m3 : M3.2 87 0 = lI (mst b i) := B3.2.2.1
        rw [m3, B3.2.2.2]
        have up : foeS b (i + 1) = some i → ok (gX10_foe_85 N back 0 (nI i) M3) (fun res => res.1 = oI (foeS b (gM b)) ∧ cI b res.2 ∧ low Mc res.2) := fun e => by
          unfold gX10_foe_85
          rw [y0_7, m3, B3.2.2.2]
          exact ok_m (ok_m (ok_m (ok_m (hb _ _ ⟨mst b i, bD b, by rw [nI_1, e]; rfl, c3, l3, fun j e3 => by rw [e] at e3; cases e3; exact ⟨rfl, rfl⟩⟩))))
        refine ok_if (fun y => ?_) (fun y => ?_)
        · exact up (bst_1 z ((o1 i (by omega)).mp y))
        · cases e4 : foeS b i with
          | none => exact absurd ((o1 i (by omega)).mpr e4) y
          | some j =>
            obtain ⟨gj, ej⟩ := hg j e4
            have hj : j < gM b := by have := (bst_lt e4).1; omega
            have x1 := mb i hi
            have x2 := mb j hj
            have x3 := cm j i hj hi
            rw [gj, ej, lI_mul, lI_mul]
            refine ok_if (fun x => ?_) (fun x => ?_)
            · have x : ¬ mst b j < mst b i := fun q => lg_le.mp x ((lI_lt (by omega) (by omega) (by omega) (by omega)).mpr (x3.mp q))
              have e : foeS b (i + 1) = some j := bst_3 z e4 (by rw [decide_eq_false x]; decide)
              refine ok_m (hb _ _ ⟨mst b j, bD b, by rw [nI_1, e], c3, l3, fun k e3 => by rw [e] at e3; cases e3; exact ⟨rfl, rfl⟩⟩)
            · have x : mst b j < mst b i := by
                apply Classical.byContradiction
                intro q
                exact x (lg_le.mpr (fun y => q (x3.mpr ((lI_lt (by omega) (by omega) (by omega) (by omega)).mp y))))
              exact up (bst_2 z e4 (decide_eq_true x))
      · have z := z1 z
        have e3 : foeS b (i + 1) = foeS b i := bst_no z
        exact ok_m (hb _ _ ⟨g, e, by rw [nI_1, e3], c2, low_tr l1 (nowF_low f2), fun j e4 => hg j (e3 ▸ e4)⟩)
    · rintro s M back ⟨g, e, rfl, c1, l1, hg⟩
      unfold bX10_foe_20
      dsimp only
      rw [y0_1, cf5 c1]
      exact ok_t (nI_le (Nat.le_refl _) (by omega)) (ok_some ⟨rfl, c1, l1⟩)
  · refine ok_m (ok_m (ok_m ?_))
    unfold gX11_foe_19
    refine ok_for 0 (gM b) (fun i s M => ∃ g, s = (0, oI (foeS b i), lI g, nI i) ∧ rS b M ∧ rEq Mr M ∧ -1 ≤ g ∧ g ≤ 18919194624 ∧ (foeS b i = none → g = -1) ∧ ∀ j, foeS b i = some j → g = mst b j) (by omega) (by omega) ⟨-1, rfl, S1, rsF_rEq F1, (by omega), (by omega), fun _ => rfl, fun j e => by cases e⟩ ?_ ?_
    · rintro i s M back hi ⟨g, rfl, S, E, g1, g2, hn, hg⟩ hb
      have hv := mstb h hi
      unfold bX11_foe_19
      dsimp only
      rw [r_nd h S.2, e_b, r_dd S (show i < 32 by omega), e_b]
      obtain ⟨z0, z1⟩ := alv (b := b) (i := i) rfl
      refine ok_f (nI_ge hi (by omega)) (ok_if (fun z => ?_) (fun z => ?_))
      · have z := z0 z
        refine ok_a (mostOf_ok (N := N) h S hi hN) (fun M2 F2 => ?_)
        have S2 := rS_rd S F2
        refine ok_if (fun x => ?_) (fun x => ?_)
        · have x := (lI_lt (by omega) (by omega) (by omega) (by omega)).mp (lg_gt.mp x)
          refine ok_m (ok_a (mostOf_ok (N := N) h S2 hi hN) (fun M3 F3 => ok_m (ok_m (hb _ _ ⟨mst b i, ?_, rS_rd S2 F3, rEq_tr E (rEq_tr (rdF_rEq F2) (rdF_rEq F3)), (by omega), (by omega), ?_⟩))))
          · cases e4 : foeS b i with
            | none => rw [nI_1, show foeS b (i + 1) = some i from bst_1 z e4]; rfl
            | some j => rw [nI_1, show foeS b (i + 1) = some i from bst_2 z e4 (decide_eq_true (by have := hg j e4; omega))]; rfl
          · cases e4 : foeS b i with
            | none =>
              have e : foeS b (i + 1) = some i := bst_1 z e4
              exact ⟨fun w => by (rw [e] at w; cases w), fun j w => by rw [e] at w; cases w; rfl⟩
            | some j =>
              have e : foeS b (i + 1) = some i := bst_2 z e4 (decide_eq_true (by have := hg j e4; omega))
              exact ⟨fun w => by (rw [e] at w; cases w), fun j w => by rw [e] at w; cases w; rfl⟩
        · have x : ¬ g < mst b i := fun q => x (lg_gt.mpr ((lI_lt (by omega) (by omega) (by omega) (by omega)).mpr q))
          cases e4 : foeS b i with
          | none => have := hn e4; omega
          | some j =>
            have gj := hg j e4
            have e : foeS b (i + 1) = some j := bst_3 z e4 (by rw [decide_eq_false (by omega)]; decide)
            exact ok_m (hb _ _ ⟨g, by rw [nI_1, e], S2, rEq_tr E (rdF_rEq F2), g1, g2, fun w => by (rw [e] at w; cases w), fun k w => by rw [e] at w; cases w; exact gj⟩)
      · have z := z1 z
        have e3 : foeS b (i + 1) = foeS b i := bst_no z
        exact ok_m (hb _ _ ⟨g, by rw [nI_1, e3], S, E, g1, g2, fun w => hn (e3 ▸ w), fun j w => hg j (e3 ▸ w)⟩)
    · rintro s M back ⟨g, rfl, S, E, g1, g2, hn, hg⟩
      unfold bX11_foe_19
      dsimp only
      rw [r_nd h S.2, e_b]
      exact ok_t (nI_le (Nat.le_refl _) (by omega)) (ok_some ⟨rfl, E⟩)
def unsf (b : Nat → Int32) : Nat → Int32
  | 0 => 0
  | k + 1 => unsf b k ||| (if aliv b k = true ∧ (gT b : Int) * bD b < mst b k then bi k else 0)
theorem q_unsafe (hN : 1000 ≤ N) : bth b (fX10_unsafe N 0) (fX11_unsafe N 0) := by
  intro Mc Mr hc hr
  have h := hc.1
  have hm := vb_m h
  have hT := vb_T h
  have hmt := mulT_b hT (bD_b h)
  obtain ⟨M1, e1, S1, F1⟩ := r_asks (N := N) h hr hN
  have st : ∀ i, unsf b (i + 1) = unsf b i ||| (if aliv b i = true ∧ (gT b : Int) * bD b < mst b i then bi i else 0) := fun _ => rfl
  unfold fX10_unsafe fX11_unsafe
  rw [c_ng hc, e1, e_b, e_b, if_pos q0, if_neg q1]
  refine ⟨unsf b (gM b), okA_of ?_, okA_of ?_⟩
  · refine ok_m (ok_m ?_)
    unfold gX10_unsafe_14
    refine ok_for 0 (gM b) (fun i s M => s = (0, unsf b i, nI i) ∧ cI b M ∧ low Mc M) (by omega) (by omega) ⟨rfl, hc, low_refl⟩ ?_ ?_
    · rintro i s M back hi ⟨rfl, c1, l1⟩ hb
      have hv := mstb h hi
      unfold bX10_unsafe_14
      dsimp only
      obtain ⟨M2, e2, c2, s2, f2⟩ := now_ok (N := N) c1 hN
      rw [y0_1, cf5 c1, e2, e_b, c_dd s2 (show i < 32 by omega), e_b, y0_7]
      obtain ⟨z0, z1⟩ := alv (b := b) (i := i) rfl
      refine ok_f (nI_ge hi (by omega)) (ok_if (fun z => ?_) (fun z => ?_))
      · have z := z0 z
        refine ok_bv (drawAgainst_ok (N := N) c2 hi hN) (fun M3 h3 => ?_)
        obtain ⟨B3, F3⟩ := h3
        obtain ⟨c3, l3⟩ := fr87 c2 F3
        have l3 := low_tr l1 (low_tr (nowF_low f2) l3)
        rw [show M3.2 87 0 = lI (mst b i) from B3.2.2.1, B3.2.2.2, (cI_N c3).1.2.2.1, vb_2 h, lI_nI (by omega), lI_mul, nI_1]
        refine ok_if (fun x => ?_) (fun x => ?_)
        · have x : ¬ (gT b : Int) * bD b < mst b i := fun q => lg_le.mp x ((lI_lt (by omega) (by omega) (by omega) (by omega)).mpr q)
          exact ok_m (hb _ _ ⟨by rw [st, if_neg (fun q => x q.2), Int32.or_zero], c3, l3⟩)
        · have x : (gT b : Int) * bD b < mst b i := by
            apply Classical.byContradiction
            intro q
            exact x (lg_le.mpr (fun y => q ((lI_lt (by omega) (by omega) (by omega) (by omega)).mp y)))
          exact ok_m (ok_m (hb _ _ ⟨by rw [st, if_pos ⟨z, x⟩]; rfl, c3, l3⟩))
      · have z := z1 z
        exact ok_m (hb _ _ ⟨by rw [nI_1, st, if_neg (fun q => z q.1), Int32.or_zero], c2, low_tr l1 (nowF_low f2)⟩)
    · rintro s M back ⟨rfl, c1, l1⟩
      unfold bX10_unsafe_14
      dsimp only
      rw [y0_1, cf5 c1]
      exact ok_t (nI_le (Nat.le_refl _) (by omega)) (ok_some ⟨rfl, c1, l1⟩)
  · refine ok_m (ok_m ?_)
    unfold gX11_unsafe_14
    refine ok_for 0 (gM b) (fun i s M => s = (0, unsf b i, nI i) ∧ rS b M ∧ rEq Mr M) (by omega) (by omega) ⟨rfl, S1, rsF_rEq F1⟩ ?_ ?_
    · rintro i s M back hi ⟨rfl, S, E⟩ hb
      have hv := mstb h hi
      unfold bX11_unsafe_14
      dsimp only
      rw [r_nd h S.2, e_b, r_dd S (show i < 32 by omega), e_b]
      obtain ⟨z0, z1⟩ := alv (b := b) (i := i) rfl
      refine ok_f (nI_ge hi (by omega)) (ok_if (fun z => ?_) (fun z => ?_))
      · have z := z0 z
        refine ok_a (mostOf_ok (N := N) h S hi hN) (fun M2 F2 => ?_)
        have S2 := rS_rd S F2
        rw [yr_1, yl_1, c_2, S2.2, vb_2 h, r_whole S2, lI_nI (by omega), lI_mul, nI_1]
        refine ok_t (by decide) (ok_if (fun x => ?_) (fun x => ?_))
        · have x : ¬ (gT b : Int) * bD b < mst b i := fun q => lg_le.mp x ((lI_lt (by omega) (by omega) (by omega) (by omega)).mpr q)
          exact ok_m (ok_m (hb _ _ ⟨by rw [st, if_neg (fun q => x q.2)], S2, rEq_tr E (rdF_rEq F2)⟩))
        · have x : (gT b : Int) * bD b < mst b i := by
            apply Classical.byContradiction
            intro q
            exact x (lg_le.mpr (fun y => q ((lI_lt (by omega) (by omega) (by omega) (by omega)).mp y)))
          exact ok_m (ok_m (hb _ _ ⟨by rw [st, if_pos ⟨z, x⟩]; rfl, S2, rEq_tr E (rdF_rEq F2)⟩))
      · have z := z1 z
        exact ok_m (ok_m (hb _ _ ⟨by rw [nI_1, st, if_neg (fun q => z q.1)], S, E⟩))
    · rintro s M back ⟨rfl, S, E⟩
      unfold bX11_unsafe_14
      dsimp only
      rw [r_nd h S.2, e_b]
      exact ok_t (nI_le (Nat.le_refl _) (by omega)) (ok_some ⟨rfl, E⟩)
end C3
