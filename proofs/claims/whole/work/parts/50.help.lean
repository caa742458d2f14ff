/-! what calls share -/
def rEq (M M1 : sg_M) : Prop := (∀ a, (a = 1 ∨ a = 3 ∨ a = 4 ∨ a = 5 ∨ a = 7) → M1.1 a = M.1 a) ∧ ∀ k, (k = 4 ∨ k = 10 ∨ k = 17 ∨ k = 18) → M1.1 0 k = M.1 0 k
theorem rEq_refl {M : sg_M} : rEq M M := ⟨fun _ _ => rfl, fun _ _ => rfl⟩
theorem rEq_tr {M M1 M2 : sg_M} (h : rEq M M1) (h2 : rEq M1 M2) : rEq M M2 := ⟨fun a ha => (h2.1 a ha).trans (h.1 a ha), fun k hk => (h2.2 k hk).trans (h.2 k hk)⟩
theorem rsF_rEq {M M1 : sg_M} (h : rsF M M1) : rEq M M1 := ⟨fun a ha => funext fun k => h.1 a k (by omega) (by omega) (by omega) (by omega), fun k hk => h.1 0 k (by omega) (by omega) (by omega) (by omega)⟩
/-- both answer alike, and stay in relation -/
def bth {α : Type} (b : Nat → Int32) (fc gr : sg_M → Option (α × sg_M)) : Prop := ∀ Mc Mr, cI b Mc → Mr.1 1 = b → ∃ A, okA (fc Mc) A (fun M1 => cI b M1 ∧ low Mc M1) ∧ okA (gr Mr) A (rEq Mr)
section HC
variable {b : Nat → Int32}
theorem cf5 {M : sg_M} (h : cI b M) : M.1 13 5 = nI (gM b) := (cI_N h).2.1.1
theorem cf6 {M : sg_M} (h : cI b M) : M.1 13 6 = nI (gS b) := (cI_N h).2.1.2.1
theorem c_hn {N : Nat} {x : Int32} {M : sg_M} (h : cI b M) : fX10_hasNode N 0 x M = some (if sg_ib x (gM b) = true then 1 else 0, M) := c_hasNode (cf5 h) (by have := vb_m h.1; omega)
theorem c_hs {N : Nat} {x : Int32} {M : sg_M} (h : cI b M) : fX10_hasStrap N 0 x M = some (if sg_ib x (gS b) = true then 1 else 0, M) := c_hasStrap (cf6 h) (by have := vb_n h.1; omega)
theorem c_ng {N : Nat} {M : sg_M} (h : cI b M) : fX10_noGrid N 0 M = some (0, M) := by
  have := vb_m h.1
  rw [c_noGrid (cf5 h) (by omega), if_neg (by omega)]
theorem c_pad {N q v : Nat} {P : Int32} {M : sg_M} (h : M.1 q 7 = P) (hv : v < 32) : fX4_isPad N q (nI v) M = some (if bt P v = true then 1 else 0, M) := by
  unfold fX4_isPad
  rw [h]
  by_cases z : bt P v = true
  · rw [if_pos ((bt_test1 hv).mpr z), if_pos z]
  · rw [if_neg (fun q => z ((bt_test1 hv).mp q)), if_neg z]
theorem cf7 {M : sg_M} (h : cI b M) : M.1 13 7 = b 5 := (cI_N h).1.2.2.2.2.2
theorem c_dd {N f v : Nat} {M : sg_M} (h : bsol b f M) (hv : v < 32) : fX1_isDead N f (nI v) M = some (if bt (bQ b) v = true then 1 else 0, M) := by rw [c_isDead hv, h.1]
theorem c_ab {f v : Nat} {M : sg_M} (h : vb b) (hM : bsol b f M) (hv : v < gM b) : M.2 (f + 1) v = lI (bX b v) := by
  have := vb_m h
  rw [hM.2.2.1 v (by omega), if_pos (show v < gC b * gR b from hv)]
theorem c_be {f : Nat} {M : sg_M} (hM : bsol b f M) : M.2 f 1 = lI (bD b) := hM.2.1
theorem bsol_sco {f : Nat} {M : sg_M} (hM : bsol b f M) : scoAt (sco b) (f + 2) M := hM.2.2.2
theorem mulT_b {T : Nat} {D : Int} (hT : T ≤ 999) (hD : 0 < D ∧ D ≤ 169869312) : 0 ≤ (T : Int) * D ∧ (T : Int) * D ≤ 169699442688 := ⟨Int.mul_nonneg (by omega) (by omega), Int.le_trans (Int.mul_le_mul (show (T : Int) ≤ 999 by omega) hD.2 (by omega) (by omega)) (by omega)⟩
theorem c_wth {N j T : Nat} {x : Nat × Int × Int} {M : sg_M} (h : scoAt x j M) (hT : T ≤ 999) (h1 : x.1 < 100) (h2 : 0 ≤ x.2.1 ∧ x.2.1 ≤ 18919194624) (h3 : 0 < x.2.2 ∧ x.2.2 ≤ 169869312) : fX7_isWithin N j (nI T) M = some (if wth T x = true then 1 else 0, M) := by
  have hm := mulT_b hT h3
  unfold fX7_isWithin
  rw [h.1, h.2.1, h.2.2, lI_nI (by omega), lI_mul]
  unfold wth
  by_cases e : x.1 = 0
  · rw [if_pos ((nI_z (by omega)).mpr e), decide_eq_true e]
    by_cases q : x.2.1 ≤ (T : Int) * x.2.2
    · rw [if_neg (fun z => by have := (lI_lt (by omega) (by omega) (by omega) (by omega)).mp (lg_gt.mp z); omega), decide_eq_true q]
      rfl
    · rw [if_pos (lg_gt.mpr ((lI_lt (by omega) (by omega) (by omega) (by omega)).mpr (by omega))), decide_eq_false q]
      rfl
  · rw [if_neg (fun z => e ((nI_z (by omega)).mp z)), decide_eq_false e]
    rfl
theorem c_hold {N f : Nat} {M : sg_M} (h : vb b) (hM : bsol b f M) : fX7_isWithin N (f + 2) (nI (gT b)) M = some (if hold b = true then 1 else 0, M) := c_wth (bsol_sco hM) (vb_T h) (by have := bSt_b h; show bSt b < 100; omega) (bMx_b h) (bD_b h)
end HC
/-- a Flow at f, solved for d, over the Net at 13 -/
def fl (d : Nat → Int32) (f : Nat) (M : sg_M) : Prop := vb d ∧ bsol d f M ∧ netG (gC d) (gR d) 13 M
section FL
variable {d : Nat → Int32} {f : Nat} {M : sg_M}
theorem y13_9 : Yc.2.2.2 13 9 = 14 := by decide
theorem y13_10 : Yc.2.2.2 13 10 = 15 := by decide
theorem y13_11 : Yc.2.2.2 13 11 = 16 := by decide
theorem y13_12 : Yc.2.2.2 13 12 = 17 := by decide
theorem y13_13 : Yc.2.2.2 13 13 = 18 := by decide
theorem y13_14 : Yc.2.2.2 13 14 = 19 := by decide
theorem y13_15 : Yc.2.2.2 13 15 = 20 := by decide
theorem y13_16 : Yc.2.2.2 13 16 = 21 := by decide
theorem y13_17 : Yc.2.2.2 13 17 = 22 := by decide
theorem yn_14 : Yc.2.2.1 14 = 12 := by decide
theorem yn_15 : Yc.2.2.1 15 = 12 := by decide
theorem yn_16 : Yc.2.2.1 16 = 12 := by decide
theorem yn_17 : Yc.2.2.1 17 = 9 := by decide
theorem yn_18 : Yc.2.2.1 18 = 9 := by decide
theorem yn_19 : Yc.2.2.1 19 = 4 := by decide
theorem yn_20 : Yc.2.2.1 20 = 20 := by decide
theorem yn_21 : Yc.2.2.1 21 = 20 := by decide
theorem yn_22 : Yc.2.2.1 22 = 20 := by decide
theorem y0_0 : Yc.2.2.2 0 0 = 1 := by decide
theorem y0_1 : Yc.2.2.2 0 1 = 13 := by decide
theorem y0_2 : Yc.2.2.2 0 2 = 23 := by decide
theorem y0_3 : Yc.2.2.2 0 3 = 54 := by decide
theorem y0_4 : Yc.2.2.2 0 4 = 55 := by decide
theorem y0_6 : Yc.2.2.2 0 6 = 71 := by decide
theorem y0_7 : Yc.2.2.2 0 7 = 87 := by decide
theorem y0_8 : Yc.2.2.2 0 8 = 106 := by decide
theorem y0_9 : Yc.2.2.2 0 9 = 173 := by decide
theorem y0_10 : Yc.2.2.2 0 10 = 205 := by decide
theorem y0_11 : Yc.2.2.2 0 11 = 228 := by decide
theorem y0_12 : Yc.2.2.2 0 12 = 248 := by decide
theorem fl_A (h : fl d f M) {s : Nat} (hs : s < gS d) : M.1 14 s = nI (bA d s) := h.2.2.2.2.1 s hs
theorem fl_B (h : fl d f M) {s : Nat} (hs : s < gS d) : M.1 15 s = nI (bB d s) := h.2.2.2.2.2 s hs
theorem fl_x (h : fl d f M) {v : Nat} (hv : v < gM d) : M.2 (f + 1) v = lI (bX d v) := c_ab h.1 h.2.1 hv
theorem fl_5 (h : fl d f M) : M.1 13 5 = nI (gM d) := h.2.2.1
theorem fl_6 (h : fl d f M) : M.1 13 6 = nI (gS d) := h.2.2.2.1
theorem c_rise {N s : Nat} (hf : sg_K Yc f 1) (h : fl d f M) (hs : s < gS d) : fX1_rise N f 13 (nI s) M = some (lI (bX d (bB d s) - bX d (bA d s)), M) := by
  obtain ⟨h1, h2⟩ := bAB h.1 hs
  have hn := vb_n h.1
  have hm := vb_m h.1
  unfold fX1_rise
  rw [y13_9, y13_10, yn_14, yn_15, rc1_2 hf, lc1_2 hf, nI_clamp (show s < 2 ^ 31 by omega), fl_A h hs, fl_B h hs, if_pos (ib_nI (by omega) (by omega)), if_pos (ib_nI (by omega) (by omega)), if_pos (ib_nI (by omega) (by omega)), if_pos (ib_nI (by omega) (by omega)), nI_clamp (show bA d s < 2 ^ 31 by omega), nI_clamp (show bB d s < 2 ^ 31 by omega), fl_x h h2, fl_x h (by omega), lI_sub]
theorem c_heat {N a s : Nat} (hf : sg_K Yc f 1) (h : fl d f M) (hla : Yc.2.2.1 a = 12) (hw : M.1 a s = d (28 + s)) (hs : s < gS d) : fX1_heatAbove N f 13 a (nI s) M = some (lI (heat d s), M) := by
  obtain ⟨h1, h2⟩ := bAB h.1 hs
  have hn := vb_n h.1
  have x1 := bX_b h.1 h2
  have x2 := bX_b h.1 (show bA d s < gM d by omega)
  have hw4 := vb_w4 h.1 (show s < 12 by omega)
  unfold fX1_heatAbove heat
  rw [hla, if_pos (ib_nI (by omega) (by omega)), nI_clamp (show s < 2 ^ 31 by omega), hw, vb_w h.1 (by omega)]
  by_cases e : gW d s = 0
  · rw [if_pos ((nI_le0 (by omega)).mpr e), if_pos e]
    rfl
  · rw [if_neg (fun z => e ((nI_le0 (by omega)).mp z)), if_neg e, c_rise hf h hs, e_b, lI_abs (by omega)]
theorem c_wear {N a : Nat} (hf : sg_K Yc f 1) (h : fl d f M) (hla : Yc.2.2.1 a = 12) (hw : ∀ s, s < 12 → M.1 a s = d (28 + s)) (h3 : M.1 13 3 = d 3) (hN : 20 ≤ N) : fX1_wearBits N f 13 a M = some (wbs d, M) := by
  have hn := vb_n h.1
  have hd := bD_b h.1
  have he := vb_E h.1
  have hm := mulT_b he.2 hd
  unfold fX1_wearBits
  apply ok_eq
  refine ok_m (ok_m ?_)
  unfold gX1_wearBits_5
  refine ok_for 0 (gS d) (fun i s M1 => s = (f, 13, a, wbF d i, nI i) ∧ M = M1) (by omega) (by omega) ⟨rfl, rfl⟩ ?_ ?_
  · rintro i s M1 back hi ⟨rfl, rfl⟩ hb
    unfold bX1_wearBits_5
    dsimp only
    have hh := heat_b h.1 hi
    rw [fl_6 h, c_heat hf h hla (hw i (by omega)) hi, e_b, h3, vb_3 h.1, c_be h.2.1, lI_nI (by omega), lI_mul]
    refine ok_f (nI_ge hi (by omega)) (ok_if (fun z => ?_) (fun z => ?_))
    · have z : ¬ (gE d : Int) * bD d < heat d i := fun q => lg_le.mp z ((lI_lt (by omega) (by omega) (by omega) (by omega)).mpr q)
      refine ok_m (hb _ _ ⟨?_, rfl⟩)
      rw [nI_1]
      show _ = (f, 13, a, wbF d i ||| _, _)
      rw [if_neg z, Int32.or_zero]
    · have z : (gE d : Int) * bD d < heat d i := by
        apply Classical.byContradiction
        intro q
        exact z (lg_le.mpr (fun y => q ((lI_lt (by omega) (by omega) (by omega) (by omega)).mp y)))
      refine ok_m (ok_m (hb _ _ ⟨?_, rfl⟩))
      rw [nI_1]
      show _ = (f, 13, a, wbF d i ||| _, _)
      rw [if_pos z]
      rfl
  · rintro s M1 back ⟨rfl, rfl⟩
    unfold bX1_wearBits_5
    dsimp only
    rw [fl_6 h]
    exact ok_t (nI_le (Nat.le_refl _) (by omega)) (ok_some rfl)
/-- what a pad gives -/
def gvt (d : Nat → Int32) (v s : Nat) : Int := if bA d s = v then (gW d s : Int) * bX d (bB d s) else if bB d s = v then (gW d s : Int) * bX d (bA d s) else 0
def gvn (d : Nat → Int32) (v : Nat) : Int := (gL d v : Int) * bD d + fs (gS d) (gvt d v)
theorem gvt_b (h : vb d) {v s : Nat} (hs : s < gS d) : 0 ≤ gvt d v s ∧ gvt d v s ≤ 75676778496 := by
  obtain ⟨h1, h2⟩ := bAB h hs
  have hn := vb_n h
  have x1 := bX_b h h2
  have x2 := bX_b h (show bA d s < gM d by omega)
  have hw4 := vb_w4 h (show s < 12 by omega)
  have mb : ∀ y : Int, 0 ≤ y ∧ y ≤ 18919194624 → 0 ≤ (gW d s : Int) * y ∧ (gW d s : Int) * y ≤ 75676778496 := fun y hy => ⟨Int.mul_nonneg (by omega) hy.1, Int.le_trans (Int.mul_le_mul (show (gW d s : Int) ≤ 4 by omega) hy.2 hy.1 (by omega)) (by omega)⟩
  unfold gvt
  by_cases e : bA d s = v
  · rw [if_pos e]; exact mb _ x1
  · rw [if_neg e]
    by_cases e2 : bB d s = v
    · rw [if_pos e2]; exact mb _ x2
    · rw [if_neg e2]; omega
theorem fs_bd {n : Nat} {g : Nat → Int} {B : Int} (h : ∀ i, i < n → 0 ≤ g i ∧ g i ≤ B) : 0 ≤ fs n g ∧ fs n g ≤ n * B := by
  refine ⟨fs_nonneg (fun i hi => (h i hi).1), ?_⟩
  have := fs_le (n := n) (f := g) (g := fun _ => B) (fun i hi => (h i hi).2)
  rw [fs_const] at this
  exact this
theorem gvn_b (h : vb d) {v : Nat} (hv : v < gM d) : 0 ≤ gvn d v ∧ gvn d v ≤ 2000000000000 := by
  have hn := vb_n h
  have hm := vb_m h
  have hd := bD_b h
  have hl := vb_l99 h (show v < 9 by omega)
  have h1 := fs_bd (n := gS d) (g := gvt d v) (B := 75676778496) (fun i hi => gvt_b h hi)
  have h2 : 0 ≤ (gL d v : Int) * bD d ∧ (gL d v : Int) * bD d ≤ 169699442688 := mulT_b (by omega) hd
  have h3 : (gS d : Int) * 75676778496 ≤ 12 * 75676778496 := Int.mul_le_mul_of_nonneg_right (by omega) (by omega)
  unfold gvn
  omega
theorem c_giv {N v : Nat} (hf : sg_K Yc f 1) (h : fl d f M) (hw : ∀ s, s < 12 → M.1 16 s = d (28 + s)) (hl : ∀ v, v < 9 → M.1 17 v = d (6 + v)) (hv : v < gM d) (hN : 20 ≤ N) : fX1_givenBy N f 13 (nI v) M = some (lI (gvn d v), M) := by
  have hn := vb_n h.1
  have hm := vb_m h.1
  have hl9 := vb_l99 h.1 (show v < 9 by omega)
  unfold fX1_givenBy
  rw [y13_12, yn_17, if_pos (ib_nI (by omega) (by omega)), nI_clamp (show v < 2 ^ 31 by omega), hl v (by omega), vb_l h.1 (by omega), c_be h.2.1, lI_nI (by omega), lI_mul]
  apply ok_eq
  refine ok_m (ok_m ?_)
  unfold gX1_givenBy_16
  refine ok_for 0 (gS d) (fun i s M1 => s = (f, 13, nI v, lI ((gL d v : Int) * bD d + fs i (gvt d v)), nI i) ∧ M = M1) (by omega) (by omega) ⟨by show _ = (_, _, _, lI (_ + 0), _); rw [Int.add_zero]; rfl, rfl⟩ ?_ ?_
  · rintro i s M1 back hi ⟨rfl, rfl⟩ hb
    obtain ⟨a1, a2⟩ := bAB h.1 hi
    have hw4 := vb_w4 h.1 (show i < 12 by omega)
    unfold bX1_givenBy_16
    dsimp only
    rw [fl_6 h, y13_9, y13_10, y13_11, yn_14, yn_15, yn_16, rc1_2 hf, lc1_2 hf, nI_clamp (show i < 2 ^ 31 by omega), fl_A h hi, fl_B h hi, hw i (by omega), vb_w h.1 (by omega), lI_nI (by omega), nI_clamp (show bA d i < 2 ^ 31 by omega), nI_clamp (show bB d i < 2 ^ 31 by omega), fl_x h a2, fl_x h (show bA d i < gM d by omega), lI_mul, lI_mul]
    refine ok_f (nI_ge hi (by omega)) (ok_t (ib_nI (by omega) (by omega)) (ok_if (fun z => ?_) (fun z => ?_)))
    · have z := (nI_eq (by omega) (by omega)).mp z
      refine ok_t (ib_nI (by omega) (by omega)) (ok_t (ib_nI (by omega) (by omega)) (ok_t (ib_nI (by omega) (by omega)) (ok_m (ok_m (hb _ _ ⟨?_, rfl⟩)))))
      rw [nI_1, lI_add]
      show _ = (_, _, _, lI (_ + (_ + gvt d v i)), _)
      unfold gvt
      rw [if_pos z, Int.add_assoc]
    · have z : ¬ bA d i = v := fun q => z (by rw [q])
      refine ok_t (ib_nI (by omega) (by omega)) (ok_if (fun y => ?_) (fun y => ?_))
      · have y := (nI_eq (by omega) (by omega)).mp y
        refine ok_t (ib_nI (by omega) (by omega)) (ok_t (ib_nI (by omega) (by omega)) (ok_t (ib_nI (by omega) (by omega)) (ok_m (ok_m (hb _ _ ⟨?_, rfl⟩)))))
        rw [nI_1, lI_add]
        show _ = (_, _, _, lI (_ + (_ + gvt d v i)), _)
        unfold gvt
        rw [if_neg z, if_pos y, Int.add_assoc]
      · have y : ¬ bB d i = v := fun q => y (by rw [q])
        refine ok_m (hb _ _ ⟨?_, rfl⟩)
        rw [nI_1]
        show _ = (_, _, _, lI (_ + (_ + gvt d v i)), _)
        unfold gvt
        rw [if_neg z, if_neg y, Int.add_zero]
  · rintro s M1 back ⟨rfl, rfl⟩
    unfold bX1_givenBy_16
    dsimp only
    rw [fl_6 h]
    exact ok_t (nI_le (Nat.le_refl _) (by omega)) (ok_some rfl)
/-- the reference's way to the same -/
theorem pad_0 {b : Nat → Int32} {v : Nat} (h : bt (b 5) v = true) : bX b v = 0 := by
  show xN _ _ _ _ _ _ = 0
  unfold xN unk
  rw [h, Bool.not_true, Bool.and_false]
  rfl
theorem gv_s {b : Nat → Int32} (h : vb b) {v s : Nat} (hs : s < gS b) (hp : bt (b 5) v = true) : (if bA b s = v then thr b s else 0) - (if bB b s = v then thr b s else 0) = gvt b v s := by
  obtain ⟨h1, h2⟩ := bAB h hs
  have h0 := pad_0 hp
  unfold gvt thr
  by_cases e : bA b s = v
  · rw [if_pos e, if_pos e, if_neg (by omega), e, h0, Int.sub_zero, Int.sub_zero]
  · rw [if_neg e, if_neg e]
    by_cases e2 : bB b s = v
    · rw [if_pos e2, if_pos e2, e2, h0, Int.zero_sub, Int.zero_sub, Int.mul_neg, Int.neg_neg]
    · rw [if_neg e2, if_neg e2]; rfl
theorem r_giv {b : Nat → Int32} {N v : Nat} {M : sg_M} (h : vb b) (hM : rS b M) (hv : v < gM b) (hp : bt (b 5) v = true) (hN : 20 ≤ N) : fX11_givesOf N 0 (nI v) M = some (lI (gvn b v), M) := by
  have hn := vb_n h
  have hm := vb_m h
  have hl9 := vb_l99 h (show v < 9 by omega)
  unfold fX11_givesOf
  rw [yr_1, yl_1, k_6, if_pos (ib_nI (by omega) (by omega)), nI_clamp (show 6 + v < 2 ^ 31 by omega), hM.2, vb_l h (by omega), r_whole hM, lI_nI (by omega), lI_mul]
  apply ok_eq
  refine ok_m (ok_m ?_)
  unfold gX11_givesOf_19
  refine ok_for 0 (gS b) (fun i s M1 => s = (0, nI v, lI ((gL b v : Int) * bD b + fs i (gvt b v)), nI i) ∧ M = M1) (by omega) (by omega) ⟨by show _ = (_, _, lI (_ + 0), _); rw [Int.add_zero]; rfl, rfl⟩ ?_ ?_
  · rintro i s M1 back hi ⟨rfl, rfl⟩ hb
    obtain ⟨a1, a2⟩ := bAB h hi
    have hg := gv_s h hi hp
    unfold bX11_givesOf_19
    dsimp only
    rw [r_8 hM, yr_7, yl_6, k_2, nI_clamp (show 2 * i < 2 ^ 31 by omega), r_A hM hi, r_thr h hM hi hN]
    refine ok_f (nI_ge hi (by omega)) (ok_t (ib_nI (by omega) (by omega)) (ok_if (fun z => ?_) (fun z => ?_)))
    · have z := (nI_eq (by omega) (by omega)).mp z
      refine ok_bs (ok_m ?_)
      unfold gX11_givesOf_50
      rw [yr_7, yl_6, k_2, nI_1, nI_clamp (show 2 * i + 1 < 2 ^ 31 by omega), r_B hM hi]
      refine ok_t (ib_nI (by omega) (by omega)) (ok_f (fun q => by have := (nI_eq (by omega) (by omega)).mp q; omega) (ok_m (hb _ _ ⟨?_, rfl⟩)))
      rw [lI_add]
      show _ = (_, _, lI (_ + (_ + gvt b v i)), _)
      rw [← hg, if_pos z, if_neg (by omega), Int.sub_zero, Int.add_assoc, nI_1]
    · have z : ¬ bA b i = v := fun q => z (by rw [q])
      unfold gX11_givesOf_50
      rw [yr_7, yl_6, k_2, nI_1, nI_clamp (show 2 * i + 1 < 2 ^ 31 by omega), r_B hM hi, r_thr h hM hi hN]
      refine ok_t (ib_nI (by omega) (by omega)) (ok_if (fun y => ?_) (fun y => ?_))
      · have y := (nI_eq (by omega) (by omega)).mp y
        refine ok_bs (ok_m (ok_m (hb _ _ ⟨?_, rfl⟩)))
        rw [lI_sub]
        show _ = (_, _, lI (_ + (_ + gvt b v i)), _)
        rw [← hg, if_neg z, if_pos y, nI_1]
        congr 4
        omega
      · have y : ¬ bB b i = v := fun q => y (by rw [q])
        refine ok_m (hb _ _ ⟨?_, rfl⟩)
        show _ = (_, _, lI (_ + (_ + gvt b v i)), _)
        rw [← hg, if_neg z, if_neg y, Int.sub_zero, Int.add_zero, nI_1]
  · rintro s M1 back ⟨rfl, rfl⟩
    unfold bX11_givesOf_19
    dsimp only
    rw [r_8 hM]
    exact ok_t (nI_le (Nat.le_refl _) (by omega)) (ok_some rfl)
end FL
