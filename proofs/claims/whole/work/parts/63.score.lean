/-! scores: who is better -/
def gsc (x : Nat × Int × Int) : Prop := x.1 < 100 ∧ (0 ≤ x.2.1 ∧ x.2.1 ≤ 18919194624) ∧ 0 < x.2.2 ∧ x.2.2 ≤ 169869312
theorem btr_iff {x y : Nat × Int × Int} : btr x y = true ↔ x.1 < y.1 ∨ (x.1 = y.1 ∧ x.2.1 * y.2.2 < y.2.1 * x.2.2) := by
  unfold btr
  by_cases e : x.1 = y.1
  · rw [if_pos e, decide_eq_true_iff]
    omega
  · rw [if_neg e, decide_eq_true_iff]
    omega
theorem cr_lt {a b c d e f : Int} (hb : 0 < b) (hd : 0 < d) (hf : 0 < f) (h1 : a * d < c * b) (h2 : c * f ≤ e * d) : a * f < e * b := by
  have h3 : a * d * f < c * b * f := Int.mul_lt_mul_of_pos_right h1 hf
  have h4 : c * f * b ≤ e * d * b := Int.mul_le_mul_of_nonneg_right h2 (by omega)
  have e1 : c * b * f = c * f * b := by rw [Int.mul_assoc, Int.mul_comm b f, ← Int.mul_assoc]
  have e2 : a * d * f = a * f * d := by rw [Int.mul_assoc, Int.mul_comm d f, ← Int.mul_assoc]
  have e3 : e * d * b = e * b * d := by rw [Int.mul_assoc, Int.mul_comm d b, ← Int.mul_assoc]
  have h5 : a * f * d < e * b * d := by omega
  exact Int.lt_of_mul_lt_mul_right h5 (by omega)
theorem cr_le {a b c d e f : Int} (hb : 0 < b) (hd : 0 < d) (hf : 0 < f) (h1 : a * d ≤ c * b) (h2 : c * f ≤ e * d) : a * f ≤ e * b := by
  have h3 : a * d * f ≤ c * b * f := Int.mul_le_mul_of_nonneg_right h1 (by omega)
  have h4 : c * f * b ≤ e * d * b := Int.mul_le_mul_of_nonneg_right h2 (by omega)
  have e1 : c * b * f = c * f * b := by rw [Int.mul_assoc, Int.mul_comm b f, ← Int.mul_assoc]
  have e2 : a * d * f = a * f * d := by rw [Int.mul_assoc, Int.mul_comm d f, ← Int.mul_assoc]
  have e3 : e * d * b = e * b * d := by rw [Int.mul_assoc, Int.mul_comm d b, ← Int.mul_assoc]
  have h5 : a * f * d ≤ e * b * d := by omega
  exact Int.le_of_mul_le_mul_right h5 hd
theorem btr_irr {x : Nat × Int × Int} : ¬ btr x x = true := fun h => by
  have := btr_iff.mp h
  omega
theorem btr_asy {x y : Nat × Int × Int} (h : btr x y = true) : ¬ btr y x = true := fun h2 => by
  rw [btr_iff] at h h2
  omega
/-- better, then not worse -/
theorem btr_1 {x y z : Nat × Int × Int} (hx : gsc x) (hy : gsc y) (hz : gsc z) (h1 : btr x y = true) (h2 : ¬ btr z y = true) : btr x z = true := by
  rw [btr_iff] at h1 h2 ⊢
  rcases h1 with h1 | ⟨h1, h3⟩
  · omega
  · by_cases e : x.1 < z.1
    · exact Or.inl e
    · have e2 : z.1 = y.1 := by omega
      refine Or.inr ⟨(by omega), ?_⟩
      have h4 : y.2.1 * z.2.2 ≤ z.2.1 * y.2.2 := by omega
      exact cr_lt (b := x.2.2) (d := y.2.2) hx.2.2.1 hy.2.2.1 hz.2.2.1 h3 h4
theorem btr_2 {x y z : Nat × Int × Int} (hx : gsc x) (hy : gsc y) (hz : gsc z) (h1 : ¬ btr x y = true) (h2 : ¬ btr y z = true) : ¬ btr x z = true := fun h => h1 (btr_1 hx hz hy h h2)
/-- running on from a first score -/
def rb (f : Nat → Nat × Int × Int) (p : Nat → Bool) (s0 : Nat × Int × Int) : Nat → Option Nat × (Nat × Int × Int)
  | 0 => (none, s0)
  | k + 1 => if p k = true ∧ btr (f k) (rb f p s0 k).2 = true then (some k, f k) else rb f p s0 k
theorem rb_s (f : Nat → Nat × Int × Int) (p : Nat → Bool) (s0 : Nat × Int × Int) (k : Nat) : rb f p s0 (k + 1) = if p k = true ∧ btr (f k) (rb f p s0 k).2 = true then (some k, f k) else rb f p s0 k := rfl
theorem rb_bst {f : Nat → Nat × Int × Int} {p : Nat → Bool} {s0 : Nat × Int × Int} (h0 : gsc s0) : ∀ n, (∀ k, k < n → p k = true → gsc (f k)) → (bst (fun k j => btr (f k) (f j)) p n = none → rb f p s0 n = (none, s0)) ∧ ∀ j, bst (fun k j => btr (f k) (f j)) p n = some j → rb f p s0 n = if btr (f j) s0 = true then (some j, f j) else (none, s0) := by
  intro n
  induction n with
  | zero => intro _; exact ⟨fun _ => rfl, fun j e => by cases e⟩
  | succ n ih =>
    intro hf
    obtain ⟨i1, i2⟩ := ih (fun k hk => hf k (by omega))
    by_cases q : p n = true
    · have gn := hf n (by omega) q
      cases e : bst (fun k j => btr (f k) (f j)) p n with
      | none =>
        have e1 := bst_1 (lt := fun k j => btr (f k) (f j)) q e
        rw [e1, rb_s, i1 e]
        refine ⟨(fun z => by cases z), fun j z => ?_⟩
        cases z
        by_cases w : btr (f n) s0 = true
        · rw [if_pos ⟨q, w⟩, if_pos w]
        · rw [if_neg (fun z => w z.2), if_neg w]
      | some j =>
        obtain ⟨hj, pj⟩ := bst_lt e
        have gj := hf j (by omega) pj
        have ij := i2 j e
        by_cases l : btr (f n) (f j) = true
        · have e1 := bst_2 (lt := fun k j => btr (f k) (f j)) q e l
          rw [e1, rb_s, ij]
          refine ⟨(fun z => by cases z), fun k z => ?_⟩
          cases z
          by_cases w : btr (f j) s0 = true
          · have w2 : btr (f n) s0 = true := btr_1 gn gj h0 l (btr_asy w)
            rw [if_pos w, if_pos ⟨q, l⟩, if_pos w2]
          · rw [if_neg w]
            by_cases w2 : btr (f n) s0 = true
            · rw [if_pos ⟨q, w2⟩, if_pos w2]
            · rw [if_neg (fun z => w2 z.2), if_neg w2]
        · have e1 := bst_3 (lt := fun k j => btr (f k) (f j)) q e l
          rw [e1, rb_s, ij]
          refine ⟨(fun z => by cases z), fun k z => ?_⟩
          cases z
          by_cases w : btr (f j) s0 = true
          · rw [if_pos w, if_neg (fun z => l z.2)]
          · rw [if_neg w]
            have w2 : ¬ btr (f n) s0 = true := btr_2 gn gj h0 l w
            rw [if_neg (fun z => w2 z.2)]
    · have e1 := bst_no (lt := fun k j => btr (f k) (f j)) q
      rw [e1, rb_s, if_neg (fun z => q z.1)]
      exact ⟨i1, i2⟩
section SC
variable {N : Nat} {b : Nat → Int32}
theorem gsc_b (h : vb b) : gsc (sco b) := ⟨by have := bSt_b h; show bSt b < 100; omega, bMx_b h, bD_b h⟩
theorem gsc_0 : gsc (10, 0, 1) := by unfold gsc; decide
theorem btr_10 (h : vb b) : btr (sco b) (10, 0, 1) = true := btr_iff.mpr (Or.inl (by have := bSt_b h; show bSt b < 10; omega))
theorem mul_b {x y : Int} (hx : 0 ≤ x ∧ x ≤ 18919194624) (hy : 0 < y ∧ y ≤ 169869312) : 0 ≤ x * y ∧ x * y ≤ 3213790574413971456 := ⟨Int.mul_nonneg hx.1 (by omega), Int.le_trans (Int.mul_le_mul hx.2 hy.2 (by omega) (by omega)) (by omega)⟩
theorem c_btr {j1 j2 : Nat} {x y : Nat × Int × Int} {M : sg_M} (h1 : scoAt x j1 M) (h2 : scoAt y j2 M) (gx : gsc x) (gy : gsc y) : fX7_isBetterThan N j1 j2 M = some (if btr x y = true then 1 else 0, M) := by
  have m1 := mul_b gx.2.1 gy.2.2
  have m2 := mul_b gy.2.1 gx.2.2
  have gx1 := gx.1
  have gy1 := gy.1
  unfold fX7_isBetterThan fX7_isDeeperThan
  rw [h1.1, h2.1, h1.2.1, h1.2.2, h2.2.1, h2.2.2, lI_mul, lI_mul]
  by_cases e : x.1 = y.1
  · rw [if_pos (by rw [e])]
    by_cases q : x.2.1 * y.2.2 < y.2.1 * x.2.2
    · rw [if_neg (fun z => (lt_of (by omega) (by omega)).1.mp z q), if_pos (btr_iff.mpr (Or.inr ⟨e, q⟩)), e_b]
      rfl
    · rw [if_pos ((lt_of (by omega) (by omega)).1.mpr q), if_neg (fun z => by have := btr_iff.mp z; omega), e_b]
      rfl
  · rw [if_neg (fun z => e ((nI_eq (by omega) (by omega)).mp z))]
    by_cases q : x.1 < y.1
    · rw [if_neg (nI_ge q (by omega)), if_pos (btr_iff.mpr (Or.inl q))]
    · rw [if_pos (nI_le (by omega) (by omega)), if_neg (fun z => by have := btr_iff.mp z; omega)]
theorem c_dpr {j1 j2 : Nat} {x y : Nat × Int × Int} {M : sg_M} (h1 : scoAt x j1 M) (h2 : scoAt y j2 M) (gx : gsc x) (gy : gsc y) : fX7_isDeeperThan N j1 j2 M = some (if y.2.1 * x.2.2 < x.2.1 * y.2.2 then 1 else 0, M) := by
  have m1 := mul_b gx.2.1 gy.2.2
  have m2 := mul_b gy.2.1 gx.2.2
  unfold fX7_isDeeperThan
  rw [h1.2.1, h1.2.2, h2.2.1, h2.2.2, lI_mul, lI_mul]
  by_cases q : y.2.1 * x.2.2 < x.2.1 * y.2.2
  · rw [if_neg (fun z => (lt_of (by omega) (by omega)).1.mp z q), if_pos q]
  · rw [if_pos ((lt_of (by omega) (by omega)).1.mpr q), if_neg q]
theorem c_cpy {j1 j2 : Nat} {x : Nat × Int × Int} {M : sg_M} (h2 : scoAt x j2 M) (hj : j1 ≠ j2) : ok (fX7_copyFrom N j1 j2 M) (fun M1 => scoAt x j1 M1 ∧ ∀ a k, a ≠ j1 → M1.1 a k = M.1 a k ∧ M1.2 a k = M.2 a k) := by
  unfold fX7_copyFrom
  refine ok_m (ok_m (ok_m (ok_some ⟨⟨?_, ?_, ?_⟩, fun a k ha => ⟨?_, ?_⟩⟩)))
  · rw [uJ_i, uJ_i, uI_eq, h2.1]
  · rw [uJ_nb (by omega), uJ_eq]; exact h2.2.1
  · rw [uJ_eq, uJ_na (fun z => hj z.symm)]; exact h2.2.2
  · rw [uJ_i, uJ_i, uI_na ha]
  · rw [uJ_na ha, uJ_na ha]; rfl
/-! the reference's best so far -/
def bsR (x : Nat × Int × Int) (M : sg_M) : Prop := M.1 0 31 = nI x.1 ∧ M.2 0 32 = lI x.2.1 ∧ M.2 0 33 = lI x.2.2
/-- ints of the reference that a search leaves -/
def raB (M M1 : sg_M) : Prop := ∀ a k, a ≠ 1 → a ≠ 6 → a ≠ 9 → a ≠ 10 → (a ≠ 0 ∨ (k ≠ 8 ∧ k ≠ 21 ∧ k ≠ 24 ∧ k ≠ 31)) → M1.1 a k = M.1 a k
theorem raB_refl {M : sg_M} : raB M M := fun _ _ _ _ _ _ _ => rfl
theorem raB_tr {M M1 M2 : sg_M} (h : raB M M1) (h2 : raB M1 M2) : raB M M2 := fun a k h1 h6 h9 h10 h0 => (h2 a k h1 h6 h9 h10 h0).trans (h a k h1 h6 h9 h10 h0)
theorem raB_of {M M1 : sg_M} (h : raF M M1) : raB M M1 := fun a k h1 h6 h9 h10 h0 => h.1 a k h1 h6 h9 h10 (by omega)
theorem raB_s {M M1 : sg_M} (h : rsF M M1) : raB M M1 := raB_of (raF_of h)
theorem raB_W {M M1 : sg_M} (h : raB M M1) : reW M M1 := ⟨fun a ha => funext fun k => h a k (by omega) (by omega) (by omega) (by omega) (by omega), fun k hk => h 0 k (by omega) (by omega) (by omega) (by omega) (by omega)⟩
theorem raB_1 {M : sg_M} {k : Nat} {x : Int32} : raB M (sg_uI M 1 k x) := fun a j h1 _ _ _ _ => uI_na h1
theorem sv_B {M M1 : sg_M} (h : sv b M) (hF : raB M M1) : sv b M1 := fun k hk => by rw [hF 15 k (by omega) (by omega) (by omega) (by omega) (by omega), h k hk]
theorem bsR_c {x : Nat × Int × Int} {M M1 : sg_M} (h : bsR x M) (hF : rsF M M1) : bsR x M1 := ⟨by rw [hF.1 0 31 (by omega) (by omega) (by omega) (by omega), h.1], by rw [hF.2 0 32 (by omega) (by omega), h.2.1], by rw [hF.2 0 33 (by omega) (by omega), h.2.2]⟩
theorem bsR_1 {x : Nat × Int × Int} {M : sg_M} {k : Nat} {y : Int32} (h : bsR x M) : bsR x (sg_uI M 1 k y) := ⟨by rw [uI_na (by omega)]; exact h.1, h.2.1, h.2.2⟩
theorem r_without {M : sg_M} : ok (fX11_beginsWithout N 0 M) (fun M1 => bsR (10, 0, 1) M1 ∧ M1.1 1 = M.1 1 ∧ raB M M1) := by
  unfold fX11_beginsWithout
  refine ok_m (ok_m (ok_m (ok_some ⟨⟨?_, ?_, ?_⟩, ?_, fun a k h1 h6 h9 h10 h0 => ?_⟩)))
  · rw [uJ_i, uJ_i, uI_eq]; rfl
  · rw [uJ_nb (by omega), uJ_eq]; rfl
  · rw [uJ_eq]; rfl
  · funext k
    rw [uJ_i, uJ_i, uI_na (by omega)]
  · rw [uJ_i, uJ_i, uI_at, if_neg (by omega)]
theorem rS_k {d : Nat → Int32} {M M1 : sg_M} (h : rS d M) (h1 : ∀ a k, (a ≠ 0 ∨ k ≠ 31) → M1.1 a k = M.1 a k) (h2 : ∀ a k, (a ≠ 0 ∨ (k ≠ 32 ∧ k ≠ 33 ∧ k ≠ 37)) → M1.2 a k = M.2 a k) : rS d M1 := by
  obtain ⟨⟨g1, g2, g3, g4, g5⟩, g6⟩ := h
  have f9 : M1.1 9 = M.1 9 := funext fun k => h1 9 k (by omega)
  have f10 : M1.1 10 = M.1 10 := funext fun k => h1 10 k (by omega)
  refine ⟨⟨by rw [h1 0 21 (by omega), g1], by rw [h1 0 24 (by omega), f9, f10]; exact g2, ⟨by rw [h1 0 8 (by omega)]; exact g3.1, fun s hs => by rw [h1 6 _ (by omega), h1 6 _ (by omega)]; exact g3.2 s hs⟩, by rw [h2 0 26 (by omega)]; exact g4, fun i hi q hq => by unfold cellJ; rw [h2 11 _ (by omega)]; exact g5 i hi q hq⟩, ?_⟩
  rw [← g6]
  exact funext fun k => h1 1 k (by omega)
theorem r_keeps {d : Nat → Int32} {M : sg_M} (h : vb d) (hM : rS d M) (hN : 20 ≤ N) : ok (fX11_keeps N 0 M) (fun M1 => bsR (sco d) M1 ∧ rS d M1 ∧ raB M M1) := by
  have hS : rS d (sg_uI M 0 31 (nI (bSt d))) := rS_k hM (fun a k q => by rw [uI_at, if_neg (by omega)]) (fun _ _ _ => rfl)
  unfold fX11_keeps
  rw [r_dl h hM hN, e_b, e_m, r_mst h hS hN, e_b]
  refine ok_m (ok_m (ok_some ⟨⟨?_, ?_, ?_⟩, rS_k hS (fun a k q => rfl) (fun a k q => ?_), fun a k h1 h6 h9 h10 h0 => ?_⟩))
  · rw [uJ_i, uJ_i, uI_eq]; rfl
  · rw [uJ_nb (by omega), uJ_eq]; rfl
  · rw [uJ_eq, uJ_nb (by omega)]; exact r_whole hS
  · rw [uJ_at, if_neg (by omega), uJ_at, if_neg (by omega)]
  · rw [uJ_i, uJ_i, uI_at, if_neg (by omega)]
theorem lNn {x : Int} (h : 0 ≤ x) : lI x = lI ((x.toNat : Nat) : Int) := by rw [Int.toNat_of_nonneg h]
theorem cmpN_ge {x y : Nat} : 0 ≤ cmpN x y ↔ ¬ x < y := by
  unfold cmpN
  by_cases h : x < y
  · rw [if_pos h]
    exact ⟨fun z => absurd z (by decide), fun z => absurd h z⟩
  · rw [if_neg h]
    refine ⟨fun _ => h, fun _ => ?_⟩
    split <;> decide
theorem r_scores {d : Nat → Int32} {x : Nat × Int × Int} {M : sg_M} (h : vb d) (h1 : M.1 1 = d) (hx : gsc x) (hB : bsR x M) (hN : 1000 ≤ N) : ok (fX11_scores N 0 M) (fun res => (0 ≤ res.1 ↔ ¬ btr (sco d) x = true) ∧ rS d res.2 ∧ rsF M res.2) := by
  have g := gsc_b h
  have g1 := hx.1
  have st := bSt_b h
  unfold fX11_scores
  refine ok_bv (r_lay (N := N) h h1 hN) (fun M1 hM => ?_)
  obtain ⟨S1, F1⟩ := hM
  have B1 := bsR_c hB F1
  rw [r_dl h S1 (by omega), e_b, B1.1]
  refine ok_if (fun z => ?_) (fun z => ?_)
  · have z := (nI_eq (by omega) (by omega)).mp z
    obtain ⟨⟨m1, m2⟩, m3, m4⟩ := g.2
    obtain ⟨⟨k1, k2⟩, k3, k4⟩ := hx.2
    have e1 : (sco d).2.1 = bMx d := rfl
    have e2 : (sco d).2.2 = bD d := rfl
    rw [e1] at m1 m2
    rw [e2] at m3 m4
    rw [r_mst h S1 (by omega), e_b, r_whole S1, B1.2.1, B1.2.2, lNn m1, lNn (show 0 ≤ bD d by omega), lNn k1, lNn (show 0 ≤ x.2.2 by omega), r_compares (by omega) (by omega) (by omega) (by omega) (by omega), e_b]
    refine ok_some ⟨?_, S1, F1⟩
    show 0 ≤ cmpN _ _ ↔ _
    rw [cmpN_ge, btr_iff]
    have c1 : (((bMx d).toNat * x.2.2.toNat : Nat) : Int) = bMx d * x.2.2 := by rw [Int.natCast_mul, Int.toNat_of_nonneg m1, Int.toNat_of_nonneg (show 0 ≤ x.2.2 by omega)]
    have c2 : ((x.2.1.toNat * (bD d).toNat : Nat) : Int) = x.2.1 * bD d := by rw [Int.natCast_mul, Int.toNat_of_nonneg k1, Int.toNat_of_nonneg (show 0 ≤ bD d by omega)]
    have e3 : (sco d).1 = bSt d := rfl
    rw [e1, e2, e3]
    omega
  · have z : ¬ bSt d = x.1 := fun w => z (by rw [w])
    have e3 : (sco d).1 = bSt d := rfl
    rw [r_dl h S1 (by omega), e_b, B1.1]
    refine ok_if (fun y => ?_) (fun y => ?_)
    · have y : ¬ bSt d < x.1 := fun w => nI_ge w (by omega) y
      refine ok_some ⟨?_, S1, F1⟩
      rw [btr_iff, e3]
      exact ⟨fun _ => by omega, fun _ => show (0 : Int32) ≤ 1 by decide⟩
    · have y : bSt d < x.1 := by
        apply Classical.byContradiction
        intro w
        exact y (nI_le (by omega) (by omega))
      refine ok_some ⟨?_, S1, F1⟩
      rw [btr_iff, e3]
      exact ⟨fun w => absurd w (show ¬ (0 : Int32) ≤ -1 by decide), fun w => absurd (Or.inl y) w⟩
end SC
