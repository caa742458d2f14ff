/-! the reference's tokens -/
theorem kk_1 {y : Nat} : kk y = 1 ↔ 97 ≤ y ∧ y ≤ 122 := by
  unfold kk
  split
  · omega
  · split
    · omega
    · split
      · omega
      · split <;> omega
theorem kk_2 {y : Nat} : kk y = 2 ↔ 48 ≤ y ∧ y ≤ 57 := by
  unfold kk
  split
  · omega
  · split
    · omega
    · split
      · omega
      · split <;> omega
theorem kk_3 {y : Nat} : kk y = 3 ↔ y = 59 := by
  unfold kk
  split
  · omega
  · split
    · omega
    · split
      · omega
      · split <;> omega
theorem kk_4 {y : Nat} : kk y = 4 ↔ y = 32 ∨ y = 10 := by
  unfold kk
  split
  · omega
  · split
    · omega
    · split
      · omega
      · split <;> omega
section AD
variable {N sz : Nat} {yb : Nat → Nat}
def seeV (sz : Nat) (yb : Nat → Nat) (i : Nat) : Int32 := if i < sz then nI (yb i) else -1
theorem see_i {i : Nat} (hy : ∀ i, yb i < 256) : (seeV sz yb i).toInt = if i < sz then (yb i : Int) else -1 := by
  unfold seeV
  have := hy i
  by_cases q : i < sz
  · rw [if_pos q, if_pos q, nI_toInt (by omega)]
  · rw [if_neg q, if_neg q]; decide
theorem r_see {i : Nat} {M : sg_M} (hT : rTx sz yb M) (hi : i ≤ sz) : fX11_see N 0 (nI i) M = some (seeV sz yb i, M) := by
  obtain ⟨s7, hy, h7, h12⟩ := hT
  unfold fX11_see seeV
  rw [h12, yr_9, yl_7]
  by_cases q : i < sz
  · rw [if_pos q, if_neg (nI_ge q (by omega)), if_pos (ib_nI (by omega) (by omega)), nI_clamp (show i < 2 ^ 31 by omega), (h7 i q).1]
  · rw [if_neg q, if_pos (nI_le (by omega) (by omega))]
theorem see_eq {i c : Nat} (hy : ∀ i, yb i < 256) (hc : c < 1000) : seeV sz yb i = nI c ↔ i < sz ∧ yb i = c := by
  rw [← Int32.toInt_inj, see_i hy, nI_toInt (by omega)]
  by_cases q : i < sz
  · rw [if_pos q]; omega
  · rw [if_neg q]; omega
theorem r_inS {i : Nat} {lo hi : Int} {M : sg_M} (hy : ∀ i, yb i < 256) (h1 : 0 ≤ lo ∧ lo < 1000) (h2 : 0 ≤ hi ∧ hi < 1000) : fX11_in N (seeV sz yb i).toInt64 (lI lo) (lI hi) M = some (if i < sz ∧ lo ≤ yb i ∧ (yb i : Int) ≤ hi then 1 else 0, M) := by
  rw [r_inG (by omega) (by omega), see_i hy]
  by_cases q : i < sz
  · rw [if_pos q]
    by_cases w : lo ≤ yb i ∧ (yb i : Int) ≤ hi
    · rw [if_pos w, if_pos ⟨q, w⟩]
    · rw [if_neg w, if_neg (fun z => w z.2)]
  · rw [if_neg q, if_neg (by omega), if_neg (fun z => q z.1)]
def r1F (M M1 : sg_M) : Prop := (∀ a k, (a ≠ 0 ∨ k < 13 ∨ 17 ≤ k) → M1.1 a k = M.1 a k) ∧ M1.2 = M.2
theorem r1F_tr {M M1 M2 : sg_M} (h : r1F M M1) (h2 : r1F M1 M2) : r1F M M2 := ⟨fun a k q => (h2.1 a k q).trans (h.1 a k q), h2.2.trans h.2⟩
theorem r1F_u {M : sg_M} {k : Nat} {x : Int32} (hk : 13 ≤ k ∧ k < 17) : r1F M (sg_uI M 0 k x) := ⟨fun a j h => by rw [uI_at, if_neg (by omega)], rfl⟩
theorem rTx_c {M M1 : sg_M} (h : rTx sz yb M) (e : ∀ a k, (a = 7 ∨ (a = 0 ∧ k = 12)) → M1.1 a k = M.1 a k) : rTx sz yb M1 := ⟨h.1, h.2.1, fun i hi => by rw [e 7 i (by omega)]; exact h.2.2.1 i hi, by rw [e 0 12 (by omega), h.2.2.2]⟩
set_option maxHeartbeats 1000000 in
theorem adv_ok {p : Nat} {M : sg_M} (hT : rTx sz yb M) (h13 : M.1 0 13 = nI p) (hp : p ≤ sz) (hN : 1000 ≤ N) : ok (fX11_advance N 0 M) (fun M1 => rtok sz yb p M1 ∧ r1F M M1) := by
  obtain ⟨s7, hy, h7, h12⟩ := id hT
  obtain ⟨f1, f2, f3, f4⟩ := rn_s (q := qk yb 4) hp
  have f1 : p ≤ fi sz yb p := f1
  have f2 : fi sz yb p ≤ sz := f2
  unfold fX11_advance gX11_advance_0
  refine ok_lp (fun m s M1 => ∃ e, p ≤ e ∧ e ≤ fi sz yb p ∧ m = fi sz yb p - e ∧ s = 0 ∧ M1.1 0 13 = nI e ∧ r1F M M1) ?_ N (fi sz yb p - p) _ _ ⟨p, Nat.le_refl _, f1, rfl, rfl, h13, fun _ _ _ => rfl, rfl⟩ (by omega)
  rintro m s M1 back ⟨e, e1, e2, rfl, rfl, g13, gF⟩ hb
  have T1 : rTx sz yb M1 := rTx_c hT (fun a k ha => gF.1 a k (by omega))
  have sp : (e < sz ∧ kk (yb e) = 4) → ok (gX11_advance_26 N back 0 M1) (fun M1 => rtok sz yb p M1 ∧ r1F M M1) := fun w => by
    have lt : e < fi sz yb p := by
      apply Classical.byContradiction
      intro v
      have ee : e = fi sz yb p := by omega
      have := f4 (show rn (qk yb 4) sz p < sz by show fi sz yb p < sz; omega)
      have this : decide (kk (yb (fi sz yb p)) = 4) = false := this
      rw [← ee, decide_eq_true w.2] at this
      cases this
    unfold gX11_advance_26
    rw [g13, nI_1]
    exact ok_m (hb (fi sz yb p - (e + 1)) _ _ (by omega) ⟨e + 1, (by omega), (by omega), rfl, rfl, uI_eq, r1F_tr gF (r1F_u (by omega))⟩)
  unfold bX11_advance_0
  rw [g13, r_see T1 (by omega), e_b]
  refine ok_if (fun z => sp ?_) (fun z => ?_)
  · have z := (see_eq hy (show 32 < 1000 by omega)).mp z
    exact ⟨z.1, kk_4.mpr (Or.inl z.2)⟩
  rw [g13, r_see T1 (by omega), e_b]
  refine ok_if (fun y => sp ?_) (fun y => ?_)
  · have y := (see_eq hy (show 10 < 1000 by omega)).mp y
    exact ⟨y.1, kk_4.mpr (Or.inr y.2)⟩
  have n4 : ¬ (e < sz ∧ kk (yb e) = 4) := fun w => by
    rcases kk_4.mp w.2 with v | v
    · exact z ((see_eq hy (show 32 < 1000 by omega)).mpr ⟨w.1, v⟩)
    · exact y ((see_eq hy (show 10 < 1000 by omega)).mpr ⟨w.1, v⟩)
  have ee : e = fi sz yb p := by
    apply Classical.byContradiction
    intro w
    exact n4 ⟨(by omega), of_decide_eq_true (f3 e e1 (show e < fi sz yb p by omega))⟩
  rw [g13]
  refine ok_m ?_
  have F2 : r1F M (sg_uI M1 0 14 (nI e)) := r1F_tr gF (r1F_u (by omega))
  have T2 : rTx sz yb (sg_uI M1 0 14 (nI e)) := rTx_c hT (fun a k ha => F2.1 a k (by omega))
  have g14 : (sg_uI M1 0 14 (nI e)).1 0 14 = nI (fi sz yb p) := by rw [uI_eq, ee]
  have g132 : (sg_uI M1 0 14 (nI e)).1 0 13 = nI (fi sz yb p) := by rw [uI_nb (by omega), g13, ee]
  rw [g132, r_see T2 f2, e_b, show (97 : Int64) = lI 97 from rfl, show (122 : Int64) = lI 122 from rfl, show (48 : Int64) = lI 48 from rfl, show (57 : Int64) = lI 57 from rfl]
  refine ok_m ?_
  generalize hM2 : sg_uI M1 0 14 (nI e) = M2 at F2 T2 g14 g132 ⊢
  rw [r_inS hy (by omega) (by omega), e_b, r_inS hy (by omega) (by omega), e_b]
  refine ok_if (fun w => ?_) (fun w => ?_)
  · have w : ¬ fi sz yb p < sz := fun v => by
      unfold seeV at w
      have := hy (fi sz yb p)
      rw [if_pos v, qn1 (by omega)] at w
      exact w
    have k0 : kn sz yb p = 0 := by unfold kn; rw [if_neg w]
    have b0 : be sz yb p = fi sz yb p := by unfold be; rw [if_neg w]
    exact ok_m (ok_some ⟨⟨by rw [uI_nb (by omega), g14], by rw [uI_nb (by omega), g132, b0], by rw [uI_eq, k0]; rfl, fun z => by rw [k0] at z; cases z⟩, r1F_tr F2 (r1F_u (by omega))⟩)
  have q : fi sz yb p < sz := by
    apply Classical.byContradiction
    intro v
    apply w
    unfold seeV
    rw [if_neg v]
  have ek : kn sz yb p = kk (yb (fi sz yb p)) := by unfold kn; rw [if_pos q]
  have kb := kk_b (yb (fi sz yb p))
  by_cases L : kk (yb (fi sz yb p)) = 1
  · have l1 := kk_1.mp L
    rw [if_pos (show fi sz yb p < sz ∧ (97 : Int) ≤ yb (fi sz yb p) ∧ (yb (fi sz yb p) : Int) ≤ 122 by omega)]
    refine ok_f q1 ?_
    have k1 : kn sz yb p = 1 := ek.trans L
    have eb : be sz yb p = rn (qk yb 1) sz (fi sz yb p) := by unfold be; rw [if_pos q, k1, if_pos (Or.inl rfl)]
    obtain ⟨r1, r2, r3, r4⟩ := rn_s (q := qk yb 1) f2
    rw [← eb] at r1 r2 r3 r4
    unfold gX11_advance_83
    refine ok_lp (fun m s M3 => ∃ t, fi sz yb p ≤ t ∧ t ≤ be sz yb p ∧ m = be sz yb p - t ∧ s = 0 ∧ M3.1 0 13 = nI t ∧ M3.1 0 14 = nI (fi sz yb p) ∧ r1F M M3) ?_ N (be sz yb p - fi sz yb p) _ _ ⟨fi sz yb p, Nat.le_refl _, r1, rfl, rfl, g132, g14, F2⟩ (by omega)
    rintro m s M3 back3 ⟨t, t1, t2, rfl, rfl, a13, a14, aF⟩ hb3
    have T3 : rTx sz yb M3 := rTx_c hT (fun a k ha => aF.1 a k (by omega))
    unfold bX11_advance_83
    rw [a13, r_see T3 (by omega), e_b, show (97 : Int64) = lI 97 from rfl, show (122 : Int64) = lI 122 from rfl, r_inS hy (by omega) (by omega), e_b, a13, nI_1]
    by_cases v : t < be sz yb p
    · have := kk_1.mp (of_decide_eq_true (r3 t t1 v))
      rw [if_pos (show t < sz ∧ (97 : Int) ≤ yb t ∧ (yb t : Int) ≤ 122 by omega)]
      exact ok_f q1 (ok_m (hb3 (be sz yb p - (t + 1)) _ _ (by omega) ⟨t + 1, (by omega), (by omega), rfl, rfl, uI_eq, by rw [uI_nb (by omega), a14], r1F_tr aF (r1F_u (by omega))⟩))
    · have et : t = be sz yb p := by omega
      have nl : ¬ (t < sz ∧ (97 : Int) ≤ yb t ∧ (yb t : Int) ≤ 122) := fun u => by
        have := of_decide_eq_false (r4 (by omega))
        rw [← et] at this
        exact this (kk_1.mpr (by omega))
      rw [if_neg nl]
      exact ok_t q0 (ok_m (ok_some ⟨⟨by rw [uI_nb (by omega), a14], by rw [uI_nb (by omega), a13, et], by rw [uI_eq, k1]; rfl, fun z => by rw [k1] at z; cases z⟩, r1F_tr aF (r1F_u (by omega))⟩))
  have nL : ¬ (fi sz yb p < sz ∧ (97 : Int) ≤ yb (fi sz yb p) ∧ (yb (fi sz yb p) : Int) ≤ 122) := fun u => L (kk_1.mpr (by omega))
  rw [if_neg nL]
  refine ok_t q0 ?_
  by_cases D : kk (yb (fi sz yb p)) = 2
  · have l1 := kk_2.mp D
    rw [if_pos (show fi sz yb p < sz ∧ (48 : Int) ≤ yb (fi sz yb p) ∧ (yb (fi sz yb p) : Int) ≤ 57 by omega)]
    refine ok_f q1 (ok_m ?_)
    have k1 : kn sz yb p = 2 := ek.trans D
    have eb : be sz yb p = rn (qk yb 2) sz (fi sz yb p) := by unfold be; rw [if_pos q, k1, if_pos (Or.inr rfl)]
    obtain ⟨r1, r2, r3, r4⟩ := rn_s (q := qk yb 2) f2
    rw [← eb] at r1 r2 r3 r4
    unfold gX11_advance_144
    refine ok_lp (fun m s M3 => ∃ t, fi sz yb p ≤ t ∧ t ≤ be sz yb p ∧ m = be sz yb p - t ∧ s = 0 ∧ M3.1 0 13 = nI t ∧ M3.1 0 14 = nI (fi sz yb p) ∧ M3.1 0 16 = nI (min (vv yb (fi sz yb p) (t - fi sz yb p)) 99999) ∧ r1F M M3) ?_ N (be sz yb p - fi sz yb p) _ _ ⟨fi sz yb p, Nat.le_refl _, r1, rfl, rfl, by rw [uI_nb (by omega), g132], by rw [uI_nb (by omega), g14], by rw [uI_eq, Nat.sub_self]; rfl, r1F_tr F2 (r1F_u (by omega))⟩ (by omega)
    rintro m s M3 back3 ⟨t, t1, t2, rfl, rfl, a13, a14, a16, aF⟩ hb3
    have T3 : rTx sz yb M3 := rTx_c hT (fun a k ha => aF.1 a k (by omega))
    unfold bX11_advance_144
    rw [a13, r_see T3 (by omega), e_b, show (48 : Int64) = lI 48 from rfl, show (57 : Int64) = lI 57 from rfl, r_inS hy (by omega) (by omega), e_b]
    by_cases v : t < be sz yb p
    · have dg := kk_2.mp (of_decide_eq_true (r3 t t1 v))
      rw [if_pos (show t < sz ∧ (48 : Int) ≤ yb t ∧ (yb t : Int) ≤ 57 by omega)]
      refine ok_f q1 ?_
      rw [a13, r_see T3 (by omega), e_b, a16]
      have es : seeV sz yb t = nI (yb t) := by unfold seeV; rw [if_pos (by omega)]
      have ev : vv yb (fi sz yb p) (t + 1 - fi sz yb p) = 10 * vv yb (fi sz yb p) (t - fi sz yb p) + (yb t - 48) := by
        rw [show t + 1 - fi sz yb p = (t - fi sz yb p) + 1 by omega]
        show 10 * _ + (yb (fi sz yb p + (t - fi sz yb p)) - 48) = _
        rw [show fi sz yb p + (t - fi sz yb p) = t by omega]
      have em : (10 : Int32) * nI (min (vv yb (fi sz yb p) (t - fi sz yb p)) 99999) + nI (yb t) - 48 = nI (10 * min (vv yb (fi sz yb p) (t - fi sz yb p)) 99999 + (yb t - 48)) := by
        rw [show (10 : Int32) = nI 10 from rfl, nI_mul, nI_add, show (48 : Int32) = nI 48 from rfl, nI_sub (by omega)]
        congr 1
        omega
      rw [es, em]
      have en : (if nI (10 * min (vv yb (fi sz yb p) (t - fi sz yb p)) 99999 + (yb t - 48)) < (99999 : Int32) then nI (10 * min (vv yb (fi sz yb p) (t - fi sz yb p)) 99999 + (yb t - 48)) else (99999 : Int32)) = nI (min (vv yb (fi sz yb p) (t + 1 - fi sz yb p)) 99999) := by
        rw [ev]
        have yt := hy t
        generalize hX : 10 * min (vv yb (fi sz yb p) (t - fi sz yb p)) 99999 + (yb t - 48) = X
        show (if nI X < nI 99999 then nI X else nI 99999) = _
        by_cases u : X < 99999
        · rw [if_pos (nI_lt u (by omega))]
          congr 1
          omega
        · rw [if_neg (nI_nlt (by omega) (by omega))]
          congr 1
          omega
      rw [en]
      refine ok_m ?_
      rw [uI_nb (show 13 ≠ 16 by decide), a13, nI_1]
      exact ok_m (hb3 (be sz yb p - (t + 1)) _ _ (by omega) ⟨t + 1, (by omega), (by omega), rfl, rfl, uI_eq, by rw [uI_nb (by omega), uI_nb (by omega), a14], by rw [uI_nb (by omega), uI_eq], r1F_tr aF (r1F_tr (r1F_u (by omega)) (r1F_u (by omega)))⟩)
    · have et : t = be sz yb p := by omega
      have nl : ¬ (t < sz ∧ (48 : Int) ≤ yb t ∧ (yb t : Int) ≤ 57) := fun u => by
        have := of_decide_eq_false (r4 (by omega))
        rw [← et] at this
        exact this (kk_2.mpr (by omega))
      rw [if_neg nl]
      exact ok_t q0 (ok_m (ok_some ⟨⟨by rw [uI_nb (by omega), a14], by rw [uI_nb (by omega), a13, et], by rw [uI_eq, k1]; rfl, fun _ => by rw [uI_nb (by omega), a16, et]; rfl⟩, r1F_tr aF (r1F_u (by omega))⟩))
  have nD : ¬ (fi sz yb p < sz ∧ (48 : Int) ≤ yb (fi sz yb p) ∧ (yb (fi sz yb p) : Int) ≤ 57) := fun u => D (kk_2.mpr (by omega))
  rw [if_neg nD]
  refine ok_t q0 ?_
  have n12 : ¬ (kn sz yb p = 1 ∨ kn sz yb p = 2) := by omega
  have eb : be sz yb p = fi sz yb p + 1 := by unfold be; rw [if_pos q, if_neg n12]
  have hk4 := kn_4 (yb := yb) hp
  refine ok_if (fun v => ?_) (fun v => ?_)
  · have v := (see_eq hy (show 59 < 1000 by omega)).mp v
    have k3 : kn sz yb p = 3 := ek.trans (kk_3.mpr v.2)
    refine ok_m ?_
    rw [uI_nb (show 13 ≠ 15 by decide), g132, nI_1]
    exact ok_m (ok_some ⟨⟨by rw [uI_nb (by omega), uI_nb (by omega), g14], by rw [uI_eq, eb], by rw [uI_nb (by omega), uI_eq, k3]; rfl, fun z => by rw [k3] at z; cases z⟩, r1F_tr F2 (r1F_tr (r1F_u (by omega)) (r1F_u (by omega)))⟩)
  · have n3 : ¬ kk (yb (fi sz yb p)) = 3 := fun u => v ((see_eq hy (show 59 < 1000 by omega)).mpr ⟨q, kk_3.mp u⟩)
    have k5 : kn sz yb p = 5 := by omega
    refine ok_m ?_
    rw [uI_nb (show 13 ≠ 15 by decide), g132, nI_1]
    exact ok_m (ok_some ⟨⟨by rw [uI_nb (by omega), uI_nb (by omega), g14], by rw [uI_eq, eb], by rw [uI_nb (by omega), uI_eq, k5]; rfl, fun z => by rw [k5] at z; cases z⟩, r1F_tr F2 (r1F_tr (r1F_u (by omega)) (r1F_u (by omega)))⟩)
end AD
