/-! Flow.fillRows -/
theorem uJ_add {M : sg_M} {j k a b : Nat} {d : Int64} : (sg_uJ M j k (M.2 j k + d)).2 a b = M.2 a b + (if a = j ∧ b = k then d else 0) := by
  rw [uJ_at]
  by_cases h : a = j ∧ b = k
  · rw [if_pos h, if_pos h, h.1, h.2]
  · rw [if_neg h, if_neg h, Int64.add_zero]
theorem uJ_sub {M : sg_M} {j k a b : Nat} {d : Int64} : (sg_uJ M j k (M.2 j k - d)).2 a b = M.2 a b - (if a = j ∧ b = k then d else 0) := by
  rw [uJ_at]
  by_cases h : a = j ∧ b = k
  · rw [if_pos h, if_pos h, h.1, h.2]
  · rw [if_neg h, if_neg h, Int64.sub_zero]
theorem lI_if {p : Prop} [Decidable p] {z : Int} : (if p then lI z else 0) = lI (if p then z else 0) := by
  by_cases h : p
  · rw [if_pos h, if_pos h]
  · rw [if_neg h, if_neg h]; rfl
theorem Lt_eq {c r s v u : Nat} {w : Nat → Nat} : Lt c r w v u s = (if v = sA c r s ∧ u = sA c r s then (w s : Int) else 0) + (if v = sB c r s ∧ u = sB c r s then (w s : Int) else 0) - (if v = sA c r s ∧ u = sB c r s then (w s : Int) else 0) - (if v = sB c r s ∧ u = sA c r s then (w s : Int) else 0) := rfl
theorem ififf {p q : Prop} [Decidable p] [Decidable q] {x : Int} (h : p ↔ q) : (if p then x else 0) = if q then x else 0 := by
  by_cases z : p
  · rw [if_pos z, if_pos (h.mp z)]
  · rw [if_neg z, if_neg (fun y => z (h.mpr y))]
def rowJ (f : Nat) (M : sg_M) (i j : Nat) : Int64 := M.2 (f + 6 + i) j
/-- the rows' part of the store is all that changes -/
def rowF (f : Nat) (M M1 : sg_M) : Prop := M1.1 = M.1 ∧ ∀ a k, (a < f + 6 ∨ f + 15 ≤ a) → M1.2 a k = M.2 a k
/-- what a strap does to the rows -/
def strapJ (c r : Nat) (w : Nat → Nat) (un : Nat → Bool) (s f : Nat) (M M1 : sg_M) : Prop := rowF f M M1 ∧ (∀ i k, (Ul un (c * r)).length ≤ k → rowJ f M1 i k = rowJ f M i k) ∧ ∀ i j, i < (Ul un (c * r)).length → j < (Ul un (c * r)).length → rowJ f M1 i j = rowJ f M i j + lI (Lt c r w ((Ul un (c * r)).getD i 0) ((Ul un (c * r)).getD j 0) s)
theorem at_ix {un : Nat → Bool} {n A i f : Nat} (hA : A < n) (hu : un A = true) (hi : i < (Ul un n).length) : (f + 6 + i = f + 6 + (Ul un A).length) ↔ (Ul un n).getD i 0 = A := by
  have := ix_eq hA hu hi
  constructor
  · intro h; exact (this.mp (by omega)).symm
  · intro h; have := this.mpr h.symm; omega
theorem at_ix1 {un : Nat → Bool} {n A i : Nat} (hA : A < n) (hu : un A = true) (hi : i < (Ul un n).length) : (i = (Ul un A).length) ↔ (Ul un n).getD i 0 = A := by
  have := ix_eq hA hu hi
  constructor
  · intro h; exact (this.mp h.symm).symm
  · intro h; exact (this.mpr h.symm).symm
theorem no_ix {un : Nat → Bool} {n A i : Nat} (hu : un A = false) (hi : i < (Ul un n).length) : ¬ (Ul un n).getD i 0 = A := by
  intro h
  have := (Ul_at hi).2
  rw [h, hu] at this
  cases this
set_option maxHeartbeats 2000000 in
theorem strap_ok {N f q a c r s : Nat} {w : Nat → Nat} {un : Nat → Bool} {M : sg_M} {back : (Nat × Nat × Nat × Int32) → sg_M → Option sg_M} {P : sg_M → Prop} (hf : sg_K Yc f 1) (hq : sg_K Yc q 4) (hs : shp c r) (hla : Yc.2.2.1 a = 12) (hsn : s < ns c r) (h6 : M.1 q 6 = nI (ns c r)) (hA : M.1 (q + 1) s = nI (sA c r s)) (hB : M.1 (q + 2) s = nI (sB c r s)) (hw : M.1 a s = nI (w s) ∧ w s < 100) (hr : ∀ v, v < c * r → M.1 (f + 4) v = if un v = true then nI (Ul un v).length else -1) (hm : (Ul un (c * r)).length ≤ 9) (hb : ∀ M1, strapJ c r w un s f M M1 → ok (back (f, q, a, nI (s + 1)) M1) P) : ok (bX1_fillRows_54 N back (f, q, a, nI s) M) P := by
  have hns := ns_le hs
  have h9 := hs.2.2
  obtain ⟨hab, hbn⟩ := sAB hs hsn
  obtain ⟨hw1, hw2⟩ := hw
  unfold bX1_fillRows_54
  dsimp only
  rw [h6]
  refine ok_f (nI_ge hsn (by omega)) ?_
  rw [rc4_9 hq, rc4_10 hq, lc4_9 hq, lc4_10 hq, rc1_6 hf, lc1_6 hf, rc1_7 hf, lc1_7 hf, nI_clamp (show s < 2 ^ 31 by omega), hA, hB, hw1, hla, nI_clamp (show sA c r s < 2 ^ 31 by omega), nI_clamp (show sB c r s < 2 ^ 31 by omega), hr (sA c r s) (by omega), hr (sB c r s) hbn, lI_nI (show w s < 2 ^ 31 by omega)]
  refine ok_t (ib_nI (by omega) (by omega)) (ok_t (ib_nI (by omega) (by omega)) (ok_m (ok_t (ib_nI (by omega) (by omega)) (ok_t (ib_nI (by omega) (by omega)) (ok_m ?_)))))
  have i12 : sg_ib (nI s) 12 = true := ib_nI (by omega) (by omega)
  have nm1 : ∀ v, v < 100 → ¬ nI v = -1 := by decide +kernel
  by_cases uA : un (sA c r s) = true <;> by_cases uB : un (sB c r s) = true
  · -- both
    have hi1 := (Ul_in (unk := un) (show sA c r s < c * r by omega) uA).1
    have hi2 := (Ul_in (unk := un) hbn uB).1
    rw [if_pos uA, if_pos uB]
    rw [nI_clamp (show (Ul un (sA c r s)).length < 2 ^ 31 by omega), re1_7 hf (show (Ul un (sA c r s)).length < 9 by omega), Nat.one_mul, le1_7 hf (show (Ul un (sA c r s)).length < 9 by omega)]
    refine ok_f (nm1 _ (by omega)) (ok_t (ib_nI (by omega) (by omega)) (ok_t (ib_nI (by omega) (by omega)) (ok_t i12 (ok_t (ib_nI (by omega) (by omega)) (ok_m ?_)))))
    unfold gX1_fillRows_115
    rw [rc1_7 hf, lc1_7 hf, nI_clamp (show (Ul un (sB c r s)).length < 2 ^ 31 by omega), nI_clamp (show s < 2 ^ 31 by omega), re1_7 hf (show (Ul un (sB c r s)).length < 9 by omega), Nat.one_mul, le1_7 hf (show (Ul un (sB c r s)).length < 9 by omega), hla, uJ_i, hw1, lI_nI (show w s < 2 ^ 31 by omega)]
    refine ok_f (nm1 _ (by omega)) (ok_t (ib_nI (by omega) (by omega)) (ok_t (ib_nI (by omega) (by omega)) (ok_t i12 (ok_t (ib_nI (by omega) (by omega)) (ok_m ?_)))))
    unfold gX1_fillRows_139
    rw [rc1_7 hf, lc1_7 hf, nI_clamp (show (Ul un (sB c r s)).length < 2 ^ 31 by omega), nI_clamp (show (Ul un (sA c r s)).length < 2 ^ 31 by omega), nI_clamp (show s < 2 ^ 31 by omega), re1_7 hf (show (Ul un (sB c r s)).length < 9 by omega), re1_7 hf (show (Ul un (sA c r s)).length < 9 by omega), Nat.one_mul, Nat.one_mul, le1_7 hf (show (Ul un (sB c r s)).length < 9 by omega), le1_7 hf (show (Ul un (sA c r s)).length < 9 by omega), hla]
    refine ok_f (nm1 _ (by omega)) (ok_f (nm1 _ (by omega)) (ok_t (ib_nI (by omega) (by omega)) (ok_t (ib_nI (by omega) (by omega)) (ok_t i12 (ok_t (ib_nI (by omega) (by omega)) (ok_m ?_))))))
    refine ok_t (ib_nI (by omega) (by omega)) (ok_t (ib_nI (by omega) (by omega)) (ok_t i12 (ok_t (ib_nI (by omega) (by omega)) (ok_m (ok_m ?_)))))
    simp only [uJ_i]
    rw [nI_1, hw1, lI_nI (show w s < 2 ^ 31 by omega)]
    refine hb _ ⟨⟨rfl, fun x k hx => ?_⟩, fun i k hk => ?_, fun i j hi hj => ?_⟩
    · rw [uJ_na (by omega), uJ_na (by omega), uJ_na (by omega), uJ_na (by omega)]
    · unfold rowJ
      rw [uJ_nb (by omega), uJ_nb (by omega), uJ_nb (by omega), uJ_nb (by omega)]
    · unfold rowJ
      have hAn : sA c r s < c * r := by omega
      rw [uJ_sub, uJ_sub, uJ_add, uJ_add, Lt_eq, lI_if, lI_if, lI_if, lI_if]
      rw [ififf (and_congr (at_ix hAn uA hi) (at_ix1 hAn uA hj)), ififf (and_congr (at_ix hbn uB hi) (at_ix1 hbn uB hj)), ififf (and_congr (at_ix hAn uA hi) (at_ix1 hbn uB hj)), ififf (and_congr (at_ix hbn uB hi) (at_ix1 hAn uA hj))]
      rw [← lI_sub, ← lI_sub, ← lI_add]
      simp only [Int64.sub_eq_add_neg, Int64.add_assoc]
  · -- the first alone
    have uB0 : un (sB c r s) = false := by simpa using uB
    have hi2 := (Ul_in (unk := un) (show sA c r s < c * r by omega) uA).1
    rw [if_pos uA, if_neg uB]
    rw [nI_clamp (show (Ul un (sA c r s)).length < 2 ^ 31 by omega), re1_7 hf (show (Ul un (sA c r s)).length < 9 by omega), Nat.one_mul, le1_7 hf (show (Ul un (sA c r s)).length < 9 by omega)]
    refine ok_f (nm1 _ (by omega)) (ok_t (ib_nI (by omega) (by omega)) (ok_t (ib_nI (by omega) (by omega)) (ok_t i12 (ok_t (ib_nI (by omega) (by omega)) (ok_m ?_)))))
    unfold gX1_fillRows_115
    refine ok_t rfl ?_
    unfold gX1_fillRows_139
    refine ok_f (nm1 _ (by omega)) (ok_t rfl (ok_m ?_))
    rw [nI_1]
    refine hb _ ⟨⟨rfl, fun x k hx => uJ_na (by omega)⟩, fun i k hk => uJ_nb (by omega), fun i j hi hj => ?_⟩
    unfold rowJ
    have hAn : sA c r s < c * r := by omega
    rw [uJ_add, lI_if, ififf (and_congr (at_ix hAn uA hi) (at_ix1 hAn uA hj)), Lt_eq, if_neg (show ¬ ((Ul un (c * r)).getD i 0 = sB c r s ∧ (Ul un (c * r)).getD j 0 = sB c r s) from fun z => no_ix uB0 hi z.1), if_neg (show ¬ ((Ul un (c * r)).getD i 0 = sA c r s ∧ (Ul un (c * r)).getD j 0 = sB c r s) from fun z => no_ix uB0 hj z.2), if_neg (show ¬ ((Ul un (c * r)).getD i 0 = sB c r s ∧ (Ul un (c * r)).getD j 0 = sA c r s) from fun z => no_ix uB0 hi z.1)]
    congr 2
    omega
  · -- the second alone
    have uA0 : un (sA c r s) = false := by simpa using uA
    have hi2 := (Ul_in (unk := un) hbn uB).1
    rw [if_neg uA, if_pos uB]
    refine ok_t rfl ?_
    unfold gX1_fillRows_115
    rw [rc1_7 hf, lc1_7 hf, nI_clamp (show (Ul un (sB c r s)).length < 2 ^ 31 by omega), nI_clamp (show s < 2 ^ 31 by omega), re1_7 hf (show (Ul un (sB c r s)).length < 9 by omega), Nat.one_mul, le1_7 hf (show (Ul un (sB c r s)).length < 9 by omega), hla, hw1, lI_nI (show w s < 2 ^ 31 by omega)]
    refine ok_f (nm1 _ (by omega)) (ok_t (ib_nI (by omega) (by omega)) (ok_t (ib_nI (by omega) (by omega)) (ok_t i12 (ok_t (ib_nI (by omega) (by omega)) (ok_m ?_)))))
    unfold gX1_fillRows_139
    refine ok_t rfl (ok_m ?_)
    rw [nI_1]
    refine hb _ ⟨⟨rfl, fun x k hx => uJ_na (by omega)⟩, fun i k hk => uJ_nb (by omega), fun i j hi hj => ?_⟩
    unfold rowJ
    rw [uJ_add, lI_if, ififf (and_congr (at_ix hbn uB hi) (at_ix1 hbn uB hj)), Lt_eq, if_neg (show ¬ ((Ul un (c * r)).getD i 0 = sA c r s ∧ (Ul un (c * r)).getD j 0 = sA c r s) from fun z => no_ix uA0 hi z.1), if_neg (show ¬ ((Ul un (c * r)).getD i 0 = sA c r s ∧ (Ul un (c * r)).getD j 0 = sB c r s) from fun z => no_ix uA0 hi z.1), if_neg (show ¬ ((Ul un (c * r)).getD i 0 = sB c r s ∧ (Ul un (c * r)).getD j 0 = sA c r s) from fun z => no_ix uA0 hj z.2)]
    congr 2
    omega
  · -- none
    have uA0 : un (sA c r s) = false := by simpa using uA
    have uB0 : un (sB c r s) = false := by simpa using uB
    rw [if_neg uA, if_neg uB]
    refine ok_t rfl ?_
    unfold gX1_fillRows_115
    refine ok_t rfl ?_
    unfold gX1_fillRows_139
    refine ok_t rfl (ok_m ?_)
    rw [nI_1]
    refine hb M ⟨⟨rfl, fun _ _ _ => rfl⟩, fun _ _ _ => rfl, fun i j hi hj => ?_⟩
    rw [Lt_eq, if_neg (show ¬ ((Ul un (c * r)).getD i 0 = sA c r s ∧ (Ul un (c * r)).getD j 0 = sA c r s) from fun z => no_ix uA0 hi z.1), if_neg (show ¬ ((Ul un (c * r)).getD i 0 = sB c r s ∧ (Ul un (c * r)).getD j 0 = sB c r s) from fun z => no_ix uB0 hi z.1), if_neg (show ¬ ((Ul un (c * r)).getD i 0 = sA c r s ∧ (Ul un (c * r)).getD j 0 = sB c r s) from fun z => no_ix uA0 hi z.1), if_neg (show ¬ ((Ul un (c * r)).getD i 0 = sB c r s ∧ (Ul un (c * r)).getD j 0 = sA c r s) from fun z => no_ix uB0 hi z.1)]
    show _ = _ + lI 0
    rw [lI_0, Int64.add_zero]
theorem rowF_tr {f : Nat} {M M1 M2 : sg_M} (h : rowF f M M1) (h2 : rowF f M1 M2) : rowF f M M2 := ⟨h2.1.trans h.1, fun a k ha => (h2.2 a k ha).trans (h.2 a k ha)⟩
/-- what Flow.fillRows leaves -/
def fillP (c r : Nat) (w : Nat → Nat) (un : Nat → Bool) (L : Nat → Nat) (f : Nat) (M M1 : sg_M) : Prop := rowF f M M1 ∧ (∀ i j, i < (Ul un (c * r)).length → j < (Ul un (c * r)).length → rowJ f M1 i j = lI (LnK c r w (ns c r) ((Ul un (c * r)).getD i 0) ((Ul un (c * r)).getD j 0))) ∧ ∀ i, i < (Ul un (c * r)).length → rowJ f M1 i (Ul un (c * r)).length = lI (L ((Ul un (c * r)).getD i 0))
set_option maxHeartbeats 2000000 in
theorem fillRows_ok {N f q a ld c r : Nat} {w L : Nat → Nat} {un : Nat → Bool} {M : sg_M} (hf : sg_K Yc f 1) (hq : sg_K Yc q 4) (hs : shp c r) (hla : Yc.2.2.1 a = 12) (hll : Yc.2.2.1 ld = 9) (h6 : M.1 q 6 = nI (ns c r)) (hA : ∀ s, s < ns c r → M.1 (q + 1) s = nI (sA c r s)) (hB : ∀ s, s < ns c r → M.1 (q + 2) s = nI (sB c r s)) (hw : ∀ s, s < ns c r → M.1 a s = nI (w s) ∧ w s < 100) (hL : ∀ v, v < c * r → M.1 ld v = nI (L v) ∧ L v < 1000) (hn : numP un (c * r) (M.1 f 4) (M.1 (f + 3)) (M.1 (f + 4))) (hN : 1000 ≤ N) : ok (fX1_fillRows N f q a ld M) (fun M1 => fillP c r w un L f M M1) := by
  have hns := ns_le hs
  have h9 := hs.2.2
  have hm := Ul_len un (c * r)
  obtain ⟨n4, n3, nr⟩ := hn
  unfold fX1_fillRows
  refine ok_m ?_
  unfold gX1_fillRows_3
  generalize hmm : (Ul un (c * r)).length = m at *
  refine ok_lp (fun n s M1 => ∃ i, i ≤ m ∧ n = m - i ∧ s = (f, q, a, ld, nI i) ∧ rowF f M M1 ∧ ∀ j, j < i → ∀ k, k < 10 → rowJ f M1 j k = if k = m then lI (L ((Ul un (c * r)).getD j 0)) else 0) ?_ N m _ M ⟨0, by omega, rfl, rfl, ⟨rfl, fun _ _ _ => rfl⟩, fun j h => absurd h (by omega)⟩ (by omega)
  rintro n s M1 back ⟨i, hi, rfl, rfl, hF, hR⟩ hb
  unfold bX1_fillRows_3
  dsimp only
  rw [hF.1, n4]
  refine ok_if (fun h => ?_) (fun h => ?_)
  · have hi2 := (nI_leI (by omega) (by omega)).mp h
    obtain rfl : i = m := by omega
    refine ok_m ?_
    unfold gX1_fillRows_54
    refine ok_lp (fun n s M2 => ∃ k, k ≤ ns c r ∧ n = ns c r - k ∧ s = (f, q, a, nI k) ∧ rowF f M M2 ∧ (∀ i1 j, i1 < i → j < i → rowJ f M2 i1 j = lI (LnK c r w k ((Ul un (c * r)).getD i1 0) ((Ul un (c * r)).getD j 0))) ∧ ∀ i1, i1 < i → rowJ f M2 i1 i = lI (L ((Ul un (c * r)).getD i1 0))) ?_ N (ns c r) _ M1 ⟨0, by omega, rfl, rfl, hF, fun i1 j h1 h2 => by rw [hR i1 h1 j (by omega), if_neg (by omega)]; rfl, fun i1 h1 => by rw [hR i1 h1 i (by omega), if_pos rfl]⟩ (by omega)
    rintro n s M2 back2 ⟨k, hk, rfl, rfl, hF2, hR2, hC2⟩ hb2
    by_cases hkn : k = ns c r
    · subst hkn
      unfold bX1_fillRows_54
      dsimp only
      rw [hF2.1, h6]
      refine ok_t (nI_le (Nat.le_refl _) (by omega)) (ok_some ⟨hF2, ?_, ?_⟩)
      · rw [hmm]; exact hR2
      · rw [hmm]; exact hC2
    · have hk2 : k < ns c r := by omega
      refine strap_ok (c := c) (r := r) (w := w) (un := un) hf hq hs hla hk2 (by rw [hF2.1]; exact h6) (by rw [hF2.1]; exact hA k hk2) (by rw [hF2.1]; exact hB k hk2) (by rw [hF2.1]; exact hw k hk2) (by rw [hF2.1]; exact nr) (by omega) (fun M3 hS => ?_)
      obtain ⟨s1, s2, s3⟩ := hS
      rw [hmm] at s2 s3
      refine hb2 (ns c r - (k + 1)) _ _ (by omega) ⟨k + 1, by omega, rfl, rfl, rowF_tr hF2 s1, fun i1 j h1 h2 => ?_, fun i1 h1 => ?_⟩
      · rw [s3 i1 j h1 h2, hR2 i1 j h1 h2, lI_add]
        rfl
      · rw [s2 i1 i (Nat.le_refl _)]
        exact hC2 i1 h1
  · have hi2 : i < m := by
      rcases Nat.lt_or_ge i m with z | z
      · exact z
      · exact absurd (nI_le z (by omega)) h
    have hU := Ul_at (unk := un) (v := c * r) (i := i) (by omega)
    obtain ⟨hL1, hL2⟩ := hL _ hU.1
    rw [rc1_5 hf, rc1_7 hf, lc1_5 hf, lc1_7 hf, nI_clamp (show i < 2 ^ 31 by omega), re1_7 hf (show i < 9 by omega), Nat.one_mul]
    refine ok_t (ib_nI (by omega) (by omega)) ?_
    refine ok_bv (fillJ_ok (by rw [le1_7 hf (show i < 9 by omega)]; omega) hN) (fun M2 g => ?_)
    obtain ⟨g1, g2, g3⟩ := g
    rw [le1_7 hf (show i < 9 by omega)] at g2
    rw [g1, hF.1, n3 i hi2, n4, hll, le1_7 hf (show i < 9 by omega), nI_clamp (show (Ul un (c * r)).getD i 0 < 2 ^ 31 by omega), hL1, lI_nI (show L ((Ul un (c * r)).getD i 0) < 2 ^ 31 by omega), nI_clamp (show m < 2 ^ 31 by omega)]
    refine ok_t (ib_nI (by omega) (by omega)) (ok_t (ib_nI (by omega) (by omega)) (ok_t (ib_nI (by omega) (by omega)) (ok_t (ib_nI (by omega) (by omega)) (ok_m (ok_m ?_)))))
    refine hb (m - (i + 1)) _ _ (by omega) ⟨i + 1, by omega, rfl, by rw [nI_1], ⟨by rw [uJ_i, g1]; exact hF.1, fun x k hx => ?_⟩, fun j hj k hk => ?_⟩
    · rw [uJ_na (by omega), g3 x k (by omega)]
      exact hF.2 x k hx
    · unfold rowJ
      by_cases e : j = i
      · subst e
        by_cases e2 : k = m
        · subst e2; rw [uJ_eq, if_pos rfl]
        · rw [uJ_nb e2, if_neg e2, g2 k hk]
      · rw [uJ_na (by omega), g3 (f + 6 + j) k (by omega)]
        exact hR j (by omega) k hk
