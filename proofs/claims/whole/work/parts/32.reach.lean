/-! Net.spread and comesTo: what is reached -/
theorem nI_le0 {n : Nat} (h : n < 2 ^ 31) : nI n ≤ 0 ↔ n = 0 := by
  have := nI_leI (a := n) (b := 0) h (by omega)
  rw [show (0 : Int32) = nI 0 from rfl, this]
  omega
theorem nI_z {n : Nat} (h : n < 2 ^ 31) : nI n = 0 ↔ n = 0 := by
  have := nI_eq (a := n) (b := 0) h (by omega)
  rw [show (0 : Int32) = nI 0 from rfl, this]
theorem cl1_0 {c r s : Nat} {w : Nat → Nat} {x : Int32} (h : w s = 0) : cl1 c r w x s = x := if_pos h
theorem cl1_n {c r s : Nat} {w : Nat → Nat} {x : Int32} (h : (bt x (sA c r s) || bt x (sB c r s)) = false) : cl1 c r w x s = x := by
  unfold cl1
  by_cases q : w s = 0
  · rw [if_pos q]
  · rw [if_neg q, if_neg (by rw [h]; decide)]
theorem cl1_y {c r s : Nat} {w : Nat → Nat} {x : Int32} (h0 : ¬ w s = 0) (h : ¬ (bt x (sA c r s) || bt x (sB c r s)) = false) : cl1 c r w x s = x ||| (bi (sA c r s) ||| bi (sB c r s)) := by
  unfold cl1
  rw [if_neg h0, if_pos (by revert h; cases (bt x (sA c r s) || bt x (sB c r s)) <;> simp)]
set_option maxHeartbeats 1000000 in
theorem spread_ok {N q a c r : Nat} {w : Nat → Nat} {x : Int32} {M : sg_M} (hq : sg_K Yc q 4) (hla : Yc.2.2.1 a = 12) (hs : shp c r) (h6 : M.1 q 6 = nI (ns c r)) (hA : ∀ s, s < ns c r → M.1 (q + 1) s = nI (sA c r s)) (hB : ∀ s, s < ns c r → M.1 (q + 2) s = nI (sB c r s)) (hw : ∀ s, s < ns c r → M.1 a s = nI (w s) ∧ w s < 100) (hN : 20 ≤ N) : ok (fX4_spread N q a x M) (fun res => res = (clo c r w 9 x, M)) := by
  have hns := ns_le hs
  unfold fX4_spread
  refine ok_m (ok_m ?_)
  unfold gX4_spread_5
  refine ok_lp (fun n s M1 => ∃ j, j ≤ 9 ∧ n = 9 - j ∧ s = (q, a, clo c r w j x, nI j) ∧ M = M1) ?_ N 9 _ M ⟨0, by omega, rfl, rfl, rfl⟩ (by omega)
  rintro n s M1 back ⟨j, hj, rfl, rfl, rfl⟩ hb
  unfold bX4_spread_5
  dsimp only
  refine ok_if (fun h => ?_) (fun h => ?_)
  · have h9 := (nI_leI (a := 9) (b := j) (by omega) (by omega)).mp h
    obtain rfl : j = 9 := by omega
    exact ok_some rfl
  · have h9 : j < 9 := by
      rcases Nat.lt_or_ge j 9 with z | z
      · exact z
      · exact absurd (nI_le z (by omega)) h
    refine ok_m (ok_m ?_)
    unfold gX4_spread_18
    refine ok_lp (fun n s M1 => ∃ i, i ≤ ns c r ∧ n = ns c r - i ∧ s = (q, a, clp c r w i (clo c r w j x), nI j, clo c r w j x, nI i) ∧ M = M1) ?_ N (ns c r) _ M ⟨0, by omega, rfl, rfl, rfl⟩ (by omega)
    rintro n s M1 back2 ⟨i, hi, rfl, rfl, rfl⟩ hb2
    unfold bX4_spread_18
    dsimp only
    rw [h6]
    refine ok_if (fun h => ?_) (fun h => ?_)
    · have hi2 := (nI_leI (by omega) (by omega)).mp h
      obtain rfl : i = ns c r := by omega
      refine ok_if (fun e => ?_) (fun e => ?_)
      · refine ok_some ?_
        rw [e]
        have := clo_stable e (9 - j)
        rw [show j + (9 - j) = 9 by omega] at this
        rw [this]
      · refine ok_m ?_
        exact hb (9 - (j + 1)) _ _ (by omega) ⟨j + 1, by omega, rfl, by rw [nI_1]; rfl, rfl⟩
    · have hi2 : i < ns c r := by
        rcases Nat.lt_or_ge i (ns c r) with z | z
        · exact z
        · exact absurd (nI_le z (by omega)) h
      obtain ⟨hw1, hw2⟩ := hw i hi2
      obtain ⟨hab, hbn⟩ := sAB hs hi2
      have h9 := hs.2.2
      rw [rc4_9 hq, rc4_10 hq, lc4_9 hq, lc4_10 hq, hla, nI_clamp (show i < 2 ^ 31 by omega), hA i hi2, hB i hi2, hw1]
      refine ok_t (ib_nI (by omega) (by omega)) (ok_t (ib_nI (by omega) (by omega)) (ok_m (ok_t (ib_nI (by omega) (by omega)) ?_)))
      refine ok_if (fun e => ?_) (fun e => ?_)
      · have e0 := (nI_le0 (by omega)).mp e
        refine ok_m ?_
        exact hb2 (ns c r - (i + 1)) _ _ (by omega) ⟨i + 1, by omega, rfl, by rw [nI_1]; show _ = (q, a, cl1 c r w _ i, _); rw [cl1_0 e0], rfl⟩
      · have e0 : ¬ w i = 0 := fun z => e ((nI_le0 (by omega)).mpr z)
        refine ok_if (fun e1 => ?_) (fun e1 => ?_)
        · have e2 := (bi_and (show sA c r i < 32 by omega) (show sB c r i < 32 by omega)).mp e1
          refine ok_m ?_
          exact hb2 (ns c r - (i + 1)) _ _ (by omega) ⟨i + 1, by omega, rfl, by rw [nI_1]; show _ = (q, a, cl1 c r w _ i, _); rw [cl1_n e2], rfl⟩
        · have e2 : ¬ (bt (clp c r w i (clo c r w j x)) (sA c r i) || bt (clp c r w i (clo c r w j x)) (sB c r i)) = false := fun z => e1 ((bi_and (show sA c r i < 32 by omega) (show sB c r i < 32 by omega)).mpr z)
          refine ok_m (ok_m ?_)
          exact hb2 (ns c r - (i + 1)) _ _ (by omega) ⟨i + 1, by omega, rfl, by rw [nI_1]; show _ = (q, a, cl1 c r w _ i, _); rw [cl1_y e0 e2]; rfl, rfl⟩
