/-! the reference's comesTo -/
theorem r_isOf {N v : Nat} {x : Int32} {M : sg_M} (hv : v < 32) : fX11_isOf N x (nI v) M = some (if bt x v = true then 1 else 0, M) := by
  unfold fX11_isOf
  by_cases h : bt x v = true
  · rw [if_pos ((bt_test1 hv).mpr h), if_pos h]
  · rw [if_neg (fun q => h ((bt_test1 hv).mp q)), if_neg h]
def cnk (x : Int32) : Nat → Nat
  | 0 => 0
  | k + 1 => cnk x k + if bt x k = true then 1 else 0
theorem cnk_le (x : Int32) : ∀ k, cnk x k ≤ k := by
  intro k
  induction k with
  | zero => exact Nat.le_refl _
  | succ k ih =>
    show cnk x k + _ ≤ k + 1
    by_cases h : bt x k = true
    · rw [if_pos h]; omega
    · rw [if_neg h]; omega
theorem cnk_mono {x y : Int32} (h : ∀ i, i < 32 → bt x i = true → bt y i = true) : ∀ k, k ≤ 32 → cnk x k ≤ cnk y k := by
  intro k
  induction k with
  | zero => intro _; exact Nat.le_refl _
  | succ k ih =>
    intro hk
    have := ih (by omega)
    show cnk x k + _ ≤ cnk y k + _
    by_cases q : bt x k = true
    · rw [if_pos q, if_pos (h k (by omega) q)]; omega
    · rw [if_neg q]; omega
theorem cnk_lt {x y : Int32} (h : ∀ i, i < 32 → bt x i = true → bt y i = true) {i : Nat} (hx : bt x i = false) (hy : bt y i = true) : ∀ k, k ≤ 32 → i < k → cnk x k + 1 ≤ cnk y k := by
  intro k
  induction k with
  | zero => intro _ h; omega
  | succ k ih =>
    intro hk hi
    show cnk x k + _ + 1 ≤ cnk y k + _
    by_cases e : i = k
    · subst e
      have := cnk_mono h i (by omega)
      rw [hx, if_neg (by decide), if_pos hy]
      omega
    · have := ih (by omega) (by omega)
      by_cases q : bt x k = true
      · rw [if_pos q, if_pos (h k (by omega) q)]; omega
      · rw [if_neg q]; omega
theorem or_same {x : Int32} {a b : Nat} (ha : a < 32) (hb : b < 32) (h1 : bt x a = true) (h2 : bt x b = true) : x ||| (bi a ||| bi b) = x := by
  apply b_ext
  intro i hi
  rw [b_or, b_or, bt_bi ha hi, bt_bi hb hi]
  by_cases e1 : i = a
  · subst e1; simp [h1]
  · by_cases e2 : i = b
    · subst e2; simp [h2]
    · simp [e1, e2]
theorem cl1_mono {c r s : Nat} {w : Nat → Nat} {x : Int32} {i : Nat} (h : bt x i = true) : bt (cl1 c r w x s) i = true := by
  unfold cl1
  by_cases q : w s = 0
  · rw [if_pos q]; exact h
  · rw [if_neg q]
    by_cases q2 : (bt x (sA c r s) || bt x (sB c r s)) = true
    · rw [if_pos q2, b_or, h, Bool.true_or]
    · rw [if_neg q2]; exact h
theorem clp_mono {c r : Nat} {w : Nat → Nat} {x : Int32} {i : Nat} (h : bt x i = true) : ∀ k, bt (clp c r w k x) i = true := by
  intro k
  induction k with
  | zero => exact h
  | succ k ih => exact cl1_mono ih
theorem clp_lt {c r : Nat} {w : Nat → Nat} {x : Int32} (k : Nat) : cnk x 9 ≤ cnk (clp c r w k x) 9 := cnk_mono (fun _ _ h => clp_mono h k) 9 (by omega)
set_option maxHeartbeats 1000000 in
theorem comes_ok {N c r : Nat} {w : Nat → Nat} {x : Int32} {M : sg_M} (hs : shp c r) (hT : rTab (stp c r) M) (hw : ∀ s, s < ns c r → M.1 1 (28 + s) = nI (w s) ∧ w s < 100) (hN : 20 ≤ N) : ok (fX11_comesTo N 0 x M) (fun res => res = (clo c r w 9 x, M)) := by
  have hns := ns_le hs
  have h9 := hs.2.2
  obtain ⟨h8, hE⟩ := hT
  unfold fX11_comesTo
  refine ok_m (ok_m ?_)
  unfold gX11_comesTo_4
  refine ok_lp (fun n s M1 => ∃ j mo, j ≤ 10 ∧ n = 11 - j ∧ s = (0, clo c r w j x, mo) ∧ M = M1 ∧ ((mo = 0 ∧ ∃ i, j = i + 1 ∧ clp c r w (ns c r) (clo c r w i x) = clo c r w i x) ∨ (¬ mo = 0 ∧ j ≤ cnk (clo c r w j x) 9))) ?_ N 11 _ M ⟨0, 1, by omega, rfl, rfl, rfl, Or.inr ⟨by decide, by omega⟩⟩ (by omega)
  rintro n s M1 back ⟨j, mo, hj, rfl, rfl, rfl, hm⟩ hb
  unfold bX11_comesTo_4
  dsimp only
  refine ok_if (fun h => ?_) (fun h => ?_)
  · rcases hm with ⟨-, i, rfl, hst⟩ | ⟨hne, -⟩
    · refine ok_some ?_
      have e1 : clo c r w (i + 1) x = clo c r w i x := hst
      have := clo_stable hst (9 - i)
      rw [show i + (9 - i) = 9 by omega] at this
      rw [e1, this]
    · exact absurd h hne
  · have hc : j ≤ cnk (clo c r w j x) 9 := by
      rcases hm with ⟨z, -⟩ | ⟨-, z⟩
      · exact absurd z h
      · exact z
    have hj9 := cnk_le (clo c r w j x) 9
    refine ok_m (ok_m ?_)
    unfold gX11_comesTo_13
    refine ok_lp (fun n s M1 => ∃ i mo, i ≤ ns c r ∧ n = ns c r - i ∧ s = (0, clp c r w i (clo c r w j x), mo, nI i) ∧ M = M1 ∧ ((mo = 0 ∧ clp c r w i (clo c r w j x) = clo c r w j x) ∨ (¬ mo = 0 ∧ cnk (clo c r w j x) 9 + 1 ≤ cnk (clp c r w i (clo c r w j x)) 9))) ?_ N (ns c r) _ M ⟨0, 0, by omega, rfl, rfl, rfl, Or.inl ⟨rfl, rfl⟩⟩ (by omega)
    rintro n s M1 back2 ⟨i, mi, hi, rfl, rfl, rfl, hmi⟩ hb2
    unfold bX11_comesTo_13
    dsimp only
    rw [h8]
    refine ok_if (fun z => ?_) (fun z => ?_)
    · have hi2 := (nI_leI (show ns c r < 2 ^ 31 by omega) (by omega)).mp z
      obtain rfl : i = ns c r := by omega
      refine hb (11 - (j + 1)) _ _ (by omega) ⟨j + 1, mi, by omega, rfl, rfl, rfl, ?_⟩
      rcases hmi with ⟨e, hst⟩ | ⟨e, hlt⟩
      · exact Or.inl ⟨e, j, rfl, hst⟩
      · exact Or.inr ⟨e, by show j + 1 ≤ cnk (clp c r w (ns c r) (clo c r w j x)) 9; omega⟩
    · have hi2 : i < ns c r := by
        rcases Nat.lt_or_ge i (ns c r) with q | q
        · exact q
        · exact absurd (nI_le q (by omega)) z
      obtain ⟨hw1, hw2⟩ := hw i hi2
      obtain ⟨hab, hbn⟩ := sAB hs hi2
      obtain ⟨hA, hB⟩ := hE i hi2
      have e2 : (2 : Int32) * nI i = nI (2 * i) := (by decide +kernel : ∀ n, n < 12 → (2 : Int32) * nI n = nI (2 * n)) _ (by omega)
      have e28 : (28 : Int32) + nI i = nI (28 + i) := nI_add 28 i
      have hA : M.1 6 (2 * i) = nI (sA c r i) := hA
      have hB : M.1 6 (2 * i + 1) = nI (sB c r i) := hB
      rw [yr_7, yr_1, yl_6, yl_1, e2, e28, nI_1, nI_clamp (show 2 * i < 2 ^ 31 by omega), nI_clamp (show 2 * i + 1 < 2 ^ 31 by omega), nI_clamp (show 28 + i < 2 ^ 31 by omega), hA]
      refine ok_t (ib_nI (by omega) (by omega)) ?_
      rw [r_isOf (show sA c r i < 32 by omega)]
      refine ok_bs (ok_m (ok_t (ib_nI (by omega) (by omega)) ?_))
      rw [hB, r_isOf (show sB c r i < 32 by omega)]
      refine ok_bs (ok_m (ok_t (ib_nI (by omega) (by omega)) ?_))
      rw [hw1]
      have keep : cl1 c r w (clp c r w i (clo c r w j x)) i = clp c r w i (clo c r w j x) → ok (back2 (0, clp c r w i (clo c r w j x), mi, nI i + 1) M) (fun res => res = (clo c r w 9 x, M)) := fun e => by
        refine hb2 (ns c r - (i + 1)) _ _ (by omega) ⟨i + 1, mi, by omega, rfl, ?_, rfl, ?_⟩
        · rw [nI_1]
          show _ = (0, cl1 c r w _ i, _)
          rw [e]
        · show (mi = 0 ∧ cl1 c r w _ i = _) ∨ (¬ mi = 0 ∧ _ ≤ cnk (cl1 c r w _ i) 9)
          rw [e]
          exact hmi
      refine ok_if (fun e => ?_) (fun e => ?_)
      · exact ok_m (keep (cl1_0 ((nI_z (by omega)).mp e)))
      · have e0 : ¬ w i = 0 := fun q => e ((nI_z (by omega)).mpr q)
        refine ok_if (fun e1 => ?_) (fun e1 => ?_)
        · refine ok_m (keep ?_)
          cases h1 : bt (clp c r w i (clo c r w j x)) (sA c r i) <;> cases h3 : bt (clp c r w i (clo c r w j x)) (sB c r i) <;> rw [h1, h3] at e1
          · exact cl1_n (by rw [h1, h3]; rfl)
          · exact absurd e1 (by decide)
          · exact absurd e1 (by decide)
          · rw [cl1_y e0 (by rw [h1, h3]; decide)]
            exact or_same (by omega) (by omega) h1 h3
        · refine ok_t (ib_nI (by omega) (by omega)) (ok_t (ib_nI (by omega) (by omega)) (ok_m (ok_m (ok_m ?_))))
          have hor : ¬ (bt (clp c r w i (clo c r w j x)) (sA c r i) || bt (clp c r w i (clo c r w j x)) (sB c r i)) = false := by
            cases h1 : bt (clp c r w i (clo c r w j x)) (sA c r i) <;> cases h3 : bt (clp c r w i (clo c r w j x)) (sB c r i) <;> rw [h1, h3] at e1 <;> first | exact absurd rfl e1 | simp
          have ecl := cl1_y (c := c) (r := r) (s := i) (w := w) (x := clp c r w i (clo c r w j x)) e0 hor
          refine hb2 (ns c r - (i + 1)) _ _ (by omega) ⟨i + 1, 1, by omega, rfl, ?_, rfl, Or.inr ⟨by decide, ?_⟩⟩
          · rw [nI_1]
            show _ = (0, cl1 c r w _ i, _)
            rw [ecl, hA, hB]
            rfl
          · show _ ≤ cnk (cl1 c r w _ i) 9
            have hmn : ∀ q, q < 32 → bt (clp c r w i (clo c r w j x)) q = true → bt (cl1 c r w (clp c r w i (clo c r w j x)) i) q = true := fun q _ h => cl1_mono h
            have hlt : cnk (clp c r w i (clo c r w j x)) 9 + 1 ≤ cnk (cl1 c r w (clp c r w i (clo c r w j x)) i) 9 := by
              cases h1 : bt (clp c r w i (clo c r w j x)) (sA c r i) with
              | false => exact cnk_lt hmn h1 (by rw [ecl, b_or, b_or, bt_bi (by omega) (by omega), decide_eq_true rfl]; simp) 9 (by omega) (by omega)
              | true =>
                cases h3 : bt (clp c r w i (clo c r w j x)) (sB c r i) with
                | false => exact cnk_lt hmn h3 (by rw [ecl, b_or, b_or, bt_bi (v := sB c r i) (by omega) (by omega), decide_eq_true rfl]; simp) 9 (by omega) (by omega)
                | true => rw [h1, h3] at e1; exact absurd rfl e1
            have := clp_lt (c := c) (r := r) (w := w) (x := clo c r w j x) i
            omega
