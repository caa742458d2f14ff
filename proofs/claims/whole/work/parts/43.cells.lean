/-! the reference's cells -/
theorem nI_mul (a b : Nat) : nI a * nI b = nI (a * b) := (Int32.ofNat_mul a b).symm
theorem ix18 (a b : Nat) : (18 : Int32) * nI a + nI b = nI (18 * a + b) := by
  rw [show (18 : Int32) = nI 18 from rfl, nI_mul, nI_add]
theorem ix189 (a b : Nat) : (18 : Int32) * nI a + 9 + nI b = nI (18 * a + 9 + b) := by
  rw [show (18 : Int32) = nI 18 from rfl, show (9 : Int32) = nI 9 from rfl, nI_mul, nI_add, nI_add]
def cellJ (M : sg_M) (i q : Nat) : Int64 := M.2 11 (18 * i + q)
def cellF (M M1 : sg_M) : Prop := M1.1 = M.1 ∧ ∀ a k, a ≠ 11 → M1.2 a k = M.2 a k
theorem cellF_tr {M M1 M2 : sg_M} (h : cellF M M1) (h2 : cellF M1 M2) : cellF M M2 := ⟨h2.1.trans h.1, fun a k ha => (h2.2 a k ha).trans (h.2 a k ha)⟩
def strapC (c r : Nat) (w : Nat → Nat) (un : Nat → Bool) (s : Nat) (M M1 : sg_M) : Prop := cellF M M1 ∧ (∀ i q, q < 18 → (Ul un (c * r)).length ≤ q → cellJ M1 i q = cellJ M i q) ∧ ∀ i j, i < (Ul un (c * r)).length → j < (Ul un (c * r)).length → cellJ M1 i j = cellJ M i j + lI (Lt c r w ((Ul un (c * r)).getD i 0) ((Ul un (c * r)).getD j 0) s)
theorem at_c {un : Nat → Bool} {n A B i j : Nat} (hA : A < n) (uA : un A = true) (hB : B < n) (uB : un B = true) (hn : n ≤ 9) (hi : i < (Ul un n).length) (hj : j < (Ul un n).length) : ((11 : Nat) = 11 ∧ 18 * i + j = 18 * (Ul un A).length + (Ul un B).length) ↔ ((Ul un n).getD i 0 = A ∧ (Ul un n).getD j 0 = B) := by
  have h1 := at_ix1 hA uA hi
  have h2 := at_ix1 hB uB hj
  have l1 := (Ul_in hA uA).1
  have l2 := (Ul_in hB uB).1
  have l3 := Ul_len un n
  constructor
  · intro z
    exact ⟨h1.mp (by omega), h2.mp (by omega)⟩
  · intro z
    have := h1.mpr z.1
    have := h2.mpr z.2
    exact ⟨rfl, by omega⟩
set_option maxHeartbeats 2000000 in
theorem strapC_ok {N c r s : Nat} {w : Nat → Nat} {un : Nat → Bool} {M : sg_M} {back : (Nat × Int32) → sg_M → Option sg_M} {P : sg_M → Prop} (hs : shp c r) (hsn : s < ns c r) (h8 : M.1 0 8 = nI (ns c r)) (hA : M.1 6 (2 * s) = nI (sA c r s)) (hB : M.1 6 (2 * s + 1) = nI (sB c r s)) (hw : M.1 1 (28 + s) = nI (w s) ∧ w s < 100) (hr : ∀ v, v < c * r → M.1 9 v = if un v = true then nI (Ul un v).length else -1) (hb : ∀ M1, strapC c r w un s M M1 → ok (back (0, nI (s + 1)) M1) P) : ok (bX11_laysCells_55 N back (0, nI s) M) P := by
  have hns := ns_le hs
  have h9 := hs.2.2
  have hm := Ul_len un (c * r)
  obtain ⟨hab, hbn⟩ := sAB hs hsn
  have hAn : sA c r s < c * r := by omega
  obtain ⟨hw1, hw2⟩ := hw
  have e2 : (2 : Int32) * nI s = nI (2 * s) := (by decide +kernel : ∀ n, n < 12 → (2 : Int32) * nI n = nI (2 * n)) _ (by omega)
  unfold bX11_laysCells_55
  dsimp only
  rw [h8]
  refine ok_f (nI_ge hsn (by omega)) ?_
  rw [yr_7, yr_22, yr_1, yr_25, yl_6, yl_9, yl_1, yl_11, e2, nI_1, show (28 : Int32) + nI s = nI (28 + s) from nI_add 28 s, nI_clamp (show 2 * s < 2 ^ 31 by omega), nI_clamp (show 2 * s + 1 < 2 ^ 31 by omega), nI_clamp (show 28 + s < 2 ^ 31 by omega), hA, hB, hw1, nI_clamp (show sA c r s < 2 ^ 31 by omega), nI_clamp (show sB c r s < 2 ^ 31 by omega), hr (sA c r s) hAn, hr (sB c r s) hbn, lI_nI (show w s < 2 ^ 31 by omega)]
  refine ok_t (ib_nI (by omega) (by omega)) (ok_t (ib_nI (by omega) (by omega)) (ok_m (ok_t (ib_nI (by omega) (by omega)) (ok_t (ib_nI (by omega) (by omega)) (ok_m (ok_t (ib_nI (by omega) (by omega)) (ok_m ?_)))))))
  have nm1 : ∀ v, v < 100 → ¬ nI v = -1 := by decide +kernel
  by_cases uA : un (sA c r s) = true <;> by_cases uB : un (sB c r s) = true
  · have hi1 := (Ul_in (unk := un) hAn uA).1
    have hi2 := (Ul_in (unk := un) hbn uB).1
    rw [if_pos uA, if_pos uB, ix18, nI_clamp (show 18 * (Ul un (sA c r s)).length + (Ul un (sA c r s)).length < 2 ^ 31 by omega)]
    refine ok_f (nm1 _ (by omega)) (ok_t (ib_nI (by omega) (by omega)) (ok_t (ib_nI (by omega) (by omega)) (ok_m ?_)))
    unfold gX11_laysCells_126
    rw [yr_25, yl_11, ix18, nI_clamp (show 18 * (Ul un (sB c r s)).length + (Ul un (sB c r s)).length < 2 ^ 31 by omega)]
    refine ok_f (nm1 _ (by omega)) (ok_t (ib_nI (by omega) (by omega)) (ok_t (ib_nI (by omega) (by omega)) (ok_m ?_)))
    unfold gX11_laysCells_147
    rw [yr_25, yl_11, ix18, ix18, nI_clamp (show 18 * (Ul un (sA c r s)).length + (Ul un (sB c r s)).length < 2 ^ 31 by omega), nI_clamp (show 18 * (Ul un (sB c r s)).length + (Ul un (sA c r s)).length < 2 ^ 31 by omega)]
    refine ok_f (nm1 _ (by omega)) (ok_f (nm1 _ (by omega)) (ok_t (ib_nI (by omega) (by omega)) (ok_t (ib_nI (by omega) (by omega)) (ok_m (ok_t (ib_nI (by omega) (by omega)) (ok_t (ib_nI (by omega) (by omega)) (ok_m (ok_m ?_))))))))
    rw [nI_1]
    refine hb _ ⟨⟨rfl, fun x k hx => ?_⟩, fun i k hk hk2 => ?_, fun i j hi hj => ?_⟩
    · rw [uJ_na hx, uJ_na hx, uJ_na hx, uJ_na hx]
    · unfold cellJ
      rw [uJ_nb (by omega), uJ_nb (by omega), uJ_nb (by omega), uJ_nb (by omega)]
    · unfold cellJ
      rw [uJ_sub, uJ_sub, uJ_add, uJ_add, Lt_eq, lI_if, lI_if, lI_if, lI_if]
      rw [ififf (at_c hAn uA hAn uA h9 hi hj), ififf (at_c hbn uB hbn uB h9 hi hj), ififf (at_c hAn uA hbn uB h9 hi hj), ififf (at_c hbn uB hAn uA h9 hi hj)]
      rw [← lI_sub, ← lI_sub, ← lI_add]
      simp only [Int64.sub_eq_add_neg, Int64.add_assoc]
  · have uB0 : un (sB c r s) = false := by simpa using uB
    have hi1 := (Ul_in (unk := un) hAn uA).1
    rw [if_pos uA, if_neg uB, ix18, nI_clamp (show 18 * (Ul un (sA c r s)).length + (Ul un (sA c r s)).length < 2 ^ 31 by omega)]
    refine ok_f (nm1 _ (by omega)) (ok_t (ib_nI (by omega) (by omega)) (ok_t (ib_nI (by omega) (by omega)) (ok_m ?_)))
    unfold gX11_laysCells_126
    refine ok_t rfl ?_
    unfold gX11_laysCells_147
    refine ok_f (nm1 _ (by omega)) (ok_t rfl (ok_m ?_))
    rw [nI_1]
    refine hb _ ⟨⟨rfl, fun x k hx => uJ_na hx⟩, fun i k hk hk2 => uJ_nb (by omega), fun i j hi hj => ?_⟩
    unfold cellJ
    rw [uJ_add, lI_if, ififf (at_c hAn uA hAn uA h9 hi hj), Lt_eq, if_neg (show ¬ ((Ul un (c * r)).getD i 0 = sB c r s ∧ (Ul un (c * r)).getD j 0 = sB c r s) from fun z => no_ix uB0 hi z.1), if_neg (show ¬ ((Ul un (c * r)).getD i 0 = sA c r s ∧ (Ul un (c * r)).getD j 0 = sB c r s) from fun z => no_ix uB0 hj z.2), if_neg (show ¬ ((Ul un (c * r)).getD i 0 = sB c r s ∧ (Ul un (c * r)).getD j 0 = sA c r s) from fun z => no_ix uB0 hi z.1)]
    congr 2
    omega
  · have uA0 : un (sA c r s) = false := by simpa using uA
    have hi2 := (Ul_in (unk := un) hbn uB).1
    rw [if_neg uA, if_pos uB]
    refine ok_t rfl ?_
    unfold gX11_laysCells_126
    rw [yr_25, yl_11, ix18, nI_clamp (show 18 * (Ul un (sB c r s)).length + (Ul un (sB c r s)).length < 2 ^ 31 by omega)]
    refine ok_f (nm1 _ (by omega)) (ok_t (ib_nI (by omega) (by omega)) (ok_t (ib_nI (by omega) (by omega)) (ok_m ?_)))
    unfold gX11_laysCells_147
    refine ok_t rfl (ok_m ?_)
    rw [nI_1]
    refine hb _ ⟨⟨rfl, fun x k hx => uJ_na hx⟩, fun i k hk hk2 => uJ_nb (by omega), fun i j hi hj => ?_⟩
    unfold cellJ
    rw [uJ_add, lI_if, ififf (at_c hbn uB hbn uB h9 hi hj), Lt_eq, if_neg (show ¬ ((Ul un (c * r)).getD i 0 = sA c r s ∧ (Ul un (c * r)).getD j 0 = sA c r s) from fun z => no_ix uA0 hi z.1), if_neg (show ¬ ((Ul un (c * r)).getD i 0 = sA c r s ∧ (Ul un (c * r)).getD j 0 = sB c r s) from fun z => no_ix uA0 hi z.1), if_neg (show ¬ ((Ul un (c * r)).getD i 0 = sB c r s ∧ (Ul un (c * r)).getD j 0 = sA c r s) from fun z => no_ix uA0 hj z.2)]
    congr 2
    omega
  · have uA0 : un (sA c r s) = false := by simpa using uA
    have uB0 : un (sB c r s) = false := by simpa using uB
    rw [if_neg uA, if_neg uB]
    refine ok_t rfl ?_
    unfold gX11_laysCells_126
    refine ok_t rfl ?_
    unfold gX11_laysCells_147
    refine ok_t rfl (ok_m ?_)
    rw [nI_1]
    refine hb M ⟨⟨rfl, fun _ _ _ => rfl⟩, fun _ _ _ _ => rfl, fun i j hi hj => ?_⟩
    rw [Lt_eq, if_neg (show ¬ ((Ul un (c * r)).getD i 0 = sA c r s ∧ (Ul un (c * r)).getD j 0 = sA c r s) from fun z => no_ix uA0 hi z.1), if_neg (show ¬ ((Ul un (c * r)).getD i 0 = sB c r s ∧ (Ul un (c * r)).getD j 0 = sB c r s) from fun z => no_ix uB0 hi z.1), if_neg (show ¬ ((Ul un (c * r)).getD i 0 = sA c r s ∧ (Ul un (c * r)).getD j 0 = sB c r s) from fun z => no_ix uA0 hi z.1), if_neg (show ¬ ((Ul un (c * r)).getD i 0 = sB c r s ∧ (Ul un (c * r)).getD j 0 = sA c r s) from fun z => no_ix uB0 hi z.1)]
    show _ = _ + lI 0
    rw [lI_0, Int64.add_zero]
set_option maxHeartbeats 2000000 in
theorem laysCells_ok {N c r : Nat} {w : Nat → Nat} {un : Nat → Bool} {M : sg_M} (hs : shp c r) (hT : rTab (stp c r) M) (hw : ∀ s, s < ns c r → M.1 1 (28 + s) = nI (w s) ∧ w s < 100) (hn : numP un (c * r) (M.1 0 24) (M.1 10) (M.1 9)) (hN : 1000 ≤ N) : ok (fX11_laysCells N 0 M) (fun M1 => cellF M M1 ∧ ∀ i, i < (Ul un (c * r)).length → (∀ j, j < (Ul un (c * r)).length → cellJ M1 i j = lI (LnK c r w (ns c r) ((Ul un (c * r)).getD i 0) ((Ul un (c * r)).getD j 0))) ∧ ∀ q, (Ul un (c * r)).length ≤ q → q < 18 → cellJ M1 i q = lI (if q = 9 + i then 1 else 0)) := by
  have hns := ns_le hs
  have h9 := hs.2.2
  have hm := Ul_len un (c * r)
  obtain ⟨n24, n10, n9⟩ := hn
  obtain ⟨h8, hE⟩ := hT
  unfold fX11_laysCells
  refine ok_m ?_
  unfold gX11_laysCells_2
  generalize hmm : (Ul un (c * r)).length = m at *
  refine ok_lp (fun n s M1 => ∃ k, k ≤ 162 ∧ n = 162 - k ∧ s = (0, nI k) ∧ cellF M M1 ∧ ∀ j, j < k → M1.2 11 j = 0) ?_ N 162 _ M ⟨0, by omega, rfl, rfl, ⟨rfl, fun _ _ _ => rfl⟩, fun j h => absurd h (by omega)⟩ (by omega)
  rintro n s M1 back ⟨k, hk, rfl, rfl, hF, hz⟩ hb
  unfold bX11_laysCells_2
  dsimp only
  refine ok_if (fun h => ?_) (fun h => ?_)
  · have hk2 := (nI_leI (a := 162) (b := k) (by omega) (by omega)).mp h
    refine ok_m ?_
    unfold gX11_laysCells_24
    refine ok_lp (fun n s M2 => ∃ u, u ≤ m ∧ n = m - u ∧ s = (0, nI u) ∧ cellF M M2 ∧ ∀ i q, i < 9 → q < 18 → cellJ M2 i q = lI (if i < u ∧ q = 9 + i then 1 else 0)) ?_ N m _ M1 ⟨0, by omega, rfl, rfl, hF, fun i q hi hq => by unfold cellJ; rw [hz _ (by omega), if_neg (by omega)]; rfl⟩ (by omega)
    rintro n s M2 back2 ⟨u, hu, rfl, rfl, hF2, hC2⟩ hb2
    unfold bX11_laysCells_24
    dsimp only
    rw [hF2.1, n24]
    refine ok_if (fun h => ?_) (fun h => ?_)
    · have hu2 := (nI_leI (by omega) (by omega)).mp h
      have eu : u = m := by omega
      refine ok_m ?_
      unfold gX11_laysCells_55
      refine ok_lp (fun n s M3 => ∃ k, k ≤ ns c r ∧ n = ns c r - k ∧ s = (0, nI k) ∧ cellF M M3 ∧ ∀ i, i < m → (∀ j, j < m → cellJ M3 i j = lI (LnK c r w k ((Ul un (c * r)).getD i 0) ((Ul un (c * r)).getD j 0))) ∧ ∀ q, m ≤ q → q < 18 → cellJ M3 i q = lI (if q = 9 + i then 1 else 0)) ?_ N (ns c r) _ M2 ⟨0, by omega, rfl, rfl, hF2, fun i hi => ⟨fun j hj => by rw [hC2 i j (by omega) (by omega), if_neg (by omega)]; rfl, fun q hq hq2 => by rw [hC2 i q (by omega) hq2, ififf (show (i < u ∧ q = 9 + i) ↔ q = 9 + i from ⟨fun z => z.2, fun z => ⟨by omega, z⟩⟩)]⟩⟩ (by omega)
      rintro n s M3 back3 ⟨k3, hk3, rfl, rfl, hF3, hC3⟩ hb3
      by_cases hkn : k3 = ns c r
      · subst hkn
        unfold bX11_laysCells_55
        dsimp only
        rw [hF3.1, h8]
        exact ok_t (nI_le (Nat.le_refl _) (by have : (stp c r).length = ns c r := rfl; omega)) (ok_some ⟨hF3, hC3⟩)
      · have hk4 : k3 < ns c r := by omega
        refine strapC_ok (c := c) (r := r) (w := w) (un := un) hs hk4 (by rw [hF3.1]; exact h8) (by rw [hF3.1]; exact (hE k3 hk4).1) (by rw [hF3.1]; exact (hE k3 hk4).2) (by rw [hF3.1]; exact hw k3 hk4) (by rw [hF3.1]; exact n9) (fun M4 hS => ?_)
        obtain ⟨s1, s2, s3⟩ := hS
        rw [hmm] at s2 s3
        refine hb3 (ns c r - (k3 + 1)) _ _ (by omega) ⟨k3 + 1, by omega, rfl, rfl, cellF_tr hF3 s1, fun i hi => ⟨fun j hj => ?_, fun q hq hq2 => ?_⟩⟩
        · rw [s3 i j hi hj, (hC3 i hi).1 j hj, lI_add]
          rfl
        · rw [s2 i q hq2 hq]
          exact (hC3 i hi).2 q hq hq2
    · have hu2 : u < m := by
        rcases Nat.lt_or_ge u m with z | z
        · exact z
        · exact absurd (nI_le z (by omega)) h
      rw [yr_25, yl_11, ix189, nI_clamp (show 18 * u + 9 + u < 2 ^ 31 by omega)]
      refine ok_t (ib_nI (by omega) (by omega)) (ok_m (ok_m ?_))
      refine hb2 (m - (u + 1)) _ _ (by omega) ⟨u + 1, by omega, rfl, by rw [nI_1], ⟨hF2.1, fun a b ha => by rw [uJ_na ha]; exact hF2.2 a b ha⟩, fun i q hi hq => ?_⟩
      unfold cellJ
      by_cases e : 18 * i + q = 18 * u + 9 + u
      · rw [e, uJ_eq, if_pos (by omega)]; rfl
      · rw [uJ_nb e]
        have := hC2 i q hi hq
        unfold cellJ at this
        rw [this, ififf (show (i < u ∧ q = 9 + i) ↔ (i < u + 1 ∧ q = 9 + i) from by omega)]
  · have hk2 : k < 162 := by
      rcases Nat.lt_or_ge k 162 with z | z
      · exact z
      · exact absurd (nI_le z (by omega)) h
    rw [yr_25, yl_11, nI_clamp (show k < 2 ^ 31 by omega)]
    refine ok_t (ib_nI (by omega) (by omega)) (ok_m (ok_m ?_))
    refine hb (162 - (k + 1)) _ _ (by omega) ⟨k + 1, by omega, rfl, by rw [nI_1], ⟨hF.1, fun a b ha => by rw [uJ_na ha]; exact hF.2 a b ha⟩, fun j hj => ?_⟩
    by_cases e : j = k
    · subst e; exact uJ_eq
    · rw [uJ_nb e]; exact hz j (by omega)
