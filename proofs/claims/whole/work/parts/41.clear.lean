/-! Flow.clearRow, clearRows -/
set_option maxHeartbeats 1000000 in
theorem clearRow_ok {N f m i k : Nat} {p : Int} {x y z : Nat → Int} {M : sg_M} (hf : sg_K Yc f 1) (hm : m ≤ 9) (hi : i < m) (hk : k < m) (hne : i ≠ k) (h4 : M.1 f 4 = nI m) (hp : 0 < p ∧ p ≤ 169869312) (hx : ∀ q, k ≤ q → q ≤ m → rowJ f M i q = lI (x q)) (hy : ∀ q, k ≤ q → q ≤ m → rowJ f M k q = lI (y q)) (hxk : -169869312 ≤ x k ∧ x k ≤ 169869312) (hyk : -169869312 ≤ y k ∧ y k ≤ 169869312) (hb : ∀ q, k < q → q ≤ m → (-18919194624 ≤ x q ∧ x q ≤ 18919194624) ∧ (-18919194624 ≤ y q ∧ y q ≤ 18919194624) ∧ p * z q = y k * x q - x k * y q) (hN : 20 ≤ N) : ok (fX1_clearRow N f (nI i) (nI k) (lI p) M) (fun M1 => M1.1 = M.1 ∧ (∀ q, k < q → q ≤ m → rowJ f M1 i q = lI (z q)) ∧ ∀ a b, a ≠ f + 6 + i → M1.2 a b = M.2 a b) := by
  unfold fX1_clearRow
  have hp0 : ¬ lI p = 0 := fun e => by
    have := (lI_eq (a := p) (b := 0) (by omega) (by omega) (by omega) (by omega)).mp e
    omega
  refine ok_f (fun e => hp0 (lg0.mp e)) ?_
  rw [rc1_7 hf, lc1_7 hf, nI_clamp (show k < 2 ^ 31 by omega), nI_clamp (show i < 2 ^ 31 by omega), re1_7 hf (show k < 9 by omega), re1_7 hf (show i < 9 by omega), Nat.one_mul, Nat.one_mul, le1_7 hf (show k < 9 by omega), le1_7 hf (show i < 9 by omega)]
  have ik9 : sg_ib (nI k) 9 = true := ib_nI (by omega) (by omega)
  have ii9 : sg_ib (nI i) 9 = true := ib_nI (by omega) (by omega)
  have ik10 : sg_ib (nI k) 10 = true := ib_nI (by omega) (by omega)
  refine ok_t ik9 (ok_t ik10 (ok_m (ok_t ii9 (ok_t ik10 (ok_m (ok_m ?_))))))
  rw [show M.2 (f + 6 + k) k = lI (y k) from hy k (by omega) (by omega), show M.2 (f + 6 + i) k = lI (x k) from hx k (by omega) (by omega), nI_1]
  unfold gX1_clearRow_32
  refine ok_lp (fun n s M1 => ∃ q, k < q ∧ q ≤ m + 1 ∧ n = m + 1 - q ∧ s = (f, nI i, nI k, lI p, lI (y k), lI (x k), nI q) ∧ M1.1 = M.1 ∧ (∀ j, k < j → j < q → rowJ f M1 i j = lI (z j)) ∧ (∀ j, q ≤ j → rowJ f M1 i j = rowJ f M i j) ∧ ∀ a b, a ≠ f + 6 + i → M1.2 a b = M.2 a b) ?_ N (m + 1 - (k + 1)) _ M ⟨k + 1, by omega, by omega, rfl, rfl, rfl, fun j h1 h2 => absurd h1 (by omega), fun _ _ => rfl, fun _ _ _ => rfl⟩ (by omega)
  rintro n s M1 back ⟨q, hq1, hq2, rfl, rfl, hI, hz, ho, hF⟩ hbk
  unfold bX1_clearRow_32
  dsimp only
  rw [hI, h4]
  refine ok_if (fun h => ?_) (fun h => ?_)
  · have hqm : m < q := by
      rcases Nat.lt_or_ge m q with z9 | z9
      · exact z9
      · exact absurd h (nI_nlt z9 (by omega))
    exact ok_some ⟨hI, fun j h1 h2 => hz j h1 (by omega), hF⟩
  · have hqm : q ≤ m := by
      rcases Nat.lt_or_ge m q with z9 | z9
      · exact absurd (nI_lt z9 (by omega)) h
      · exact z9
    obtain ⟨b1, b2, b3⟩ := hb q hq1 hqm
    have iq : sg_ib (nI q) 10 = true := ib_nI (by omega) (by omega)
    rw [rc1_7 hf, lc1_7 hf, nI_clamp (show k < 2 ^ 31 by omega), nI_clamp (show i < 2 ^ 31 by omega), nI_clamp (show q < 2 ^ 31 by omega), re1_7 hf (show k < 9 by omega), re1_7 hf (show i < 9 by omega), Nat.one_mul, Nat.one_mul, le1_7 hf (show k < 9 by omega), le1_7 hf (show i < 9 by omega)]
    refine ok_t ii9 (ok_t ii9 (ok_t iq (ok_t ik9 (ok_t iq (ok_f hp0 (ok_t iq (ok_m (ok_m ?_))))))))
    have e1 : M1.2 (f + 6 + i) q = lI (x q) := (ho q (Nat.le_refl _)).trans (hx q (by omega) hqm)
    have e2 : M1.2 (f + 6 + k) q = lI (y q) := (hF _ q (by omega)).trans (hy q (by omega) hqm)
    rw [e1, e2, elim1 hp hyk hxk b1 b2 b3]
    refine hbk (m + 1 - (q + 1)) _ _ (by omega) ⟨q + 1, by omega, by omega, rfl, by rw [nI_1], hI, fun j h1 h2 => ?_, fun j h1 => ?_, fun a b ha => ?_⟩
    · unfold rowJ
      by_cases e : j = q
      · subst e; exact uJ_eq
      · rw [uJ_nb e]; exact hz j h1 (by omega)
    · unfold rowJ
      rw [uJ_nb (by omega)]
      exact ho j (by omega)
    · rw [uJ_na ha]; exact hF a b ha
section CLR
variable {c r : Nat} {w : Nat → Nat} {P : Int32}
/-- column q of the rows -/
def colV (c r : Nat) (w : Nat → Nat) (P : Int32) (L : Nat → Nat) (q : Nat) : Nat → Int := if q < uM c r w P then uA c r w P q else bV c r w P L
theorem colV_V {L : Nat → Nat} {q : Nat} (hs : shp c r) : vm_V (uM c r w P) (colV c r w P L q) := by
  unfold colV
  by_cases h : q < uM c r w P
  · rw [if_pos h]; exact (mA_H hs).1 q
  · rw [if_neg h]; exact bV_V
theorem colV_b (hs : shp c r) (hw : ∀ s, s < ns c r → w s ≤ 4) (hP : ∀ v, v < 32 → bt P v = true → v < c * r) {L : Nat → Nat} (hL : ∀ v, v < c * r → L v ≤ 99) {k i q : Nat} (hk : k ≤ uM c r w P) (hi : i < uM c r w P) (hq : k ≤ q) : -18919194624 ≤ tK c r w P k i (colV c r w P L q) ∧ tK c r w P k i (colV c r w P L q) ≤ 18919194624 := by
  unfold colV
  by_cases h : q < uM c r w P
  · rw [if_pos h]
    have := tK_A (P := P) hs hw hP hk hi h hq
    omega
  · rw [if_neg h]
    have := tK_b (P := P) hs hw hP hL hk hi
    omega
set_option maxHeartbeats 1000000 in
theorem clearRows_ok {N f : Nat} {L : Nat → Nat} {M : sg_M} (hf : sg_K Yc f 1) (hs : shp c r) (hw : ∀ s, s < ns c r → w s ≤ 4) (hP : ∀ v, v < 32 → bt P v = true → v < c * r) (hL : ∀ v, v < c * r → L v ≤ 99) (h4 : M.1 f 4 = nI (uM c r w P)) (hR : ∀ i, i < uM c r w P → ∀ q, q ≤ uM c r w P → rowJ f M i q = lI (colV c r w P L q i)) (hN : 20 ≤ N) : ok (fX1_clearRows N f M) (fun M1 => M1.1 = M.1 ∧ M1.2 f 1 = lI (pK c r w P (uM c r w P)) ∧ (∀ i, i < uM c r w P → rowJ f M1 i (uM c r w P) = lI (tK c r w P (uM c r w P) i (bV c r w P L))) ∧ ∀ a b, (a < f + 6 ∨ f + 15 ≤ a) → (a ≠ f ∨ b ≠ 1) → M1.2 a b = M.2 a b) := by
  have h9 := hs.2.2
  have hm9 : uM c r w P ≤ 9 := by have : uM c r w P ≤ c * r := Ul_len (unk c r w P) (c * r); omega
  unfold fX1_clearRows
  refine ok_m (ok_m ?_)
  unfold gX1_clearRows_4
  refine ok_lp (fun n s M1 => ∃ k, k ≤ uM c r w P ∧ n = uM c r w P - k ∧ s = (f, lI (pK c r w P k), nI k) ∧ M1.1 = M.1 ∧ (∀ i, i < uM c r w P → ∀ q, k ≤ q → q ≤ uM c r w P → rowJ f M1 i q = lI (tK c r w P k i (colV c r w P L q))) ∧ ∀ a b, (a < f + 6 ∨ f + 15 ≤ a) → M1.2 a b = M.2 a b) ?_ N (uM c r w P) _ M ⟨0, by omega, rfl, by rw [pK_0]; rfl, rfl, fun i hi q _ hq => by rw [hR i hi q hq, tK_0 hi (colV_V hs)], fun _ _ _ => rfl⟩ (by omega)
  rintro n s M1 back ⟨k, hk, rfl, rfl, hI, hV, hF⟩ hb
  unfold bX1_clearRows_4
  dsimp only
  rw [hI, h4]
  refine ok_if (fun h => ?_) (fun h => ?_)
  · have hk2 := (nI_leI (by omega) (by omega)).mp h
    have ek : k = uM c r w P := by omega
    refine ok_m (ok_some ⟨hI, ?_, fun i hi => ?_, fun a b ha hab => ?_⟩)
    · rw [uJ_eq, ek]
    · have := hV i hi (uM c r w P) (by omega) (Nat.le_refl _)
      unfold colV at this
      rw [if_neg (by omega), ek] at this
      unfold rowJ
      rw [uJ_na (by omega)]
      exact this
    · rw [uJ_at, if_neg (by omega)]
      exact hF a b ha
  · have hk2 : k < uM c r w P := by
      rcases Nat.lt_or_ge k (uM c r w P) with z | z
      · exact z
      · exact absurd (nI_le z (by omega)) h
    refine ok_m ?_
    unfold gX1_clearRows_15
    refine ok_lp (fun n s M2 => ∃ i, i ≤ uM c r w P ∧ n = uM c r w P - i ∧ s = (f, lI (pK c r w P k), nI k, nI i) ∧ M2.1 = M.1 ∧ (∀ j, j < uM c r w P → (j < i → j ≠ k → ∀ q, k < q → q ≤ uM c r w P → rowJ f M2 j q = lI (tK c r w P (k + 1) j (colV c r w P L q))) ∧ (i ≤ j ∨ j = k → ∀ q, k ≤ q → q ≤ uM c r w P → rowJ f M2 j q = lI (tK c r w P k j (colV c r w P L q)))) ∧ ∀ a b, (a < f + 6 ∨ f + 15 ≤ a) → M2.2 a b = M.2 a b) ?_ N (uM c r w P) _ M1 ⟨0, by omega, rfl, rfl, hI, fun j hj => ⟨fun z => absurd z (by omega), fun _ => hV j hj⟩, hF⟩ (by omega)
    rintro n s M2 back2 ⟨i, hi, rfl, rfl, hI2, hV2, hF2⟩ hb2
    unfold bX1_clearRows_15
    dsimp only
    rw [hI2, h4]
    refine ok_if (fun h => ?_) (fun h => ?_)
    · have hi2 := (nI_leI (by omega) (by omega)).mp h
      have ei : i = uM c r w P := by omega
      rw [rc1_7 hf, lc1_7 hf, nI_clamp (show k < 2 ^ 31 by omega), re1_7 hf (show k < 9 by omega), Nat.one_mul, le1_7 hf (show k < 9 by omega)]
      refine ok_t (ib_nI (by omega) (by omega)) (ok_t (ib_nI (by omega) (by omega)) (ok_m (ok_m ?_)))
      have own := (hV2 k hk2).2 (Or.inr rfl)
      refine hb (uM c r w P - (k + 1)) _ _ (by omega) ⟨k + 1, by omega, rfl, ?_, hI2, fun j hj q hq1 hq2 => ?_, hF2⟩
      · rw [nI_1]
        have := own k (Nat.le_refl _) (by omega)
        unfold colV at this
        rw [if_pos hk2, ← pK_succ] at this
        rw [show M2.2 (f + 6 + k) k = lI (pK c r w P (k + 1)) from this]
      · by_cases e : j = k
        · subst e
          rw [own q (by omega) hq2, tK_own]
        · exact (hV2 j hj).1 (by omega) e q (by omega) hq2
    · have hi2 : i < uM c r w P := by
        rcases Nat.lt_or_ge i (uM c r w P) with z | z
        · exact z
        · exact absurd (nI_le z (by omega)) h
      refine ok_if (fun e => ?_) (fun e => ?_)
      · have e1 := (nI_eq (by omega) (by omega)).mp e
        refine ok_m ?_
        refine hb2 (uM c r w P - (i + 1)) _ _ (by omega) ⟨i + 1, by omega, rfl, by rw [nI_1], hI2, fun j hj => ⟨fun h1 h2 => (hV2 j hj).1 (by omega) h2, fun h1 => (hV2 j hj).2 (by omega)⟩, hF2⟩
      · have e1 : i ≠ k := fun z => e (by rw [z])
        have hx := (hV2 i hi2).2 (Or.inl (Nat.le_refl _))
        have hy := (hV2 k hk2).2 (Or.inr rfl)
        have ck : colV c r w P L k = uA c r w P k := by unfold colV; rw [if_pos hk2]
        refine ok_bv (clearRow_ok (m := uM c r w P) (x := fun q => tK c r w P k i (colV c r w P L q)) (y := fun q => tK c r w P k k (colV c r w P L q)) (z := fun q => tK c r w P (k + 1) i (colV c r w P L q)) (p := pK c r w P k) hf hm9 hi2 hk2 e1 (by rw [hI2]; exact h4) ⟨pK_pos hs hk, pK_le hs hw hP hk⟩ hx hy ?_ ?_ ?_ hN) (fun M3 g => ok_m ?_)
        · show -169869312 ≤ tK c r w P k i (colV c r w P L k) ∧ _
          rw [ck]
          exact tK_A hs hw hP hk hi2 hk2 (Nat.le_refl _)
        · show -169869312 ≤ tK c r w P k k (colV c r w P L k) ∧ _
          rw [ck]
          exact tK_A hs hw hP hk hk2 hk2 (Nat.le_refl _)
        · intro q hq1 hq2
          refine ⟨colV_b hs hw hP hL hk hi2 (by omega), colV_b hs hw hP hL hk hk2 (by omega), ?_⟩
          show pK c r w P k * tK c r w P (k + 1) i (colV c r w P L q) = tK c r w P k k (colV c r w P L k) * tK c r w P k i (colV c r w P L q) - tK c r w P k i (colV c r w P L k) * tK c r w P k k (colV c r w P L q)
          rw [ck, ← pK_succ]
          exact tK_step hs hk2 hi2 e1 (colV_V hs)
        · obtain ⟨g1, g2, g3⟩ := g
          refine hb2 (uM c r w P - (i + 1)) _ _ (by omega) ⟨i + 1, by omega, rfl, by rw [nI_1], g1.trans hI2, fun j hj => ⟨fun h1 h2 q hq1 hq2 => ?_, fun h1 q hq1 hq2 => ?_⟩, fun a b ha => (g3 a b (by omega)).trans (hF2 a b ha)⟩
          · by_cases ej : j = i
            · subst ej; exact g2 q hq1 hq2
            · show M3.2 (f + 6 + j) q = _
              rw [g3 _ q (by omega)]
              exact (hV2 j hj).1 (by omega) h2 q hq1 hq2
          · show M3.2 (f + 6 + j) q = _
            rw [g3 _ q (by omega)]
            exact (hV2 j hj).2 (by omega) q hq1 hq2
end CLR
