/-! the reference's elimination -/
theorem nle {a b : Nat} (h : ¬ nI b ≤ nI a) (ha : a < 2 ^ 31) : a < b := by
  rcases Nat.lt_or_ge a b with z | z
  · exact z
  · exact absurd (nI_le z ha) h
theorem yle {a b : Nat} (h : nI b ≤ nI a) (hb : b < 2 ^ 31) (ha : a < 2 ^ 31) : b ≤ a := (nI_leI hb ha).mp h
section BR
variable {c r : Nat} {w : Nat → Nat} {P : Int32}
/-- column q of the reference's rows -/
def colR (c r : Nat) (w : Nat → Nat) (P : Int32) (q : Nat) : Nat → Int := if q < uM c r w P then uA c r w P q else if 9 ≤ q ∧ q < 9 + uM c r w P then dt_e (q - 9) else fun _ => 0
theorem colR_V {q : Nat} (hs : shp c r) : vm_V (uM c r w P) (colR c r w P q) := by
  unfold colR
  by_cases h : q < uM c r w P
  · rw [if_pos h]; exact (mA_H hs).1 q
  · rw [if_neg h]
    by_cases h2 : 9 ≤ q ∧ q < 9 + uM c r w P
    · rw [if_pos h2]; exact vm_e (by omega)
    · rw [if_neg h2]; exact fun _ _ => rfl
theorem mt_zero {m i : Nat} {A : Nat → Nat → Int} {S : Nat → Bool} (hi : i < m) : mt m A S i (fun _ => 0) = 0 := mt_sum hi 0 (fun _ => 0) (fun _ _ => 0)
theorem colR_b (hs : shp c r) (hw : ∀ s, s < ns c r → w s ≤ 4) (hP : ∀ v, v < 32 → bt P v = true → v < c * r) {k i q : Nat} (hk : k ≤ uM c r w P) (hi : i < uM c r w P) : -169869312 ≤ tK c r w P k i (colR c r w P q) ∧ tK c r w P k i (colR c r w P q) ≤ 169869312 := by
  unfold colR
  by_cases h : q < uM c r w P
  · rw [if_pos h]
    by_cases hq : k ≤ q
    · exact tK_A (P := P) hs hw hP hk hi h hq
    · by_cases e : q = i
      · subst e
        have h1 : tK c r w P k q (uA c r w P q) = pK c r w P k := mt_inown (decide_eq_true (by omega))
        have h2 := pK_le (P := P) hs hw hP hk
        have h3 := pK_pos (w := w) (P := P) hs hk
        omega
      · have h1 : tK c r w P k i (uA c r w P q) = 0 := mt_in hi h e (decide_eq_true (by omega))
        omega
  · rw [if_neg h]
    by_cases h2 : 9 ≤ q ∧ q < 9 + uM c r w P
    · rw [if_pos h2]
      have := tK_e (P := P) hs hw hP hk hi (show q - 9 < uM c r w P by omega)
      omega
    · rw [if_neg h2]
      have : tK c r w P k i (fun _ => 0) = 0 := mt_zero hi
      omega
/-- all cells but those of the rows, and whole, stay -/
def brF (M M1 : sg_M) : Prop := M1.1 = M.1 ∧ ∀ a k, a ≠ 11 → (a ≠ 0 ∨ k ≠ 26) → M1.2 a k = M.2 a k
set_option maxHeartbeats 2000000 in
theorem brings_ok {N : Nat} {M : sg_M} (hs : shp c r) (hw : ∀ s, s < ns c r → w s ≤ 4) (hP : ∀ v, v < 32 → bt P v = true → v < c * r) (h24 : M.1 0 24 = nI (uM c r w P)) (hC : ∀ i, i < uM c r w P → ∀ q, q < 18 → cellJ M i q = lI (colR c r w P q i)) (hN : 20 ≤ N) : ok (fX11_brings N 0 M) (fun M1 => brF M M1 ∧ M1.2 0 26 = lI (dD c r w P) ∧ ∀ i, i < uM c r w P → ∀ q, q < 18 → cellJ M1 i q = lI (tK c r w P (uM c r w P) i (colR c r w P q))) := by
  have h9 := hs.2.2
  have hm9 : uM c r w P ≤ 9 := by have : uM c r w P ≤ c * r := Ul_len (unk c r w P) (c * r); omega
  unfold fX11_brings
  refine ok_m (ok_m ?_)
  unfold gX11_brings_7
  refine ok_lp (fun n s M1 => ∃ p, p ≤ uM c r w P ∧ n = uM c r w P - p ∧ s = (0, nI p) ∧ brF M M1 ∧ M1.2 0 26 = lI (pK c r w P p) ∧ ∀ i, i < uM c r w P → ∀ q, q < 18 → cellJ M1 i q = lI (tK c r w P p i (colR c r w P q))) ?_ N (uM c r w P) _ _ ⟨0, by omega, rfl, rfl, ⟨rfl, fun a k _ h => by rw [uJ_at, if_neg (by omega)]⟩, by rw [pK_0]; exact uJ_eq, fun i hi q hq => by rw [tK_0 hi (colR_V hs), ← hC i hi q hq]; exact uJ_na (by decide)⟩ (by omega)
  rintro n s M1 back ⟨p, hp, rfl, rfl, hF, hW, hI⟩ hb
  unfold bX11_brings_7
  dsimp only
  rw [hF.1, h24]
  refine ok_if (fun h => ?_) (fun h => ?_)
  · have hp2 : uM c r w P ≤ p := yle h (by omega) (by omega)
    obtain rfl : p = uM c r w P := Nat.le_antisymm hp hp2
    exact ok_some ⟨hF, hW, hI⟩
  · have hp2 : p < uM c r w P := nle h (by omega)
    have cp : colR c r w P p = uA c r w P p := if_pos hp2
    have bpiv := colR_b (q := p) (P := P) hs hw hP (show p ≤ uM c r w P by omega) hp2
    have hpk := pK_le (P := P) hs hw hP (show p ≤ uM c r w P by omega)
    have hpp := pK_pos (w := w) (P := P) hs (show p ≤ uM c r w P by omega)
    have hp0 : ¬ lI (pK c r w P p) = 0 := fun e => by
      have := (lI_eq (a := pK c r w P p) (b := 0) (by omega) (by omega) (by omega) (by omega)).mp e
      omega
    have ep : M1.2 11 (18 * p + p) = lI (pK c r w P (p + 1)) := by
      have := hI p hp2 p (by omega)
      unfold cellJ at this
      rw [this, pK_succ, cp]
    rw [yr_25, yl_11, ix18, nI_clamp (show 18 * p + p < 2 ^ 31 by omega)]
    refine ok_t (ib_nI (by omega) (by omega)) (ok_m (ok_m ?_))
    rw [ep]
    unfold gX11_brings_30
    refine ok_lp (fun n s M2 => ∃ u, u ≤ uM c r w P ∧ n = uM c r w P - u ∧ s = (0, nI p, lI (pK c r w P (p + 1)), nI u) ∧ brF M M2 ∧ M2.2 0 26 = lI (pK c r w P p) ∧ ∀ i, i < uM c r w P → ∀ q, q < 18 → cellJ M2 i q = lI (tK c r w P (if i < u then p + 1 else p) i (colR c r w P q))) ?_ N (uM c r w P) _ M1 ⟨0, by omega, rfl, rfl, hF, hW, fun i hi q hq => by rw [if_neg (by omega)]; exact hI i hi q hq⟩ (by omega)
    rintro n s M2 back2 ⟨u, hu, rfl, rfl, hF2, hW2, hI2⟩ hb2
    unfold bX11_brings_30
    dsimp only
    rw [hF2.1, h24]
    refine ok_if (fun h => ?_) (fun h => ?_)
    · have hu2 := yle h (by omega) (by omega)
      refine ok_m (ok_m ?_)
      refine hb (uM c r w P - (p + 1)) _ _ (by omega) ⟨p + 1, by omega, rfl, by rw [nI_1], ⟨hF2.1, fun a k ha hk => by rw [uJ_at, if_neg (by omega)]; exact hF2.2 a k ha hk⟩, uJ_eq, fun i hi q hq => ?_⟩
      have := hI2 i hi q hq
      rw [if_pos (by have : i < (Ul (unk c r w P) (c * r)).length := hi; omega)] at this
      rw [← this]
      exact uJ_na (by decide)
    · have hu2 : u < uM c r w P := nle h (by omega)
      rw [yr_25, yl_11, ix18, nI_clamp (show 18 * u + p < 2 ^ 31 by omega)]
      refine ok_t (ib_nI (by omega) (by omega)) (ok_m (ok_m ?_))
      have emine : M2.2 11 (18 * u + p) = lI (tK c r w P p u (uA c r w P p)) := by
        have := hI2 u hu2 p (by omega)
        unfold cellJ at this
        rw [this, if_neg (by omega), cp]
      rw [emine]
      have erow : ∀ q, q < 18 → M2.2 11 (18 * p + q) = lI (tK c r w P p p (colR c r w P q)) := fun q hq => by
        have := hI2 p hp2 q hq
        unfold cellJ at this
        rw [this]
        by_cases z : p < u
        · rw [if_pos z, tK_own]
        · rw [if_neg z]
      unfold gX11_brings_56
      refine ok_lp (fun n s M3 => ∃ cc, cc ≤ 18 ∧ n = 18 - cc ∧ s = (0, nI p, lI (pK c r w P (p + 1)), nI u, lI (tK c r w P p u (uA c r w P p)), nI cc) ∧ brF M M3 ∧ M3.2 0 26 = lI (pK c r w P p) ∧ (∀ i, i < uM c r w P → i ≠ u → ∀ q, q < 18 → cellJ M3 i q = cellJ M2 i q) ∧ ∀ q, q < 18 → cellJ M3 u q = lI (tK c r w P (if q < cc ∧ u ≠ p then p + 1 else p) u (colR c r w P q))) ?_ N 18 _ M2 ⟨0, by omega, rfl, rfl, hF2, hW2, fun _ _ _ _ _ => rfl, fun q hq => by rw [if_neg (by omega), hI2 u hu2 q hq, if_neg (by omega)]⟩ (by omega)
      rintro n s M3 back3 ⟨cc, hcc, rfl, rfl, hF3, hW3, hO3, hI3⟩ hb3
      unfold bX11_brings_56
      dsimp only
      have fin : (u = p ∨ 18 ≤ cc) → ok (back2 (0, nI p, lI (pK c r w P (p + 1)), nI u + 1) M3) (fun M1 => brF M M1 ∧ M1.2 0 26 = lI (dD c r w P) ∧ ∀ i, i < uM c r w P → ∀ q, q < 18 → cellJ M1 i q = lI (tK c r w P (uM c r w P) i (colR c r w P q))) := fun hor => by
        refine hb2 (uM c r w P - (u + 1)) _ _ (by omega) ⟨u + 1, by omega, rfl, by rw [nI_1], hF3, hW3, fun i hi q hq => ?_⟩
        by_cases e : i = u
        · subst e
          rw [hI3 q hq, if_pos (show i < i + 1 by omega)]
          by_cases e2 : i = p
          · subst e2; rw [if_neg (by omega), tK_own]
          · rw [if_pos (by omega)]
        · rw [hO3 i hi e q hq, hI2 i hi q hq]
          by_cases z : i < u
          · rw [if_pos z, if_pos (by omega)]
          · rw [if_neg z, if_neg (by omega)]
      refine ok_if (fun h => ?_) (fun h => ?_)
      · have := yle (a := cc) (b := 18) h (by omega) (by omega)
        exact ok_m (fin (Or.inr (by omega)))
      · have hc18 : cc < 18 := nle (b := 18) h (by omega)
        refine ok_if (fun e => ?_) (fun e => ?_)
        · exact ok_m (fin (Or.inl ((nI_eq (by omega) (by omega)).mp e)))
        · have hne : u ≠ p := fun z => e (by rw [z])
          rw [yr_25, yl_11, ix18, ix18, nI_clamp (show 18 * u + cc < 2 ^ 31 by omega), nI_clamp (show 18 * p + cc < 2 ^ 31 by omega), hW3]
          refine ok_t (ib_nI (by omega) (by omega)) (ok_t (ib_nI (by omega) (by omega)) (ok_f hp0 (ok_t (ib_nI (by omega) (by omega)) (ok_m (ok_m ?_)))))
          have e1 : M3.2 11 (18 * u + cc) = lI (tK c r w P p u (colR c r w P cc)) := by
            have := hI3 cc hc18
            unfold cellJ at this
            rw [this, if_neg (by omega)]
          have e2 : M3.2 11 (18 * p + cc) = lI (tK c r w P p p (colR c r w P cc)) := by
            have := hO3 p hp2 (fun z => hne z.symm) cc hc18
            unfold cellJ at this
            rw [this]
            exact erow cc hc18
          have b1 := colR_b (q := cc) (P := P) hs hw hP (show p ≤ uM c r w P by omega) hu2
          have b2 := colR_b (q := cc) (P := P) hs hw hP (show p ≤ uM c r w P by omega) hp2
          have b3 := colR_b (q := p) (P := P) hs hw hP (show p ≤ uM c r w P by omega) hu2
          rw [cp] at b3
          rw [cp] at bpiv
          rw [← pK_succ] at bpiv
          rw [e1, e2, Int64.mul_comm (lI (tK c r w P p u (colR c r w P cc))), Int64.mul_comm (lI (tK c r w P p p (colR c r w P cc))), elim1 (z := tK c r w P (p + 1) u (colR c r w P cc)) ⟨hpp, hpk⟩ bpiv b3 (by omega) (by omega) (tK_step hs hp2 hu2 hne (colR_V hs))]
          refine hb3 (18 - (cc + 1)) _ _ (by omega) ⟨cc + 1, by omega, rfl, by rw [nI_1], ⟨hF3.1, fun a k ha hk => by rw [uJ_na ha]; exact hF3.2 a k ha hk⟩, by rw [uJ_na (by decide)]; exact hW3, fun i hi hiu q hq => ?_, fun q hq => ?_⟩
          · rw [← hO3 i hi hiu q hq]
            exact uJ_nb (by omega)
          · unfold cellJ
            by_cases z : q = cc
            · subst z; rw [uJ_eq, if_pos (by omega)]
            · rw [uJ_nb (by omega)]
              have := hI3 q hq
              unfold cellJ at this
              rw [this]
              by_cases y : q < cc ∧ u ≠ p
              · rw [if_pos y, if_pos (by omega)]
              · rw [if_neg y, if_neg (by omega)]
end BR
