/-! Arrays.fill; Flow.fillRows -/
theorem fillJ_ok {N a : Nat} {x : Int64} {M : sg_M} (hl : Yc.2.2.1 a < 1000) (hN : 1000 ≤ N) : ok (fJ7_fill_d0a16 N a x M) (fun M1 => M1.1 = M.1 ∧ (∀ k, k < Yc.2.2.1 a → M1.2 a k = x) ∧ ∀ b k, b ≠ a → M1.2 b k = M.2 b k) := by
  unfold fJ7_fill_d0a16
  refine ok_m (ok_m ?_)
  unfold gJ7_fill_d0a16_6
  refine ok_lp (fun n s M1 => ∃ i, i ≤ Yc.2.2.1 a ∧ n = Yc.2.2.1 a - i ∧ s = (a, x, nI i, nI (Yc.2.2.1 a)) ∧ M1.1 = M.1 ∧ (∀ k, k < i → M1.2 a k = x) ∧ ∀ b k, b ≠ a → M1.2 b k = M.2 b k) ?_ N (Yc.2.2.1 a) _ _ ⟨0, by omega, rfl, rfl, rfl, fun k h => absurd h (by omega), fun _ _ _ => rfl⟩ (by omega)
  rintro n s M1 back ⟨i, hi, rfl, rfl, hI, hx, hF⟩ hb
  unfold bJ7_fill_d0a16_6
  dsimp only
  refine ok_if (fun h => ?_) (fun h => ?_)
  · have := (nI_leI (by omega) (by omega)).mp h
    obtain rfl : i = Yc.2.2.1 a := by omega
    exact ok_some ⟨hI, hx, hF⟩
  · have hi2 : i < Yc.2.2.1 a := by
      rcases Nat.lt_or_ge i (Yc.2.2.1 a) with z | z
      · exact z
      · exact absurd (nI_le z (by omega)) h
    rw [nI_clamp (by omega)]
    refine ok_t (ib_nI (by omega) (by omega)) (ok_m (ok_m ?_))
    refine hb (Yc.2.2.1 a - (i + 1)) _ _ (by omega) ⟨i + 1, by omega, rfl, by rw [nI_1], hI, fun k hk => ?_, fun b k hne => ?_⟩
    · by_cases e : k = i
      · subst e; exact uJ_eq
      · rw [uJ_nb e]; exact hx k (by omega)
    · rw [uJ_na hne]; exact hF b k hne
theorem fillI_ok {N a : Nat} {x : Int32} {M : sg_M} (hl : Yc.2.2.1 a < 1000) (hN : 1000 ≤ N) : ok (fJ7_fill_53178 N a x M) (fun M1 => M1.2 = M.2 ∧ (∀ k, k < Yc.2.2.1 a → M1.1 a k = x) ∧ ∀ b k, b ≠ a → M1.1 b k = M.1 b k) := by
  unfold fJ7_fill_53178
  refine ok_m (ok_m ?_)
  unfold gJ7_fill_53178_5
  refine ok_lp (fun n s M1 => ∃ i, i ≤ Yc.2.2.1 a ∧ n = Yc.2.2.1 a - i ∧ s = (a, x, nI i, nI (Yc.2.2.1 a)) ∧ M1.2 = M.2 ∧ (∀ k, k < i → M1.1 a k = x) ∧ ∀ b k, b ≠ a → M1.1 b k = M.1 b k) ?_ N (Yc.2.2.1 a) _ _ ⟨0, by omega, rfl, rfl, rfl, fun k h => absurd h (by omega), fun _ _ _ => rfl⟩ (by omega)
  rintro n s M1 back ⟨i, hi, rfl, rfl, hI, hx, hF⟩ hb
  unfold bJ7_fill_53178_5
  dsimp only
  refine ok_if (fun h => ?_) (fun h => ?_)
  · have := (nI_leI (by omega) (by omega)).mp h
    obtain rfl : i = Yc.2.2.1 a := by omega
    exact ok_some ⟨hI, hx, hF⟩
  · have hi2 : i < Yc.2.2.1 a := by
      rcases Nat.lt_or_ge i (Yc.2.2.1 a) with z | z
      · exact z
      · exact absurd (nI_le z (by omega)) h
    rw [nI_clamp (by omega)]
    refine ok_t (ib_nI (by omega) (by omega)) (ok_m (ok_m ?_))
    refine hb (Yc.2.2.1 a - (i + 1)) _ _ (by omega) ⟨i + 1, by omega, rfl, by rw [nI_1], hI, fun k hk => ?_, fun b k hne => ?_⟩
    · by_cases e : k = i
      · subst e; exact uI_eq
      · rw [uI_nb e]; exact hx k (by omega)
    · rw [uI_na hne]; exact hF b k hne
/-- what strap s adds at nodes v, u -/
def Lt (c r : Nat) (w : Nat → Nat) (v u s : Nat) : Int := (if v = sA c r s ∧ u = sA c r s then (w s : Int) else 0) + (if v = sB c r s ∧ u = sB c r s then (w s : Int) else 0) - (if v = sA c r s ∧ u = sB c r s then (w s : Int) else 0) - (if v = sB c r s ∧ u = sA c r s then (w s : Int) else 0)
/-- the straps' sums at nodes v, u: the first k -/
def LnK (c r : Nat) (w : Nat → Nat) (k v u : Nat) : Int := fs k (Lt c r w v u)
theorem ix_eq {un : Nat → Bool} {n v i : Nat} (hv : v < n) (hu : un v = true) (hi : i < (Ul un n).length) : (Ul un v).length = i ↔ v = (Ul un n).getD i 0 := by
  constructor
  · intro h
    have := (Ul_in hv hu).2
    rw [h] at this
    exact this.symm
  · intro h
    rw [h]
    exact Ul_ix hi
/-- rows as far as straps are in -/
def rowsP (c r : Nat) (w : Nat → Nat) (un : Nat → Bool) (k : Nat) (ro : Nat → Nat → Int64) : Prop := ∀ i j, i < (Ul un (c * r)).length → j < (Ul un (c * r)).length → ro i j = lI (LnK c r w k ((Ul un (c * r)).getD i 0) ((Ul un (c * r)).getD j 0))
