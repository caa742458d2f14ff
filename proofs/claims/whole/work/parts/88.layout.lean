/-! the class lays the straps of a grid -/
section LA
variable {N : Nat}
def lTab (L : List (Nat × Nat)) (W : Int32) (M0 M : sg_M) : Prop := M.1 2 6 = nI L.length ∧ (∀ s, s < L.length → M.1 3 s = nI (L.getD s (0, 0)).1 ∧ M.1 4 s = nI (L.getD s (0, 0)).2 ∧ M.1 5 s = W) ∧ (∀ s, L.length ≤ s → M.1 5 s = M0.1 5 s) ∧ M.2 = M0.2 ∧ ∀ a k, (a ≠ 3 ∧ a ≠ 4 ∧ a ≠ 5 ∧ (a ≠ 2 ∨ k ≠ 6)) → M.1 a k = M0.1 a k
theorem c_adds {M M0 : sg_M} {W : Int32} {L : List (Nat × Nat)} {a b : Nat} (hT : lTab L W M0 M) (hL : L.length < 12) : ok (fX4_addStrap N 2 (nI a) (nI b) W M) (fun M1 => lTab (L ++ [(a, b)]) W M0 M1) := by
  obtain ⟨h6, hs, h5, hJ, hF⟩ := hT
  have y9 : Yc.2.2.2 2 9 = 3 := by decide
  have y10 : Yc.2.2.2 2 10 = 4 := by decide
  have y11 : Yc.2.2.2 2 11 = 5 := by decide
  have n3 : Yc.2.2.1 3 = 12 := by decide
  have n4 : Yc.2.2.1 4 = 12 := by decide
  have n5 : Yc.2.2.1 5 = 12 := by decide
  unfold fX4_addStrap
  rw [y9, y10, y11, n3, n4, n5, h6]
  refine ok_f (show ¬ (12 : Int32) ≤ nI L.length from (show ¬ nI 12 ≤ nI L.length from nI_ge hL (by omega))) (ok_t (ib_nI (by omega) (by omega)) (ok_m ?_))
  rw [uI_na (show 2 ≠ 3 by decide), h6]
  refine ok_t (ib_nI (by omega) (by omega)) (ok_m ?_)
  rw [uI_na (show 2 ≠ 4 by decide), uI_na (show 2 ≠ 3 by decide), h6]
  refine ok_t (ib_nI (by omega) (by omega)) (ok_m (ok_m (ok_some ?_)))
  rw [nI_clamp (show L.length < 2 ^ 31 by omega), uI_na (show 2 ≠ 5 by decide), uI_na (show 2 ≠ 4 by decide), uI_na (show 2 ≠ 3 by decide), h6]
  refine ⟨?_, fun s hl => ?_, fun s hl => ?_, hJ, fun i k hi => ?_⟩
  · rw [uI_eq, nI_1, List.length_append]; rfl
  · rw [List.length_append] at hl
    simp only [List.length_cons, List.length_nil] at hl
    by_cases e : s = L.length
    · subst e
      rw [getD_app1]
      refine ⟨?_, ?_, ?_⟩
      · rw [uI_na (by omega), uI_na (by omega), uI_na (by omega), uI_eq]
      · rw [uI_na (by omega), uI_na (by omega), uI_eq]
      · rw [uI_na (by omega), uI_eq]
    · have := hs s (by omega)
      rw [getD_app0 (by omega)]
      refine ⟨?_, ?_, ?_⟩
      · rw [uI_na (by omega), uI_na (by omega), uI_na (by omega), uI_nb e]; exact this.1
      · rw [uI_na (by omega), uI_na (by omega), uI_nb e, uI_na (by omega)]; exact this.2.1
      · rw [uI_na (by omega), uI_nb e, uI_na (by omega), uI_na (by omega)]; exact this.2.2
  · rw [List.length_append] at hl
    simp only [List.length_cons, List.length_nil] at hl
    rw [uI_na (by omega), uI_nb (by omega), uI_na (by omega), uI_na (by omega)]
    exact h5 s (by omega)
  · rw [uI_at, if_neg (by omega), uI_na (by omega), uI_na (by omega), uI_na (by omega)]
    exact hF i k hi
theorem stv_all {c r : Nat} : stv c r (c * r) = stp c r := rfl
theorem layOut_ok {c r : Nat} {W : Int32} {M : sg_M} (hs : shp c r) (hN : 20 ≤ N) : ok (fX4_layOut N 2 (nI c) (nI r) W M) (fun M1 => M1.1 2 0 = nI c ∧ M1.1 2 1 = nI r ∧ netG c r 2 M1 ∧ (∀ s, s < ns c r → M1.1 5 s = W) ∧ (∀ s, ns c r ≤ s → M1.1 5 s = M.1 5 s) ∧ M1.2 = M.2 ∧ ∀ a k, (a ≠ 3 ∧ a ≠ 4 ∧ a ≠ 5 ∧ (a ≠ 2 ∨ (k ≠ 0 ∧ k ≠ 1 ∧ k ≠ 5 ∧ k ≠ 6))) → M1.1 a k = M.1 a k) := by
  obtain ⟨hc, hr⟩ := shp_le hs
  obtain ⟨h1, h2, h9⟩ := id hs
  unfold fX4_layOut
  refine ok_m (ok_m (ok_m (ok_m (ok_m ?_))))
  generalize hM0 : sg_uI (sg_uI (sg_uI (sg_uI M 2 0 (nI c)) 2 1 (nI r)) 2 5 (nI c * nI r)) 2 6 0 = M0
  refine ok_imp (P := fun M1 => lTab (stp c r) W M0 M1) ?_ (fun M1 h => ?_)
  · unfold gX4_layOut_25
    refine ok_for 0 r (fun y s M1 => s = (2, nI c, nI r, W, nI y) ∧ lTab (stv c r (y * c)) W M0 M1) (by omega) (by omega) ⟨rfl, ?_⟩ ?_ ?_
    · rw [Nat.zero_mul]
      exact ⟨by rw [← hM0, uI_eq]; rfl, fun s z => absurd z (by simp [stv]), fun _ _ => rfl, rfl, fun _ _ _ => rfl⟩
    · rintro y s M1 back hy ⟨rfl, hT⟩ hb
      unfold bX4_layOut_25
      dsimp only
      refine ok_f (nI_ge hy (by omega)) (ok_m ?_)
      unfold gX4_layOut_34
      refine ok_for 0 c (fun x s M1 => s = (2, nI c, nI r, W, nI y, nI x) ∧ lTab (stv c r (y * c + x)) W M0 M1) (by omega) (by omega) ⟨rfl, hT⟩ ?_ ?_
      · rintro x s M1 back2 hx ⟨rfl, hT⟩ hb2
        have hv := in_v hx hy
        obtain ⟨l1, l2⟩ := stv_len hs (Nat.le_of_lt hv)
        have l2 := l2 hv
        have em : (y * c + x) % c = x := by rw [Nat.mul_comm, Nat.mul_add_mod, Nat.mod_eq_of_lt hx]
        have ed : (y * c + x) / c = y := by rw [Nat.mul_comm, Nat.mul_add_div (by omega), Nat.div_eq_of_lt hx]; rfl
        have ss := stv_succ c r (y * c + x)
        rw [em, ed] at ss l2
        have fin : ∀ M2, lTab (stv c r (y * c + x) ++ (if x + 1 < c then [(y * c + x, y * c + x + 1)] else [])) W M0 M2 → ok (gX4_layOut_69 N back back2 2 (nI c) (nI r) W (nI y) (nI x) M2) (fun M1 => lTab (stp c r) W M0 M1) := fun M2 hT2 => by
          unfold gX4_layOut_69
          rw [nI_1, nI_mul, nI_mul, nI_add, nI_add, nI_1]
          refine ok_if (fun z => ?_) (fun z => ?_)
          · have z := (nI_leI (by omega) (by omega)).mp z
            refine ok_m (hb2 _ _ ⟨rfl, ?_⟩)
            rw [← Nat.add_assoc, ss, if_neg (show ¬ y + 1 < r by omega), List.append_nil]
            exact hT2
          · have z : y + 1 < r := by
              rcases Nat.lt_or_ge (y + 1) r with q | q
              · exact q
              · exact absurd (nI_le q (by omega)) z
            rw [if_pos z] at l2
            refine ok_bv (c_adds (N := N) hT2 ?_) (fun M3 h3 => ok_m (hb2 _ _ ⟨rfl, ?_⟩))
            · rw [List.length_append]
              by_cases q : x + 1 < c
              · rw [if_pos q] at l2 ⊢; simp only [List.length_cons, List.length_nil]; omega
              · rw [if_neg q] at l2 ⊢; simp only [List.length_nil]; omega
            · rw [← Nat.add_assoc, ss, if_pos z, ← List.append_assoc]
              rw [show (y + 1) * c + x = y * c + x + c by rw [Nat.add_mul, Nat.one_mul]; omega] at h3
              exact h3
        unfold bX4_layOut_34
        dsimp only
        refine ok_f (nI_ge hx (by omega)) ?_
        rw [nI_1, nI_mul, nI_add, nI_1]
        refine ok_if (fun z => ?_) (fun z => ?_)
        · have z := (nI_leI (by omega) (by omega)).mp z
          refine fin _ ?_
          rw [if_neg (by omega), List.append_nil]
          exact hT
        · have z : x + 1 < c := by
            rcases Nat.lt_or_ge (x + 1) c with q | q
            · exact q
            · exact absurd (nI_le q (by omega)) z
          rw [if_pos z] at l2
          refine ok_bv (c_adds (N := N) hT (by omega)) (fun M3 h3 => fin _ ?_)
          rw [if_pos z]
          exact h3
      · rintro s M1 back2 ⟨rfl, hT⟩
        unfold bX4_layOut_34
        dsimp only
        refine ok_t (nI_le (Nat.le_refl _) (by omega)) (ok_m (hb _ _ ⟨by rw [nI_1], ?_⟩))
        rw [Nat.add_mul, Nat.one_mul]
        exact hT
    · rintro s M1 back ⟨rfl, hT⟩
      unfold bX4_layOut_25
      dsimp only
      rw [Nat.mul_comm] at hT
      exact ok_t (nI_le (Nat.le_refl _) (by omega)) (ok_some hT)
  · obtain ⟨g6, gs, g5, gJ, gF⟩ := h
    subst hM0
    refine ⟨?_, ?_, ⟨?_, g6, fun s hs => (gs s hs).1, fun s hs => (gs s hs).2.1⟩, fun s hs => (gs s hs).2.2, fun s hs => ?_, gJ, fun a k ha => ?_⟩
    · rw [gF 2 0 (by omega), uI_nb (by omega), uI_nb (by omega), uI_nb (by omega), uI_eq]
    · rw [gF 2 1 (by omega), uI_nb (by omega), uI_nb (by omega), uI_eq]
    · rw [gF 2 5 (by omega), uI_nb (by omega), uI_eq, nI_mul]
    · rw [g5 s hs, uI_na (by omega), uI_na (by omega), uI_na (by omega), uI_na (by omega)]
    · rw [gF a k (by omega), uI_at, if_neg (by omega), uI_at, if_neg (by omega), uI_at, if_neg (by omega), uI_at, if_neg (by omega)]
end LA
