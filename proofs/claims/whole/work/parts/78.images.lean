/-! nothing there; Nets copied; images -/
theorem ok_1 {σ β : Type} {F : (σ → sg_M → Option β) → σ → sg_M → Option β} {P : β → Prop} {N : Nat} {s : σ} {M : sg_M} (hN : 0 < N) (h : ∀ back, ok (F back s M) P) : ok (sg_lp F N s M) P := by
  refine ok_lp (fun n t M1 => t = s ∧ M1 = M) ?_ N 0 s M ⟨rfl, rfl⟩ hN
  rintro n t M1 back ⟨rfl, rfl⟩ _
  exact h back
section EM
variable {N : Nat}
theorem settle0 {M : sg_M} (h5 : M.1 13 5 = 0) (h6 : M.1 13 6 = 0) (hN : 1000 ≤ N) : ok (fX1_settle N 55 13 16 0 17 M) (fun M1 => M1.1 55 0 = 0 ∧ ∀ a k, a < 55 → M1.1 a k = M.1 a k) := by
  have e1 : fX4_spread N 13 16 0 M = some (0, M) := by
    apply ok_eq
    unfold fX4_spread
    refine ok_m (ok_m ?_)
    unfold gX4_spread_5
    refine ok_1 (by omega) (fun back => ?_)
    unfold bX4_spread_5
    dsimp only
    refine ok_f (by decide) (ok_m (ok_m ?_))
    unfold gX4_spread_18
    refine ok_1 (by omega) (fun back2 => ?_)
    unfold bX4_spread_18
    dsimp only
    rw [h6]
    exact ok_t (by decide) (ok_t rfl (ok_some rfl))
  unfold fX1_settle
  rw [e1, e_b, h5]
  refine ok_m ?_
  have ez : ((((1 : Int32) <<< ((0 : Int32) &&& 31)) - (1 : Int32)) &&& ((0 : Int32) ^^^ (-1 : Int32))) = 0 := by decide
  rw [ez]
  have u7 : ∀ a k, (a ≠ 55 ∨ k ≠ 0) → (sg_uI M 55 0 0).1 a k = M.1 a k := fun a k ha => by rw [uI_at, if_neg (by omega)]
  refine ok_bv (Q := fun M8 => M8.1 55 0 = 0 ∧ M8.1 55 4 = 0 ∧ ∀ a k, a < 55 → M8.1 a k = M.1 a k) ?_ (fun M8 g8 => ?_)
  · unfold fX1_numberRows
    refine ok_m (ok_m ?_)
    unfold gX1_numberRows_7
    refine ok_1 (by omega) (fun back => ?_)
    unfold bX1_numberRows_7
    dsimp only
    rw [uI_na (by omega), u7 13 5 (by omega), h5]
    exact ok_t (by decide) (ok_some ⟨by rw [uI_nb (by omega), uI_eq], uI_eq, fun a k ha => by rw [uI_na (by omega), u7 a k (by omega)]⟩)
  obtain ⟨a0, a4, aF⟩ := g8
  refine ok_bv (Q := fun M9 => M9 = M8) ?_ (fun M9 g9 => ?_)
  · unfold fX1_fillRows
    refine ok_m ?_
    unfold gX1_fillRows_3
    refine ok_1 (by omega) (fun back => ?_)
    unfold bX1_fillRows_3
    dsimp only
    rw [a4]
    refine ok_t (by decide) (ok_m ?_)
    unfold gX1_fillRows_54
    refine ok_1 (by omega) (fun back2 => ?_)
    unfold bX1_fillRows_54
    dsimp only
    rw [aF 13 6 (by omega), h6]
    exact ok_t (by decide) (ok_some rfl)
  subst g9
  refine ok_bv (Q := fun M10 => M10.1 = M9.1) ?_ (fun M10 g10 => ?_)
  · unfold fX1_clearRows
    refine ok_m (ok_m ?_)
    unfold gX1_clearRows_4
    refine ok_1 (by omega) (fun back => ?_)
    unfold bX1_clearRows_4
    dsimp only
    rw [a4]
    exact ok_t (by decide) (ok_m (ok_some rfl))
  rw [y55_2]
  refine ok_bv (fillJ_ok (N := N) (a := 56) (x := 0) (by rw [yn_56]; omega) hN) (fun M11 g11 => ok_m ?_)
  have e11 : M11.1 = M9.1 := g11.1.trans g10
  unfold gX1_settle_50
  refine ok_1 (by omega) (fun back => ?_)
  unfold bX1_settle_50
  dsimp only
  rw [e11, a4]
  refine ok_t (by decide) ?_
  unfold fX1_keepScore
  rw [y55_3]
  refine ok_bv (Q := fun M12 => ∀ a k, a ≠ 57 → M12.1 a k = M9.1 a k) (ok_m (ok_m (ok_m (ok_m ?_)))) (fun M12 g12 => ok_some ⟨by rw [g12 55 0 (by omega), a0], fun a k ha => by rw [g12 a k (by omega), aF a k ha]⟩)
  unfold gX1_keepScore_29
  refine ok_1 (by omega) (fun back2 => ?_)
  unfold bX1_keepScore_29
  dsimp only
  rw [uJ_i, uJ_i, uI_na (by omega), e11, aF 13 5 (by omega), h5]
  exact ok_t (by decide) (ok_some (fun a k ha => by rw [uJ_i, uJ_i, uI_na ha, e11]))
/-- a Net copied -/
def cpF (q p : Nat) (M M1 : sg_M) : Prop := (∀ k, k < 9 → M1.1 q k = M.1 p k) ∧ (∀ s, s < 12 → M1.1 (q + 1) s = M.1 (p + 1) s) ∧ (∀ s, s < 12 → M1.1 (q + 2) s = M.1 (p + 2) s) ∧ (∀ s, s < 12 → M1.1 (q + 3) s = M.1 (p + 3) s) ∧ (∀ s, s < 9 → M1.1 (q + 4) s = M.1 (p + 4) s) ∧ (∀ s, s < 9 → M1.1 (q + 5) s = M.1 (p + 5) s) ∧ (∀ s, s < 4 → M1.1 (q + 6) s = M.1 (p + 6) s) ∧ (∀ s, s < 20 → M1.1 (q + 7) s = M.1 (p + 7) s) ∧ (∀ s, s < 20 → M1.1 (q + 8) s = M.1 (p + 8) s) ∧ (∀ s, s < 20 → M1.1 (q + 9) s = M.1 (p + 9) s) ∧ (∀ a k, (a < q ∨ q + 10 ≤ a) → M1.1 a k = M.1 a k) ∧ M1.2 = M.2
set_option maxHeartbeats 2000000 in
theorem copyFrom_ok {q p : Nat} {M : sg_M} (hq : sg_K Yc q 4) (hp : sg_K Yc p 4) (hd : q + 10 ≤ p ∨ p + 10 ≤ q) : ok (fX4_copyFrom N q p M) (cpF q p M) := by
  unfold fX4_copyFrom
  rw [show ((0 : Int32)).toNatClampNeg = 0 by decide, show ((12 : Int32)).toNatClampNeg = 12 by decide, show ((9 : Int32)).toNatClampNeg = 9 by decide, show ((4 : Int32)).toNatClampNeg = 4 by decide, show ((20 : Int32)).toNatClampNeg = 20 by decide, rc4_9 hq, rc4_9 hp, lc4_9 hq, lc4_9 hp, rc4_10 hq, rc4_10 hp, lc4_10 hq, lc4_10 hp, rc4_11 hq, rc4_11 hp, lc4_11 hq, lc4_11 hp, rc4_12 hq, rc4_12 hp, lc4_12 hq, lc4_12 hp, rc4_13 hq, rc4_13 hp, lc4_13 hq, lc4_13 hp, rc4_14 hq, rc4_14 hp, lc4_14 hq, lc4_14 hp, rc4_15 hq, rc4_15 hp, lc4_15 hq, lc4_15 hp, rc4_16 hq, rc4_16 hp, lc4_16 hq, lc4_16 hp, rc4_17 hq, rc4_17 hp, lc4_17 hq, lc4_17 hp]
  refine ok_m (ok_m (ok_m (ok_m (ok_m (ok_m (ok_m (ok_m (ok_m (ok_t (by decide) (ok_m (ok_t (by decide) (ok_m (ok_t (by decide) (ok_m (ok_t (by decide) (ok_m (ok_t (by decide) (ok_m (ok_t (by decide) (ok_m (ok_t (by decide) (ok_m (ok_t (by decide) (ok_m (ok_t (by decide) (ok_m (?_)))))))))))))))))))))))))))
  refine ok_some ⟨fun k hk => ?_, fun s hs => ?_, fun s hs => ?_, fun s hs => ?_, fun s hs => ?_, fun s hs => ?_, fun s hs => ?_, fun s hs => ?_, fun s hs => ?_, fun s hs => ?_, fun a k ha => ?_, ?_⟩
  · obtain rfl | rfl | rfl | rfl | rfl | rfl | rfl | rfl | rfl : k = 0 ∨ k = 1 ∨ k = 2 ∨ k = 3 ∨ k = 4 ∨ k = 5 ∨ k = 6 ∨ k = 7 ∨ k = 8 := by omega
    · rw [cpy_na (by omega), cpy_na (by omega), cpy_na (by omega), cpy_na (by omega), cpy_na (by omega), cpy_na (by omega), cpy_na (by omega), cpy_na (by omega), cpy_na (by omega), uI_nb (by omega), uI_nb (by omega), uI_nb (by omega), uI_nb (by omega), uI_nb (by omega), uI_nb (by omega), uI_nb (by omega), uI_nb (by omega), uI_eq]
    · rw [cpy_na (by omega), cpy_na (by omega), cpy_na (by omega), cpy_na (by omega), cpy_na (by omega), cpy_na (by omega), cpy_na (by omega), cpy_na (by omega), cpy_na (by omega), uI_nb (by omega), uI_nb (by omega), uI_nb (by omega), uI_nb (by omega), uI_nb (by omega), uI_nb (by omega), uI_nb (by omega), uI_eq, uI_na (by omega)]
    · rw [cpy_na (by omega), cpy_na (by omega), cpy_na (by omega), cpy_na (by omega), cpy_na (by omega), cpy_na (by omega), cpy_na (by omega), cpy_na (by omega), cpy_na (by omega), uI_nb (by omega), uI_nb (by omega), uI_nb (by omega), uI_nb (by omega), uI_nb (by omega), uI_nb (by omega), uI_eq, uI_na (by omega), uI_na (by omega)]
    · rw [cpy_na (by omega), cpy_na (by omega), cpy_na (by omega), cpy_na (by omega), cpy_na (by omega), cpy_na (by omega), cpy_na (by omega), cpy_na (by omega), cpy_na (by omega), uI_nb (by omega), uI_nb (by omega), uI_nb (by omega), uI_nb (by omega), uI_nb (by omega), uI_eq, uI_na (by omega), uI_na (by omega), uI_na (by omega)]
    · rw [cpy_na (by omega), cpy_na (by omega), cpy_na (by omega), cpy_na (by omega), cpy_na (by omega), cpy_na (by omega), cpy_na (by omega), cpy_na (by omega), cpy_na (by omega), uI_nb (by omega), uI_nb (by omega), uI_nb (by omega), uI_nb (by omega), uI_eq, uI_na (by omega), uI_na (by omega), uI_na (by omega), uI_na (by omega)]
    · rw [cpy_na (by omega), cpy_na (by omega), cpy_na (by omega), cpy_na (by omega), cpy_na (by omega), cpy_na (by omega), cpy_na (by omega), cpy_na (by omega), cpy_na (by omega), uI_nb (by omega), uI_nb (by omega), uI_nb (by omega), uI_eq, uI_na (by omega), uI_na (by omega), uI_na (by omega), uI_na (by omega), uI_na (by omega)]
    · rw [cpy_na (by omega), cpy_na (by omega), cpy_na (by omega), cpy_na (by omega), cpy_na (by omega), cpy_na (by omega), cpy_na (by omega), cpy_na (by omega), cpy_na (by omega), uI_nb (by omega), uI_nb (by omega), uI_eq, uI_na (by omega), uI_na (by omega), uI_na (by omega), uI_na (by omega), uI_na (by omega), uI_na (by omega)]
    · rw [cpy_na (by omega), cpy_na (by omega), cpy_na (by omega), cpy_na (by omega), cpy_na (by omega), cpy_na (by omega), cpy_na (by omega), cpy_na (by omega), cpy_na (by omega), uI_nb (by omega), uI_eq, uI_na (by omega), uI_na (by omega), uI_na (by omega), uI_na (by omega), uI_na (by omega), uI_na (by omega), uI_na (by omega)]
    · rw [cpy_na (by omega), cpy_na (by omega), cpy_na (by omega), cpy_na (by omega), cpy_na (by omega), cpy_na (by omega), cpy_na (by omega), cpy_na (by omega), cpy_na (by omega), uI_eq, uI_na (by omega), uI_na (by omega), uI_na (by omega), uI_na (by omega), uI_na (by omega), uI_na (by omega), uI_na (by omega), uI_na (by omega)]
  · rw [cpy_na (by omega), cpy_na (by omega), cpy_na (by omega), cpy_na (by omega), cpy_na (by omega), cpy_na (by omega), cpy_na (by omega), cpy_na (by omega), cpy_in hs, uI_na (by omega), uI_na (by omega), uI_na (by omega), uI_na (by omega), uI_na (by omega), uI_na (by omega), uI_na (by omega), uI_na (by omega), uI_na (by omega)]
  · rw [cpy_na (by omega), cpy_na (by omega), cpy_na (by omega), cpy_na (by omega), cpy_na (by omega), cpy_na (by omega), cpy_na (by omega), cpy_in hs, cpy_na (by omega), uI_na (by omega), uI_na (by omega), uI_na (by omega), uI_na (by omega), uI_na (by omega), uI_na (by omega), uI_na (by omega), uI_na (by omega), uI_na (by omega)]
  · rw [cpy_na (by omega), cpy_na (by omega), cpy_na (by omega), cpy_na (by omega), cpy_na (by omega), cpy_na (by omega), cpy_in hs, cpy_na (by omega), cpy_na (by omega), uI_na (by omega), uI_na (by omega), uI_na (by omega), uI_na (by omega), uI_na (by omega), uI_na (by omega), uI_na (by omega), uI_na (by omega), uI_na (by omega)]
  · rw [cpy_na (by omega), cpy_na (by omega), cpy_na (by omega), cpy_na (by omega), cpy_na (by omega), cpy_in hs, cpy_na (by omega), cpy_na (by omega), cpy_na (by omega), uI_na (by omega), uI_na (by omega), uI_na (by omega), uI_na (by omega), uI_na (by omega), uI_na (by omega), uI_na (by omega), uI_na (by omega), uI_na (by omega)]
  · rw [cpy_na (by omega), cpy_na (by omega), cpy_na (by omega), cpy_na (by omega), cpy_in hs, cpy_na (by omega), cpy_na (by omega), cpy_na (by omega), cpy_na (by omega), uI_na (by omega), uI_na (by omega), uI_na (by omega), uI_na (by omega), uI_na (by omega), uI_na (by omega), uI_na (by omega), uI_na (by omega), uI_na (by omega)]
  · rw [cpy_na (by omega), cpy_na (by omega), cpy_na (by omega), cpy_in hs, cpy_na (by omega), cpy_na (by omega), cpy_na (by omega), cpy_na (by omega), cpy_na (by omega), uI_na (by omega), uI_na (by omega), uI_na (by omega), uI_na (by omega), uI_na (by omega), uI_na (by omega), uI_na (by omega), uI_na (by omega), uI_na (by omega)]
  · rw [cpy_na (by omega), cpy_na (by omega), cpy_in hs, cpy_na (by omega), cpy_na (by omega), cpy_na (by omega), cpy_na (by omega), cpy_na (by omega), cpy_na (by omega), uI_na (by omega), uI_na (by omega), uI_na (by omega), uI_na (by omega), uI_na (by omega), uI_na (by omega), uI_na (by omega), uI_na (by omega), uI_na (by omega)]
  · rw [cpy_na (by omega), cpy_in hs, cpy_na (by omega), cpy_na (by omega), cpy_na (by omega), cpy_na (by omega), cpy_na (by omega), cpy_na (by omega), cpy_na (by omega), uI_na (by omega), uI_na (by omega), uI_na (by omega), uI_na (by omega), uI_na (by omega), uI_na (by omega), uI_na (by omega), uI_na (by omega), uI_na (by omega)]
  · rw [cpy_in hs, cpy_na (by omega), cpy_na (by omega), cpy_na (by omega), cpy_na (by omega), cpy_na (by omega), cpy_na (by omega), cpy_na (by omega), cpy_na (by omega), uI_na (by omega), uI_na (by omega), uI_na (by omega), uI_na (by omega), uI_na (by omega), uI_na (by omega), uI_na (by omega), uI_na (by omega), uI_na (by omega)]
  · rw [cpy_na (by omega), cpy_na (by omega), cpy_na (by omega), cpy_na (by omega), cpy_na (by omega), cpy_na (by omega), cpy_na (by omega), cpy_na (by omega), cpy_na (by omega), uI_na (by omega), uI_na (by omega), uI_na (by omega), uI_na (by omega), uI_na (by omega), uI_na (by omega), uI_na (by omega), uI_na (by omega), uI_na (by omega)]
  · rw [cpy_l, cpy_l, cpy_l, cpy_l, cpy_l, cpy_l, cpy_l, cpy_l, cpy_l]
    rfl
theorem nst_m {q p n : Nat} {b T T2 : Nat → Int32} {M M1 : sg_M} (hn : n ≤ 20) (h : nst p b n T M) (hF : cpF q p M M1) (hT : ∀ j, j < 840 → T2 j = T j) : nst q b n T2 M1 := by
  obtain ⟨f0, f1, f2, f3, f4, f5, f6, f7, f8, f9, -, -⟩ := hF
  rcases h with ⟨h1, h2, h3, h4, h5⟩ | ⟨h1, h2, h3⟩
  · obtain ⟨⟨h0, hh1, hh2, hh3, hh4, hh7⟩, ⟨g5, g6, gA, gB⟩, hw, hl, hg, hb⟩ := h2
    have n12 : ns (gC b) (gR b) ≤ 12 := ns_le h1.1
    refine Or.inl ⟨h1, ⟨⟨by rw [f0 0 (by omega), h0], by rw [f0 1 (by omega), hh1], by rw [f0 2 (by omega), hh2], by rw [f0 3 (by omega), hh3], by rw [f0 4 (by omega), hh4], by rw [f0 7 (by omega), hh7]⟩, ⟨by rw [f0 5 (by omega), g5], by rw [f0 6 (by omega), g6], fun s hs => by rw [f1 s (by omega), gA s hs], fun s hs => by rw [f2 s (by omega), gB s hs]⟩, fun s hs => by rw [f3 s hs, hw s hs], fun v hv => by rw [f4 v hv, hl v hv], fun v hv => by rw [f5 v hv, hg v hv], fun g hg2 => by rw [f6 g hg2, hb g hg2]⟩, by rw [f0 8 (by omega), h3], h4, hist_c h5 (fun j hj => hT j (by omega)) (fun i hi => f7 i (by omega)) (fun i hi => f8 i (by omega)) (fun i hi => f9 i (by omega))⟩
  · exact Or.inr ⟨fun k hk => by rw [f0 k hk, h1 k hk], h2, h3⟩
theorem nst_n {q n : Nat} {b T : Nat → Int32} {M : sg_M} (h : nst q b n T M) : n ≤ 20 := by
  rcases h with h | h
  · exact h.2.2.2.1
  · rw [h.2.2]; omega
theorem K13 : sg_K Yc 13 4 := ⟨by decide, by decide⟩
theorem Kim {k : Nat} (hk : k < 3) : sg_K Yc (24 + 10 * k) 4 ∧ Yc.2.2.2 23 k = 24 + 10 * k := by
  obtain rfl | rfl | rfl : k = 0 ∨ k = 1 ∨ k = 2 := by omega
  · exact ⟨⟨by decide, by decide⟩, by decide⟩
  · exact ⟨⟨by decide, by decide⟩, by decide⟩
  · exact ⟨⟨by decide, by decide⟩, by decide⟩
theorem yn_23 : Yc.2.2.1 23 = 3 := by decide
theorem yn_54 : Yc.2.2.1 54 = 3 := by decide
theorem ib3 {x : Int32} : sg_ib x 3 = true ↔ ¬ x < 0 ∧ x < 3 := by
  have e : Int32.toInt 0 = 0 := by decide
  have e4 : Int32.toInt 3 = 3 := by decide
  rw [Int32.lt_iff_toInt_lt, Int32.lt_iff_toInt_lt, e, e4]
  unfold sg_ib
  rw [decide_eq_true_iff]
  omega
theorem CR_nst {Mc Mr : sg_M} {n : Nat} (hD : (nstG 13 (Mr.1 1) n (Mr.1 3) Mc ∧ caches (Mr.1 1) Mc) ∨ (nstN 13 (Mr.1 1) n Mc ∧ (Mc.1 0 5 ≠ 0 → Mc.1 55 0 = 0))) : nst 13 (Mr.1 1) n (Mr.1 3) Mc := hD.elim (fun h => Or.inl h.1) (fun h => Or.inr h.1)
set_option maxHeartbeats 1000000 in
theorem r_image {k : Nat} {M : sg_M} (hk : k < 3) (hN : 1000 ≤ N) : ok (gX11_image_23 N (0, nI k, nI (881 * k), 0) M) (fun res => res.1 = 0 ∧ (∀ j, j < 40 → res.2.1 4 (881 * k + j) = M.1 1 j) ∧ res.2.1 4 (881 * k + 40) = M.1 0 4 ∧ (∀ j, j < 840 → res.2.1 4 (881 * k + 41 + j) = M.1 3 j) ∧ (∀ j, (j < 881 * k ∨ 881 * k + 881 ≤ j) → res.2.1 4 j = M.1 4 j) ∧ res.2.1 5 k = 1 ∧ (∀ j, j ≠ k → res.2.1 5 j = M.1 5 j) ∧ ∀ a j, a ≠ 4 → a ≠ 5 → res.2.1 a j = M.1 a j) := by
  unfold gX11_image_23
  refine ok_for 0 40 (fun i s M1 => s = (0, nI k, nI (881 * k), nI i) ∧ (∀ j, j < i → M1.1 4 (881 * k + j) = M.1 1 j) ∧ (∀ j, (j < 881 * k ∨ 881 * k + 881 ≤ j) → M1.1 4 j = M.1 4 j) ∧ ∀ a j, a ≠ 4 → M1.1 a j = M.1 a j) (by omega) (by omega) ⟨rfl, fun j hj => absurd hj (by omega), fun _ _ => rfl, fun _ _ _ => rfl⟩ ?_ ?_
  · rintro i s M1 back hi ⟨rfl, g1, g2, g3⟩ hb
    unfold bX11_image_23
    dsimp only
    rw [yr_1, yl_1, yr_5, yl_4, nI_add, nI_clamp (show i < 2 ^ 31 by omega), nI_clamp (show 881 * k + i < 2 ^ 31 by omega), nI_1]
    refine ok_f (show ¬ nI 40 ≤ nI i from nI_ge hi (by omega)) (ok_t (ib_nI (by omega) (by omega)) (ok_t (ib_nI (by omega) (by omega)) (ok_m (ok_m (hb _ _ ⟨rfl, fun j hj => ?_, fun j hj => by rw [uI_nb (by omega), g2 j hj], fun a j ha => by rw [uI_na ha, g3 a j ha]⟩)))))
    by_cases q : j = i
    · subst q; rw [uI_eq, g3 1 j (by omega)]
    · rw [uI_nb (by omega), g1 j (by omega)]
  · rintro s M1 back ⟨rfl, g1, g2, g3⟩
    unfold bX11_image_23
    dsimp only
    rw [yr_5, yl_4, show (40 : Int32) = nI 40 from rfl, nI_add, nI_clamp (show 881 * k + 40 < 2 ^ 31 by omega)]
    refine ok_t (nI_le (Nat.le_refl _) (by omega)) (ok_t (ib_nI (by omega) (by omega)) (ok_m (ok_m ?_)))
    unfold gX11_image_64
    refine ok_for 0 840 (fun i s M2 => s = (0, nI k, nI (881 * k), nI i) ∧ (∀ j, j < 40 → M2.1 4 (881 * k + j) = M.1 1 j) ∧ M2.1 4 (881 * k + 40) = M.1 0 4 ∧ (∀ j, j < i → M2.1 4 (881 * k + 41 + j) = M.1 3 j) ∧ (∀ j, (j < 881 * k ∨ 881 * k + 881 ≤ j) → M2.1 4 j = M.1 4 j) ∧ ∀ a j, a ≠ 4 → M2.1 a j = M.1 a j) (by omega) (by omega) ⟨rfl, fun j hj => by rw [uI_nb (by omega), g1 j hj], by rw [uI_eq, g3 0 4 (by omega)], fun j hj => absurd hj (by omega), fun j hj => by rw [uI_nb (by omega), g2 j hj], fun a j ha => by rw [uI_na ha, g3 a j ha]⟩ ?_ ?_
    · rintro i s M2 back2 hi ⟨rfl, a1, a2, a3, a4, a5⟩ hb2
      unfold bX11_image_64
      dsimp only
      rw [yr_3, yl_3, yr_5, yl_4, show (40 : Int32) = nI 40 from rfl, nI_add, nI_1, nI_add, nI_clamp (show i < 2 ^ 31 by omega), nI_clamp (show 881 * k + 40 + 1 + i < 2 ^ 31 by omega), nI_1]
      refine ok_f (show ¬ nI 840 ≤ nI i from nI_ge hi (by omega)) (ok_t (ib_nI (by omega) (by omega)) (ok_t (ib_nI (by omega) (by omega)) (ok_m (ok_m (hb2 _ _ ⟨rfl, fun j hj => by rw [uI_nb (by omega), a1 j hj], by rw [uI_nb (by omega), a2], fun j hj => ?_, fun j hj => by rw [uI_nb (by omega), a4 j hj], fun a j ha => by rw [uI_na ha, a5 a j ha]⟩)))))
      by_cases q : j = i
      · subst q; rw [show 881 * k + 41 + j = 881 * k + 40 + 1 + j by omega, uI_eq, a5 3 j (by omega)]
      · rw [uI_nb (by omega), a3 j (by omega)]
    · rintro s M2 back2 ⟨rfl, a1, a2, a3, a4, a5⟩
      unfold bX11_image_64
      dsimp only
      rw [yr_6, yl_5, nI_clamp (show k < 2 ^ 31 by omega)]
      refine ok_t (by decide) (ok_t (ib_nI (by omega) (by omega)) (ok_m (ok_some ⟨rfl, fun j hj => by rw [uI_na (by omega), a1 j hj], by rw [uI_na (by omega), a2], fun j hj => by rw [uI_na (by omega), a3 j hj], fun j hj => by rw [uI_na (by omega), a4 j hj], by rw [uI_eq]; rfl, fun j hj => by rw [uI_nb hj, a5 5 j (by omega)], fun a j h4 h5 => by rw [uI_na h5, a5 a j h4]⟩)))
theorem d_image {x : Int32} (hN : 1000 ≤ N) : dua (fX10_image N 0 x) (fX11_image N 0 x) := by
  intro Mc Mr hCR
  obtain ⟨hR, hI, hz, n, h4, hD⟩ := id hCR
  unfold fX10_image fX11_image
  rw [show (2 : Int64) = lI (((3 : Nat) : Int) - 1) from rfl, r_in (n := 3) (by omega), e_b]
  by_cases hx : sg_ib x 3 = true
  case neg =>
    rw [if_neg hx, if_pos q0]
    by_cases l : x < 0
    · rw [if_pos l]; exact ⟨_, _, _, rfl, rfl, hCR⟩
    · rw [if_neg l, if_neg (fun z => hx (ib3.mpr ⟨l, z⟩))]; exact ⟨_, _, _, rfl, rfl, hCR⟩
  have hx2 := ib3.mp hx
  rw [if_pos hx, if_neg q1, if_neg hx2.1, if_pos hx2.2]
  obtain ⟨k, hk, rfl⟩ := ib_ex hx
  obtain ⟨kk, ke⟩ := Kim hk
  obtain ⟨M1, e1, F1⟩ := copyFrom_ok (N := N) (M := Mc) kk K13 (by omega)
  obtain ⟨⟨A, M3⟩, e3, a0, a1, a2, a3, a4, a5, a6, a7⟩ := r_image (N := N) (M := Mr) hk hN
  have a0 : A = 0 := a0
  subst a0
  rw [y0_2, y0_3, y0_1, yn_23, yn_54, if_pos hx, nI_clamp (show k < 2 ^ 31 by omega), ke, e1, e_bv, if_pos hx, e_m, e_m, e_m, show (881 : Int32) * nI k = nI (881 * k) from nI_mul 881 k, e3]
  have hn20 := nst_n (CR_nst hD)
  have F9 := F1.2.2.2.2.2.2.2.2.2.2.1
  have cF : ∀ a j, (a < 24 + 10 * k ∨ 34 + 10 * k ≤ a) → (a ≠ 54 ∨ j ≠ k) → (sg_uI M1 54 k (vp_nar .boolean (1 : Int32))).1 a j = Mc.1 a j := fun a j g1 g2 => by rw [uI_at, if_neg (by omega), F9 a j (by omega)]
  have w1 : M3.1 1 = Mr.1 1 := funext fun j => a7 1 j (by omega) (by omega)
  have w3 : M3.1 3 = Mr.1 3 := funext fun j => a7 3 j (by omega) (by omega)
  refine ⟨_, _, _, rfl, rfl, rdr_c hR (fun j hj => cF 1 j (by omega) (by omega)) (fun j => cF 12 j (by omega) (by omega)) ⟨a7 0 10 (by omega) (by omega), a7 0 17 (by omega) (by omega), a7 0 18 (by omega) (by omega)⟩ (funext fun j => a7 7 j (by omega) (by omega)), fun t ht => ?_, fun j hj => by rw [w1, hz j hj], n, by rw [a7 0 4 (by omega) (by omega), h4], ?_⟩
  · by_cases q : t = k
    · subst q
      refine ⟨by rw [uI_eq, a5]; rfl, fun _ => ⟨n, by rw [a2, h4], ?_⟩⟩
      have eb : imb M3 t = Mr.1 1 := by
        funext j
        unfold imb
        by_cases q : j < 40
        · rw [if_pos q, a1 j q]
        · rw [if_neg q, hz j (by omega)]
      rw [eb]
      exact nst_c (nst_m hn20 (CR_nst hD) F1 (fun j hj => a3 j hj)) (fun a j g1 g2 => uI_na (by omega))
    · obtain ⟨g1, g2⟩ := hI t ht
      refine ⟨by rw [uI_nb q, F9 54 t (by omega), g1, a6 t q], fun z => ?_⟩
      rw [uI_nb q, F9 54 t (by omega)] at z
      obtain ⟨m, m1, m2⟩ := g2 z
      have eb : imb M3 t = imb Mr t := by
        funext j
        unfold imb
        by_cases w : j < 40
        · rw [if_pos w, if_pos w, a4 _ (by omega)]
        · rw [if_neg w, if_neg w]
      refine ⟨m, by rw [a4 _ (by omega), m1], ?_⟩
      rw [eb]
      have := nst_m (q := 24 + 10 * t) (p := 24 + 10 * t) (T2 := fun j => M3.1 4 (881 * t + 41 + j)) (M := Mc) (M1 := Mc) (nst_n m2) m2 ⟨fun _ _ => rfl, fun _ _ => rfl, fun _ _ => rfl, fun _ _ => rfl, fun _ _ => rfl, fun _ _ => rfl, fun _ _ => rfl, fun _ _ => rfl, fun _ _ => rfl, fun _ _ => rfl, fun _ _ _ => rfl, rfl⟩ (fun j hj => a4 _ (by omega))
      exact nst_c this (fun a j h1 h2 => cF a j (by omega) (by omega))
  · rw [w1, w3]
    rcases hD with ⟨hG, hC⟩ | ⟨hG, hC⟩
    · exact Or.inl ⟨nstG_c hG (fun a j h1 h2 => cF a j (by omega) (by omega)), caches_c hG.1 hC (fun a j ha => ⟨cF a j (by omega) (by omega), by rw [uI_l, F1.2.2.2.2.2.2.2.2.2.2.2]⟩)⟩
    · exact Or.inr ⟨⟨fun j hj => by rw [cF 13 j (by omega) (by omega), hG.1 j hj], hG.2.1, hG.2.2⟩, fun z => by rw [cF 55 0 (by omega) (by omega)]; exact hC (by rw [← cF 0 5 (by omega) (by omega)]; exact z)⟩
set_option maxHeartbeats 1000000 in
theorem r_back {k : Nat} {M : sg_M} (hk : k < 3) (hN : 1000 ≤ N) : ok (gX11_back_35 N (0, nI (881 * k), 0) M) (fun res => res.1 = 0 ∧ (∀ j, j < 40 → res.2.1 1 j = M.1 4 (881 * k + j)) ∧ (∀ j, 40 ≤ j → res.2.1 1 j = M.1 1 j) ∧ res.2.1 0 4 = M.1 4 (881 * k + 40) ∧ (∀ j, j < 840 → res.2.1 3 j = M.1 4 (881 * k + 41 + j)) ∧ ∀ a j, a ≠ 1 → a ≠ 3 → (a ≠ 0 ∨ j ≠ 4) → res.2.1 a j = M.1 a j) := by
  unfold gX11_back_35
  refine ok_for 0 40 (fun i s M1 => s = (0, nI (881 * k), nI i) ∧ (∀ j, j < i → M1.1 1 j = M.1 4 (881 * k + j)) ∧ (∀ j, 40 ≤ j → M1.1 1 j = M.1 1 j) ∧ ∀ a j, a ≠ 1 → M1.1 a j = M.1 a j) (by omega) (by omega) ⟨rfl, fun j hj => absurd hj (by omega), fun _ _ => rfl, fun _ _ _ => rfl⟩ ?_ ?_
  · rintro i s M1 back hi ⟨rfl, g1, g2, g3⟩ hb
    unfold bX11_back_35
    dsimp only
    rw [yr_1, yl_1, yr_5, yl_4, nI_add, nI_clamp (show i < 2 ^ 31 by omega), nI_clamp (show 881 * k + i < 2 ^ 31 by omega), nI_1]
    refine ok_f (show ¬ nI 40 ≤ nI i from nI_ge hi (by omega)) (ok_t (ib_nI (by omega) (by omega)) (ok_t (ib_nI (by omega) (by omega)) (ok_m (ok_m (hb _ _ ⟨rfl, fun j hj => ?_, fun j hj => by rw [uI_nb (by omega), g2 j hj], fun a j ha => by rw [uI_na ha, g3 a j ha]⟩)))))
    by_cases q : j = i
    · subst q; rw [uI_eq, g3 4 _ (by omega)]
    · rw [uI_nb (by omega), g1 j (by omega)]
  · rintro s M1 back ⟨rfl, g1, g2, g3⟩
    unfold bX11_back_35
    dsimp only
    rw [yr_5, yl_4, show (40 : Int32) = nI 40 from rfl, nI_add, nI_clamp (show 881 * k + 40 < 2 ^ 31 by omega)]
    refine ok_t (nI_le (Nat.le_refl _) (by omega)) (ok_t (ib_nI (by omega) (by omega)) (ok_m (ok_m ?_)))
    unfold gX11_back_76
    refine ok_for 0 840 (fun i s M2 => s = (0, nI (881 * k), nI i) ∧ (∀ j, j < 40 → M2.1 1 j = M.1 4 (881 * k + j)) ∧ (∀ j, 40 ≤ j → M2.1 1 j = M.1 1 j) ∧ M2.1 0 4 = M.1 4 (881 * k + 40) ∧ (∀ j, j < i → M2.1 3 j = M.1 4 (881 * k + 41 + j)) ∧ ∀ a j, a ≠ 1 → a ≠ 3 → (a ≠ 0 ∨ j ≠ 4) → M2.1 a j = M.1 a j) (by omega) (by omega) ⟨rfl, fun j hj => by rw [uI_na (by omega), g1 j hj], fun j hj => by rw [uI_na (by omega), g2 j hj], by rw [uI_eq, g3 4 _ (by omega)], fun j hj => absurd hj (by omega), fun a j h1 h3 h0 => by rw [uI_at, if_neg (by omega), g3 a j h1]⟩ ?_ ?_
    · rintro i s M2 back2 hi ⟨rfl, a1, a2, a3, a4, a5⟩ hb2
      unfold bX11_back_76
      dsimp only
      rw [yr_3, yl_3, yr_5, yl_4, show (40 : Int32) = nI 40 from rfl, nI_add, nI_1, nI_add, nI_clamp (show i < 2 ^ 31 by omega), nI_clamp (show 881 * k + 40 + 1 + i < 2 ^ 31 by omega), nI_1]
      refine ok_f (show ¬ nI 840 ≤ nI i from nI_ge hi (by omega)) (ok_t (ib_nI (by omega) (by omega)) (ok_t (ib_nI (by omega) (by omega)) (ok_m (ok_m (hb2 _ _ ⟨rfl, fun j hj => by rw [uI_na (by omega), a1 j hj], fun j hj => by rw [uI_na (by omega), a2 j hj], by rw [uI_na (by omega), a3], fun j hj => ?_, fun a j h1 h3 h0 => by rw [uI_na h3, a5 a j h1 h3 h0]⟩)))))
      by_cases q : j = i
      · subst q; rw [uI_eq, a5 4 _ (by omega) (by omega) (by omega)]
      · rw [uI_nb (by omega), a4 j (by omega)]
    · rintro s M2 back2 ⟨rfl, a1, a2, a3, a4, a5⟩
      unfold bX11_back_76
      dsimp only
      exact ok_t (by decide) (ok_some ⟨rfl, a1, a2, a3, a4, a5⟩)
theorem d_back {x : Int32} (hN : 1000 ≤ N) : dua (fX10_back N 0 x) (fX11_back N 0 x) := by
  intro Mc Mr hCR
  obtain ⟨hR, hI, hz, n, h4, hD⟩ := id hCR
  unfold fX10_back fX11_back
  rw [show (2 : Int64) = lI (((3 : Nat) : Int) - 1) from rfl, r_in (n := 3) (by omega), e_b]
  by_cases hx : sg_ib x 3 = true
  case neg =>
    rw [if_neg hx, if_pos q0]
    by_cases l : x < 0
    · rw [if_pos l]; exact ⟨_, _, _, rfl, rfl, hCR⟩
    · rw [if_neg l, if_neg (fun z => hx (ib3.mpr ⟨l, z⟩))]; exact ⟨_, _, _, rfl, rfl, hCR⟩
  have hx2 := ib3.mp hx
  rw [if_pos hx, if_neg q1, if_neg hx2.1, if_pos hx2.2]
  obtain ⟨k, hk, rfl⟩ := ib_ex hx
  obtain ⟨kk, ke⟩ := Kim hk
  obtain ⟨i1, i2⟩ := hI k hk
  rw [y0_2, y0_3, y0_1, yn_23, yn_54, if_pos hx, if_pos hx, nI_clamp (show k < 2 ^ 31 by omega), ke, yr_6, yl_5, if_pos hx, i1]
  by_cases z : Mr.1 5 k = 0
  · rw [if_pos z, if_pos z]
    exact ⟨_, _, _, rfl, rfl, hCR⟩
  rw [if_neg z, if_neg z]
  obtain ⟨m, m1, m2⟩ := i2 (by rw [i1]; exact z)
  obtain ⟨M1, e1, F1⟩ := copyFrom_ok (N := N) (M := Mc) K13 kk (by omega)
  obtain ⟨M2, e2, cc, l2, z05⟩ := forget_ok (N := N) (M := M1) (by omega)
  obtain ⟨⟨A, M3⟩, e3, a0, a1, a2, a3, a4, a5⟩ := r_back (N := N) (M := Mr) hk hN
  have a0 : A = 0 := a0
  subst a0
  rw [e1, e_bv, e2, e_bv, e_m, e_m, show (881 : Int32) * nI k = nI (881 * k) from nI_mul 881 k, e3]
  have F9 := F1.2.2.2.2.2.2.2.2.2.2.1
  have cF : ∀ a j, (a < 13 ∨ 23 ≤ a) → a < 55 → (a ≠ 0 ∨ j ≠ 5) → M2.1 a j = Mc.1 a j := fun a j g1 g2 g3 => by rw [l2 a j g2 g3, F9 a j (by omega)]
  have w1 : M3.1 1 = imb Mr k := by
    funext j
    unfold imb
    by_cases q : j < 40
    · rw [if_pos q, a1 j q]
    · rw [if_neg q, a2 j (by omega), hz j (by omega)]
  refine ⟨_, _, _, rfl, rfl, rdr_c hR (fun j hj => cF 1 j (by omega) (by omega) (by omega)) (fun j => cF 12 j (by omega) (by omega) (by omega)) ⟨a5 0 10 (by omega) (by omega) (by omega), a5 0 17 (by omega) (by omega) (by omega), a5 0 18 (by omega) (by omega) (by omega)⟩ (funext fun j => a5 7 j (by omega) (by omega) (by omega)), imgs_c hI (fun a j h1 h2 => cF a j (by omega) h2 (by omega)) (funext fun j => a5 4 j (by omega) (by omega) (by omega)) (funext fun j => a5 5 j (by omega) (by omega) (by omega)), fun j hj => by rw [a2 j hj, hz j hj], m, by rw [a3, m1], ?_⟩
  have hn := nst_m (T2 := M3.1 3) (nst_n m2) m2 F1 (fun j hj => a4 j hj)
  have hn2 := nst_c (M1 := M2) hn (fun a j h1 h2 => l2 a j (by omega) (by omega))
  rw [w1]
  rcases hn2 with hG | hG
  · exact Or.inl ⟨hG, cc _⟩
  · exact Or.inr ⟨hG, fun q => absurd z05 q⟩
set_option maxHeartbeats 1000000 in
theorem d_count {x : Int32} (hN : 1000 ≤ N) : dua (fX10_count N 0 x) (fX11_count N 0 x) := by
  intro Mc Mr hCR
  obtain ⟨hR, hI, hz, n, h4, hD⟩ := id hCR
  obtain ⟨⟨sz, s1, s2, s3, s4⟩, -, -⟩ := id hR
  have hall : (Mc.1 13 0 = Mr.1 1 0 ∧ Mc.1 13 1 = Mr.1 1 1 ∧ Mc.1 13 2 = Mr.1 1 2 ∧ Mc.1 13 3 = Mr.1 1 3 ∧ Mc.1 13 4 = Mr.1 1 4 ∧ Mc.1 13 7 = Mr.1 1 5) ∧ Mc.1 13 8 = Mr.1 0 4 := by
    rcases hD with ⟨hG, -⟩ | ⟨hG, -⟩
    · exact ⟨hG.2.1.1, by rw [hG.2.2.1, h4]⟩
    · obtain ⟨g1, g2, g3⟩ := hG
      refine ⟨⟨?_, ?_, ?_, ?_, ?_, ?_⟩, by rw [g1 8 (by omega), h4, g3]; rfl⟩
      all_goals rw [g1 _ (by omega), g2 _ (by omega)]
  obtain ⟨⟨p0, p1, p2, p3, p4, p7⟩, p8⟩ := hall
  unfold fX10_count fX11_count
  rw [y0_0, y0_1, yr_1, yl_1, c_0, c_1, c_2, c_3, c_4, c_5, if_pos (show sg_ib (0 : Int32) 40 = true by decide), if_pos (show sg_ib (1 : Int32) 40 = true by decide), if_pos (show sg_ib (2 : Int32) 40 = true by decide), if_pos (show sg_ib (3 : Int32) 40 = true by decide), if_pos (show sg_ib (4 : Int32) 40 = true by decide), if_pos (show sg_ib (5 : Int32) 40 = true by decide), p0, p1, p2, p3, p4, p7, p8, s2, s3]
  by_cases q0' : x = 0
  · rw [if_pos q0', if_pos q0']; exact ⟨_, _, _, rfl, rfl, hCR⟩
  rw [if_neg q0', if_neg q0']
  by_cases q1' : x = 1
  · rw [if_pos q1', if_pos q1']; exact ⟨_, _, _, rfl, rfl, hCR⟩
  rw [if_neg q1', if_neg q1']
  by_cases q2' : x = 2
  · rw [if_pos q2', if_pos q2']; exact ⟨_, _, _, rfl, rfl, hCR⟩
  rw [if_neg q2', if_neg q2']
  by_cases q3' : x = 3
  · rw [if_pos q3', if_pos q3']; exact ⟨_, _, _, rfl, rfl, hCR⟩
  rw [if_neg q3', if_neg q3']
  by_cases q4' : x = 4
  · rw [if_pos q4', if_pos q4']
    rcases hD with ⟨hG, hC⟩ | ⟨hG, hC⟩
    · obtain ⟨M1, e1, T1, F1⟩ := r_stp (N := N) (M := Mr) hG.1 rfl (by omega)
      rw [e1, e_b, show Mc.1 13 6 = nI (gS (Mr.1 1)) from (cNet_G hG.2.1).2.1]
      exact ⟨_, _, _, rfl, rfl, CR_rq hCR (rsF_rEq (rFr_rsF F1))⟩
    · rw [rn_str hG.2.1, e_b, hG.1 6 (by omega)]
      exact ⟨_, _, _, rfl, rfl, hCR⟩
  rw [if_neg q4', if_neg q4']
  by_cases q5' : x = 5
  · rw [if_pos q5', if_pos q5']; exact ⟨_, _, _, rfl, rfl, hCR⟩
  rw [if_neg q5', if_neg q5']
  by_cases q6' : x = 6
  · rw [if_pos q6', if_pos q6']; exact ⟨_, _, _, rfl, rfl, hCR⟩
  rw [if_neg q6', if_neg q6']
  by_cases q7' : x = 7
  · rw [if_pos q7', if_pos q7']; exact ⟨_, _, _, rfl, rfl, hCR⟩
  rw [if_neg q7', if_neg q7']
  by_cases q8' : x = 8
  · rw [if_pos q8', if_pos q8']; exact ⟨_, _, _, rfl, rfl, hCR⟩
  rw [if_neg q8', if_neg q8']
  by_cases q9' : x = 9
  case neg =>
    rw [if_neg q9', if_neg q9']; exact ⟨_, _, _, rfl, rfl, hCR⟩
  rw [if_pos q9', if_pos q9']
  rcases id hD with ⟨hG, hC⟩ | ⟨hG, hC⟩
  · have hc : cI (Mr.1 1) Mc := ⟨hG.1, hG.2.1, hC⟩
    obtain ⟨M1, e1, S1, F1⟩ := r_asks (N := N) (M := Mr) hG.1 rfl hN
    obtain ⟨M2, e2, c2, s2, f2⟩ := now_ok (N := N) hc hN
    have l2 := nowF_low f2
    rw [e1, e2, e_b, e_b, if_neg q1, show M2.1 55 0 = bQ (Mr.1 1) from s2.1, show M1.1 0 21 = bQ (Mr.1 1) from S1.1.1]
    have r1 := rsF_rEq F1
    have w1 : M1.1 1 = Mr.1 1 := r1.1 1 (by omega)
    refine ⟨_, _, _, rfl, rfl, rdr_c hR (fun k hk => l2 1 k (by omega) (by omega)) (fun k => l2 12 k (by omega) (by omega)) ⟨r1.2 10 (by omega), r1.2 17 (by omega), r1.2 18 (by omega)⟩ (r1.1 7 (by omega)), imgs_c hI (fun a k g1 g2 => l2 a k g2 (by omega)) (r1.1 4 (by omega)) (r1.1 5 (by omega)), fun k hk => by rw [w1, hz k hk], n, by rw [r1.2 4 (by omega), h4], Or.inl ⟨?_, by rw [w1]; exact c2.2.2⟩⟩
    rw [w1, r1.1 3 (by omega)]
    exact nstG_c hG (fun a k g1 g2 => l2 a k (by omega) (by omega))
  · rw [rn_asks hG.2.1, e_b, if_pos q0]
    unfold fX10_now
    rw [y0_4, y0_1, y13_11, y13_12, hG.1 7 (by omega)]
    by_cases w : Mc.1 0 5 = 0
    · obtain ⟨M2, e2, a0, aF⟩ := settle0 (N := N) (M := Mc) (hG.1 5 (by omega)) (hG.1 6 (by omega)) hN
      rw [if_pos w, e2, e_bv, e_m, e_b, uI_na (by omega), a0]
      have cF : ∀ a k, a < 55 → (a ≠ 0 ∨ k ≠ 5) → (sg_uI M2 0 5 1).1 a k = Mc.1 a k := fun a k g1 g2 => by rw [uI_at, if_neg (by omega), aF a k g1]
      exact ⟨_, _, _, rfl, rfl, rdr_c hR (fun k hk => cF 1 k (by omega) (by omega)) (fun k => cF 12 k (by omega) (by omega)) ⟨rfl, rfl, rfl⟩ rfl, imgs_c hI (fun a k g1 g2 => cF a k g2 (by omega)) rfl rfl, hz, n, h4, Or.inr ⟨⟨fun k hk => by rw [cF 13 k (by omega) (by omega), hG.1 k hk], hG.2.1, hG.2.2⟩, fun _ => by rw [uI_na (by omega), a0]⟩⟩
    · rw [if_neg w, e_b, hC w]
      exact ⟨_, _, _, rfl, rfl, hCR⟩
end EM
