theorem yr0 : sg_K Yr 0 11 := ⟨by decide, by decide⟩
theorem yr_1 : Yr.2.2.2 0 1 = 1 := by decide
theorem yl_1 : Yr.2.2.1 1 = 40 := by decide
theorem yr_2 : Yr.2.2.2 0 2 = 2 := by decide
theorem yl_2 : Yr.2.2.1 2 = 40 := by decide
theorem yr_3 : Yr.2.2.2 0 3 = 3 := by decide
theorem yl_3 : Yr.2.2.1 3 = 840 := by decide
theorem yr_5 : Yr.2.2.2 0 5 = 4 := by decide
theorem yl_4 : Yr.2.2.1 4 = 2643 := by decide
theorem yr_6 : Yr.2.2.2 0 6 = 5 := by decide
theorem yl_5 : Yr.2.2.1 5 = 3 := by decide
theorem yr_7 : Yr.2.2.2 0 7 = 6 := by decide
theorem yl_6 : Yr.2.2.1 6 = 24 := by decide
theorem yr_9 : Yr.2.2.2 0 9 = 7 := by decide
theorem yl_7 : Yr.2.2.1 7 = 700 := by decide
theorem yr_11 : Yr.2.2.2 0 11 = 8 := by decide
theorem yl_8 : Yr.2.2.1 8 = 5 := by decide
theorem yr_22 : Yr.2.2.2 0 22 = 9 := by decide
theorem yl_9 : Yr.2.2.1 9 = 9 := by decide
theorem yr_23 : Yr.2.2.2 0 23 = 10 := by decide
theorem yl_10 : Yr.2.2.1 10 = 9 := by decide
theorem yr_25 : Yr.2.2.2 0 25 = 11 := by decide
theorem yl_11 : Yr.2.2.1 11 = 162 := by decide
theorem yr_27 : Yr.2.2.2 0 27 = 12 := by decide
theorem yl_12 : Yr.2.2.1 12 = 9 := by decide
theorem yr_28 : Yr.2.2.2 0 28 = 13 := by decide
theorem yl_13 : Yr.2.2.1 13 = 9 := by decide
theorem yr_29 : Yr.2.2.2 0 29 = 14 := by decide
theorem yl_14 : Yr.2.2.1 14 = 4 := by decide
theorem yr_30 : Yr.2.2.2 0 30 = 15 := by decide
theorem yl_15 : Yr.2.2.1 15 = 40 := by decide
theorem yr_34 : Yr.2.2.2 0 34 = 16 := by decide
theorem yl_16 : Yr.2.2.1 16 = 20 := by decide
theorem yr_36 : Yr.2.2.2 0 36 = 17 := by decide
theorem yl_17 : Yr.2.2.1 17 = 3 := by decide
theorem uI_na {M : sg_M} {j k a b : Nat} {v : Int32} (h : a ≠ j) : (sg_uI M j k v).1 a b = M.1 a b := by rw [uI_at, if_neg (fun q => h q.1)]
theorem uI_nb {M : sg_M} {j k a b : Nat} {v : Int32} (h : b ≠ k) : (sg_uI M j k v).1 a b = M.1 a b := by rw [uI_at, if_neg (fun q => h q.2)]
theorem uI_eq {M : sg_M} {j k : Nat} {v : Int32} : (sg_uI M j k v).1 j k = v := by rw [uI_at, if_pos ⟨rfl, rfl⟩]
theorem uJ_na {M : sg_M} {j k a b : Nat} {v : Int64} (h : a ≠ j) : (sg_uJ M j k v).2 a b = M.2 a b := by rw [uJ_at, if_neg (fun q => h q.1)]
theorem uJ_nb {M : sg_M} {j k a b : Nat} {v : Int64} (h : b ≠ k) : (sg_uJ M j k v).2 a b = M.2 a b := by rw [uJ_at, if_neg (fun q => h q.2)]
theorem uJ_eq {M : sg_M} {j k : Nat} {v : Int64} : (sg_uJ M j k v).2 j k = v := by rw [uJ_at, if_pos ⟨rfl, rfl⟩]
theorem ok_bs {α β : Type} {a : α} {M : sg_M} {K : α → sg_M → Option β} {P : β → Prop} (h : ok (K a M) P) : ok (sg_b (some (a, M)) K) P := h
theorem getD_app0 {α : Type} {L L2 : List α} {s : Nat} {d : α} (h : s < L.length) : (L ++ L2).getD s d = L.getD s d := by
  rw [List.getD_eq_getElem?_getD, List.getD_eq_getElem?_getD, List.getElem?_append_left h]
theorem getD_app1 {α : Type} {L : List α} {x d : α} : (L ++ [x]).getD L.length d = x := by
  rw [List.getD_eq_getElem?_getD, List.getElem?_append_right (Nat.le_refl _), Nat.sub_self]
  rfl
/-! the reference's straps -/
theorem r_isGrid {N : Nat} {M : sg_M} : fX11_isGrid N 0 M = some (if M.1 1 4 ≤ 0 then 0 else 1, M) := by
  unfold fX11_isGrid
  rw [yr_1, yl_1, if_pos (show sg_ib (4 : Int32) 40 = true by decide)]
  show (if M.1 1 4 ≤ 0 then _ else _) = _
  by_cases h : M.1 1 4 ≤ 0
  · rw [if_pos h, if_pos h]
  · rw [if_neg h, if_neg h]
theorem r_nodes {N : Nat} {M : sg_M} : fX11_nodes N 0 M = some (M.1 1 0 * M.1 1 1, M) := by
  unfold fX11_nodes fX11_nodesIn
  rw [yr_1, yl_1, if_pos (show sg_ib (0 : Int32) 40 = true by decide), if_pos (show sg_ib (1 : Int32) 40 = true by decide)]
  rfl
/-- the straps of the first nodes -/
def stv (c r v : Nat) : List (Nat × Nat) := (List.range v).flatMap (fun v => (if v % c + 1 < c then [(v, v + 1)] else []) ++ (if v / c + 1 < r then [(v, v + c)] else []))
theorem stv_succ (c r v : Nat) : stv c r (v + 1) = stv c r v ++ ((if v % c + 1 < c then [(v, v + 1)] else []) ++ (if v / c + 1 < r then [(v, v + c)] else [])) := by
  unfold stv
  rw [List.range_succ, List.flatMap_append]
  simp
def stv_b (c r v : Nat) : Bool := !(decide (1 ≤ c) && decide (1 ≤ r) && decide (c * r ≤ 9) && decide (v ≤ c * r)) || (decide ((stv c r v).length ≤ 12) && (!(decide (v < c * r)) || decide ((stv c r v).length + ((if v % c + 1 < c then 1 else 0) + (if v / c + 1 < r then 1 else 0)) ≤ 12)))
theorem stv_ball : ∀ c, c < 10 → ∀ r, r < 10 → ∀ v, v < 10 → stv_b c r v = true := by decide +kernel
theorem stv_len {c r v : Nat} (h : shp c r) (hv : v ≤ c * r) : (stv c r v).length ≤ 12 ∧ (v < c * r → (stv c r v).length + ((if v % c + 1 < c then 1 else 0) + (if v / c + 1 < r then 1 else 0)) ≤ 12) := by
  have h9 := h.2.2
  have q := stv_ball c (shp_le h).1 r (shp_le h).2 v (by omega)
  unfold stv_b at q
  rw [decide_eq_true h.1, decide_eq_true h.2.1, decide_eq_true h.2.2, decide_eq_true hv] at q
  simp only [Bool.and_self, Bool.not_true, Bool.false_or, Bool.and_eq_true, decide_eq_true_eq, Bool.or_eq_true, Bool.not_eq_true', decide_eq_false_iff_not] at q
  exact ⟨q.1, fun z => q.2.resolve_left (fun n => n z)⟩
/-- what the reference's table of ends holds of a list of straps -/
def rTab (L : List (Nat × Nat)) (M : sg_M) : Prop := M.1 0 8 = nI L.length ∧ ∀ s, s < L.length → M.1 6 (2 * s) = nI (L.getD s (0, 0)).1 ∧ M.1 6 (2 * s + 1) = nI (L.getD s (0, 0)).2
def rFr (M M1 : sg_M) : Prop := M1.2 = M.2 ∧ ∀ a k, a ≠ 6 → (a ≠ 0 ∨ k ≠ 8) → M1.1 a k = M.1 a k
theorem r_adds {N : Nat} {M M0 : sg_M} {L : List (Nat × Nat)} {a b : Nat} (hT : rTab L M) (hF : rFr M0 M) (hL : L.length < 12) : ok (fX11_addsStrap N 0 (nI a) (nI b) M) (fun M1 => rTab (L ++ [(a, b)]) M1 ∧ rFr M0 M1) := by
  obtain ⟨h8, hs⟩ := hT
  unfold fX11_addsStrap
  have e2 : (2 : Int32) * nI L.length = nI (2 * L.length) := (by decide +kernel : ∀ n, n < 12 → (2 : Int32) * nI n = nI (2 * n)) _ hL
  have e3 : (2 : Int32) * nI L.length + 1 = nI (2 * L.length + 1) := by rw [e2, nI_1]
  rw [yr_7, yl_6, h8, e2]
  refine ok_t (ib_nI (by omega) (by omega)) (ok_m ?_)
  rw [uI_na (by decide), h8, e3]
  refine ok_t (ib_nI (by omega) (by omega)) (ok_m (ok_m (ok_some ?_)))
  rw [nI_clamp (by omega), nI_clamp (by omega)]
  refine ⟨⟨?_, fun s hl => ?_⟩, hF.1, fun x k hx hk => ?_⟩
  · rw [uI_eq, uI_na (by decide), uI_na (by decide), h8, nI_1]
    simp
  · rw [List.length_append] at hl
    simp only [List.length_cons, List.length_nil] at hl
    by_cases e : s = L.length
    · subst e
      rw [getD_app1]
      refine ⟨?_, ?_⟩
      · rw [uI_na (by decide), uI_nb (by omega), uI_eq]
      · rw [uI_na (by decide), uI_eq]
    · have := hs s (by omega)
      rw [getD_app0 (by omega)]
      refine ⟨?_, ?_⟩
      · rw [uI_na (by decide), uI_nb (by omega), uI_nb (by omega)]
        exact this.1
      · rw [uI_na (by decide), uI_nb (by omega), uI_nb (by omega)]
        exact this.2
  · rw [uI_at, if_neg (by omega), uI_na hx, uI_na hx]
    exact hF.2 x k hx hk
theorem r_mod : ∀ c, c < 10 → 1 ≤ c → ∀ v, v < 9 → ((nI c - 1 ≤ nI v - nI v / nI c * nI c) ↔ ¬ v % c + 1 < c) := by decide +kernel
theorem r_divb : ∀ c, c < 10 → ∀ v, v < 9 → ∀ r, r < 10 → (!(decide (1 ≤ c) && decide (1 ≤ r)) || (decide (nI r - 1 ≤ nI v / nI c) == !(decide (v / c + 1 < r)))) = true := by decide +kernel
theorem r_div : ∀ c, c < 10 → 1 ≤ c → ∀ v, v < 9 → ∀ r, r < 10 → 1 ≤ r → ((nI r - 1 ≤ nI v / nI c) ↔ ¬ v / c + 1 < r) := by
  intro c hc h1 v hv r hr h2
  have q := r_divb c hc v hv r hr
  rw [decide_eq_true h1, decide_eq_true h2] at q
  simp only [Bool.and_self, Bool.not_true, Bool.false_or, beq_iff_eq] at q
  by_cases z : v / c + 1 < r
  · rw [decide_eq_true z] at q
    simp at q
    simp [z, q]
  · rw [decide_eq_false z] at q
    simp at q
    simp [z, q]
theorem r_mul : ∀ c, c < 10 → ∀ r, r < 10 → nI c * nI r = nI (c * r) := by decide +kernel
theorem r_add9 (a b : Nat) : nI a + nI b = nI (a + b) := nI_add a b
theorem r_lays {N c r : Nat} {M : sg_M} (hs : shp c r) (hN : 20 ≤ N) : ok (fX11_laysStraps N 0 (nI c) (nI r) M) (fun M1 => rTab (stp c r) M1 ∧ rFr M M1) := by
  obtain ⟨hc, hr⟩ := shp_le hs
  obtain ⟨h1, h2, h9⟩ := id hs
  unfold fX11_laysStraps
  refine ok_m (ok_m ?_)
  unfold gX11_laysStraps_7
  refine ok_lp (fun n s M1 => ∃ v, v ≤ c * r ∧ n = c * r - v ∧ s = (0, nI c, nI r, nI v) ∧ rTab (stv c r v) M1 ∧ rFr M M1) ?_ N (c * r) _ _ ⟨0, by omega, rfl, rfl, ⟨?_, fun s h => absurd h (by simp [stv])⟩, rfl, fun a k _ h => by rw [uI_at, if_neg (by omega)]⟩ (by omega)
  · rintro n s M1 back ⟨v, hv, rfl, rfl, hT, hF⟩ hb
    unfold bX11_laysStraps_7
    dsimp only
    rw [r_mul c hc r hr]
    refine ok_if (fun h => ?_) (fun h => ?_)
    · have := (nI_leI (by omega) (by omega)).mp h
      obtain rfl : v = c * r := by omega
      exact ok_some ⟨hT, hF⟩
    · have hv2 : v < c * r := by
        rcases Nat.lt_or_ge v (c * r) with z | z
        · exact z
        · exact absurd (nI_le z (by omega)) h
      have hlen := (stv_len hs hv).2 hv2
      have c0 : ¬ nI c = 0 := nI_ne0 (by omega) (by omega)
      have fin : ∀ (L : List (Nat × Nat)) (M2 : sg_M), L = stv c r v ++ (if v % c + 1 < c then [(v, v + 1)] else []) → rTab L M2 → rFr M M2 → ok (gX11_laysStraps_31 N back 0 (nI c) (nI r) (nI v) M2) (fun M1 => rTab (stp c r) M1 ∧ rFr M M1) := by
        intro L M2 hL hT2 hF2
        have hLl : L.length = (stv c r v).length + (if v % c + 1 < c then 1 else 0) := by
          rw [hL, List.length_append]
          congr 1
          by_cases q : v % c + 1 < c
          · rw [if_pos q, if_pos q]; rfl
          · rw [if_neg q, if_neg q]; rfl
        unfold gX11_laysStraps_31
        refine ok_f c0 (ok_if (fun e => ?_) (fun e => ?_))
        · have e1 := (r_div c hc h1 v (by omega) r hr h2).mp e
          refine ok_m ?_
          refine hb (c * r - (v + 1)) _ _ (by omega) ⟨v + 1, by omega, rfl, by rw [nI_1], ?_, hF2⟩
          rw [stv_succ, if_neg e1, List.append_nil, ← hL]
          exact hT2
        · have e1 : v / c + 1 < r := Decidable.byContradiction fun z => e ((r_div c hc h1 v (by omega) r hr h2).mpr z)
          rw [if_pos e1] at hlen
          rw [nI_add]
          refine ok_bv (r_adds hT2 hF2 (by omega)) (fun M3 q => ok_m ?_)
          refine hb (c * r - (v + 1)) _ _ (by omega) ⟨v + 1, by omega, rfl, by rw [nI_1], ?_, q.2⟩
          rw [stv_succ, if_pos e1, ← List.append_assoc, ← hL]
          exact q.1
      refine ok_f c0 (ok_if (fun e => ?_) (fun e => ?_))
      · have e1 := (r_mod c hc h1 v (by omega)).mp e
        exact fin _ _ (by rw [if_neg e1, List.append_nil]) hT hF
      · have e1 : v % c + 1 < c := Decidable.byContradiction fun z => e ((r_mod c hc h1 v (by omega)).mpr z)
        rw [if_pos e1] at hlen
        rw [nI_1]
        exact ok_bv (r_adds hT hF (by omega)) (fun M3 q => fin _ _ (by rw [if_pos e1]) q.1 q.2)
  · rw [uI_at, if_pos ⟨rfl, rfl⟩]
    rfl
theorem r_straps {N c r : Nat} {M : sg_M} (hs : shp c r) (hN : 20 ≤ N) (h0 : M.1 1 0 = nI c) (h1 : M.1 1 1 = nI r) (hg : ¬ M.1 1 4 ≤ 0) : ok (fX11_straps N 0 M) (fun res => res.1 = nI (ns c r) ∧ rTab (stp c r) res.2 ∧ rFr M res.2) := by
  unfold fX11_straps
  rw [r_isGrid, if_neg hg]
  refine ok_bs (ok_f (by decide) ?_)
  rw [yr_1, yl_1]
  refine ok_t (by decide) (ok_t (by decide) ?_)
  rw [show ((0 : Int32)).toNatClampNeg = 0 by decide, show ((1 : Int32)).toNatClampNeg = 1 by decide, h0, h1]
  exact ok_bv (r_lays hs hN) (fun M1 q => ok_some ⟨q.1.1, q⟩)
