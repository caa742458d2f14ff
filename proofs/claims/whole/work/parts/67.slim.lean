/-! slimming; the reference's steps; widens, widen, wide, slims, slim -/
section SL
variable {N : Nat} {b : Nat → Int32}
theorem sl_s {i s : Nat} (e : nxs (sl b i) = some s) : sl b (i + 1) = wB (sl b i) s (gW (sl b i) s - 1) := by
  show (match nxs (sl b i) with | none => sl b i | some s => wB (sl b i) s (gW (sl b i) s - 1)) = _
  rw [e]
theorem sl_n {i : Nat} (e : nxs (sl b i) = none) : sl b (i + 1) = sl b i := by
  show (match nxs (sl b i) with | none => sl b i | some s => wB (sl b i) s (gW (sl b i) s - 1)) = _
  rw [e]
theorem nxs_lt {d : Nat → Int32} {s : Nat} (h : wdv b d) (e : nxs d = some s) : s < gS b ∧ 0 < gW d s ∧ bsd d = some s ∧ wth (gT d) (fW false d s) = true := by
  unfold nxs at e
  cases e2 : bsd d with
  | none => rw [e2] at e; cases e
  | some j =>
    rw [e2] at e
    have e : (if wth (gT d) (sco (wB d j (gW d j - 1))) = true then some j else none) = some s := e
    by_cases q : wth (gT d) (sco (wB d j (gW d j - 1))) = true
    · rw [if_pos q] at e
      cases e
      obtain ⟨h1, h2⟩ := bst_lt e2
      rw [(wdv_sm h).2.2.2.2.1] at h1
      exact ⟨h1, of_decide_eq_true h2, rfl, q⟩
    · rw [if_neg q] at e; cases e
theorem nxs_no {d : Nat → Int32} (h1 : bsd d = none ∨ ∃ j, bsd d = some j ∧ ¬ wth (gT d) (fW false d j) = true) : nxs d = none := by
  unfold nxs
  rcases h1 with e | ⟨j, e, q⟩
  · rw [e]
  · rw [e]
    exact if_neg q
theorem nxs_ye {d : Nat → Int32} {j : Nat} (e : bsd d = some j) (q : wth (gT d) (fW false d j) = true) : nxs d = some j := by
  unfold nxs
  rw [e]
  exact if_pos q
theorem sl_v (h : vb b) : ∀ i, wdv b (sl b i) := by
  intro i
  induction i with
  | zero => exact wdv_r h
  | succ i ih =>
    cases e : nxs (sl b i) with
    | none => rw [sl_n e]; exact ih
    | some s =>
      rw [sl_s e]
      have := nxs_lt ih e
      have hn := vb_n h
      have := vb_w4 ih.1 (show s < 12 by omega)
      exact wdv_wB ih (by omega) (by omega)
theorem sl_tw (h : vb b) : ∀ i, (∀ j, j < i → ∃ s, nxs (sl b j) = some s) → tw (sl b i) 12 + i ≤ 48 := by
  have hn := vb_n h
  intro i
  induction i with
  | zero => intro _; have := tw_48 h 12 (by omega); exact this
  | succ i ih =>
    intro hs
    have i1 := ih (fun j hj => hs j (by omega))
    obtain ⟨s, e⟩ := hs i (by omega)
    have wv := sl_v h i
    obtain ⟨h1, h2, -⟩ := nxs_lt wv e
    have w4 := vb_w4 wv.1 (show s < 12 by omega)
    have eS : gS (sl b i) = gS b := (wdv_sm wv).2.2.2.2.1
    obtain ⟨-, g1, g2⟩ := vb_wB (s := s) (x := gW (sl b i) s - 1) wv.1 (by omega) (by omega)
    have : tw (sl b (i + 1)) 12 < tw (sl b i) 12 := by
      rw [sl_s e]
      refine tw_lt (fun t ht => ?_) (s := s) ?_ 12 (by omega) (by omega)
      · by_cases q : t = s
        · subst q; rw [g1]; omega
        · rw [g2 t ht q]; omega
      · rw [g1]; omega
    omega
theorem tw_0 {d : Nat → Int32} : ∀ k, tw d k = 0 → ∀ s, s < k → gW d s = 0 := by
  intro k
  induction k with
  | zero => intro _ s hs; omega
  | succ k ih =>
    intro h s hs
    have h : tw d k + gW d k = 0 := h
    by_cases e : s = k
    · subst e; omega
    · exact ih (by omega) s (by omega)
theorem sl_end (h : vb b) {i : Nat} (hi : 48 ≤ i) (hs : ∀ j, j < i → ∃ s, nxs (sl b j) = some s) : nxs (sl b i) = none := by
  have hn := vb_n h
  have h1 := sl_tw h i hs
  have wv := sl_v h i
  have eS : gS (sl b i) = gS b := (wdv_sm wv).2.2.2.2.1
  refine nxs_no (Or.inl ((bst_none _).mpr (fun s hs => decide_eq_false ?_)))
  have := tw_0 12 (show tw (sl b i) 12 = 0 by omega) s (by omega)
  omega
abbrev pN (b : Nat → Int32) : Nat → Bool := fun i => (nxs (sl b i)).isNone
theorem slN_b (h : vb b) : slN b ≤ 48 ∧ nxs (sl b (slN b)) = none ∧ ∀ j, j < slN b → ∃ s, nxs (sl b j) = some s := by
  obtain ⟨h1, h2, h3⟩ := fst1_s (pN b) 49
  have h4 : ∀ j, j < slN b → ∃ s, nxs (sl b j) = some s := fun j hj => by
    have := h3 j hj
    cases e : nxs (sl b j) with
    | none => have this : (nxs (sl b j)).isNone = false := this; rw [e] at this; cases this
    | some s => exact ⟨s, rfl⟩
  have h5 : slN b ≤ 48 := by
    apply Classical.byContradiction
    intro hn
    have e : slN b = 49 := by have : slN b ≤ 49 := h1; omega
    have := h4 48 (by omega)
    rw [sl_end h (Nat.le_refl _) (fun j hj => h4 j (by omega))] at this
    obtain ⟨s, z⟩ := this
    cases z
  refine ⟨h5, ?_, h4⟩
  have := h2 (show slN b < 49 by omega)
  cases e : nxs (sl b (slN b)) with
  | none => rfl
  | some s => have this : (nxs (sl b (slN b))).isNone = true := this; rw [e] at this; cases this
theorem slN_u (h : vb b) {i : Nat} (e : nxs (sl b i) = none) (hs : ∀ j, j < i → ∃ s, nxs (sl b j) = some s) : slN b = i := by
  obtain ⟨h1, h2, h3⟩ := slN_b h
  rcases Nat.lt_trichotomy (slN b) i with q | q | q
  · obtain ⟨s, z⟩ := hs _ q
    rw [h2] at z; cases z
  · exact q
  · obtain ⟨s, z⟩ := h3 _ q
    rw [e] at z; cases z
set_option maxHeartbeats 1000000 in
theorem wslim_ok {M : sg_M} (hc : cI b M) (hN : 1000 ≤ N) : ok (fX8_lookSlim N 205 13 M) (fun M1 => cI b M1 ∧ low M M1 ∧ M1.1 205 9 ≠ 0) := by
  have h := hc.1
  have hn := vb_n h
  obtain ⟨s1, s2, s3⟩ := slN_b h
  unfold fX8_lookSlim
  refine ok_if (fun z => ok_m ?_) (fun z => ok_some ⟨hc, low_refl, z⟩)
  rw [y205_13, y212_3]
  refine ok_bv (start_ok (N := N) h (cNet_c (cI_N hc) (fun a k g1 g2 _ => uI_na (by omega))) hN) (fun M1 h1 => ok_m ?_)
  obtain ⟨F1, W1, S1⟩ := h1
  have u1 : ∀ a k, (a < 205 ∨ a = 206 ∨ a = 207 ∨ a = 208 ∨ 228 ≤ a ∨ (a = 205 ∧ k ≠ 9 ∧ k ≠ 5)) → (sg_uI M1 205 5 (-1)).1 a k = M.1 a k ∧ (sg_uI M1 205 5 (-1)).2 a k = M.2 a k := fun a k ha => by
    rw [uI_at, if_neg (by omega), (F1 a k (by omega)).1, uI_at, if_neg (by omega), uI_l, (F1 a k (by omega)).2]
    exact ⟨rfl, rfl⟩
  have k9 : (sg_uI M1 205 5 (-1)).1 205 9 = 1 := by rw [uI_nb (by omega), (F1 205 9 (by omega)).1, uI_eq]
  have mk : ∀ M3 : sg_M, (∀ a k, (a < 205 ∨ a = 206 ∨ a = 207 ∨ 228 ≤ a ∨ (a = 205 ∧ k ≠ 9 ∧ k ≠ 5)) → M3.1 a k = M.1 a k ∧ M3.2 a k = M.2 a k) → M3.1 205 9 = 1 → ((hold b = true → M3.1 205 5 = nI (slN b) ∧ ∀ s, s < 12 → M3.1 208 s = sl b (slN b) (28 + s)) ∧ (hold b = false → M3.1 205 5 = -1)) → cI b M3 ∧ low M M3 ∧ M3.1 205 9 ≠ 0 := fun M3 hF h9 hS => by
    have := cI_seg (lo := 205) (hi := 228) hc (fun a k ha => hF a k (by omega)) (by omega) (Or.inr (Or.inr (by omega))) (Or.inr (Or.inr (by omega))) (Or.inl ⟨cSg_c hc.2.2.2.2.2.2.1 (fun k hk => (hF 205 k (by omega)).1) (fun k => (hF 206 k (by omega)).1), cSl_c hc.2.2.2.2.2.2.2.1 (fun k hk => (hF 205 k (by omega)).1) (fun k => (hF 207 k (by omega)).1), fun _ => hS⟩) (Or.inr (Or.inl (by omega)))
    exact ⟨this.1, this.2, by rw [h9]; decide⟩
  have n2 : (sg_uI M1 205 5 (-1)).1 13 2 = nI (gT b) := by rw [(u1 13 2 (by omega)).1, (cI_N hc).1.2.2.1, vb_2 h]
  rw [n2, c_wT h (scoAt_c S1 (fun k => ⟨uI_na (by omega), rfl⟩)) rfl, e_b]
  by_cases hh : hold b = true
  case neg =>
    rw [if_neg hh]
    exact ok_t q0 (ok_some (mk _ (fun a k ha => u1 a k (by omega)) k9 ⟨fun q => absurd q hh, fun _ => uI_eq⟩))
  rw [if_pos hh]
  refine ok_f q1 (ok_m (ok_m ?_))
  suffices hs : ok (gX8_lookSlim_48 N (205, 13, 0) (sg_uI (sg_uI M1 205 5 (-1)) 205 5 0)) (fun M3 => (∀ a k, (a < 205 ∨ a = 206 ∨ a = 207 ∨ 228 ≤ a ∨ (a = 205 ∧ k ≠ 9 ∧ k ≠ 5)) → M3.1 a k = M.1 a k ∧ M3.2 a k = M.2 a k) ∧ M3.1 205 9 = 1 ∧ M3.1 205 5 = nI (slN b) ∧ ∀ s, s < 12 → M3.1 208 s = sl b (slN b) (28 + s)) by
    exact ok_imp hs (fun M3 h3 => mk M3 h3.1 h3.2.1 ⟨fun _ => h3.2.2, fun q => by rw [hh] at q; cases q⟩)
  have fin : ∀ i M3, slN b = i → (∀ a k, (a < 205 ∨ a = 206 ∨ a = 207 ∨ 228 ≤ a ∨ (a = 205 ∧ k ≠ 9 ∧ k ≠ 5)) → M3.1 a k = M.1 a k ∧ M3.2 a k = M.2 a k) → M3.1 205 9 = 1 → M3.1 205 5 = nI i → (∀ s, s < 12 → M3.1 209 s = sl b i (28 + s)) → ok (gX8_lookSlim_109 N 205 M3) (fun M3 => (∀ a k, (a < 205 ∨ a = 206 ∨ a = 207 ∨ 228 ≤ a ∨ (a = 205 ∧ k ≠ 9 ∧ k ≠ 5)) → M3.1 a k = M.1 a k ∧ M3.2 a k = M.2 a k) ∧ M3.1 205 9 = 1 ∧ M3.1 205 5 = nI (slN b) ∧ ∀ s, s < 12 → M3.1 208 s = sl b (slN b) (28 + s)) := fun i M3 e hF h9 h5 hW => by
    unfold gX8_lookSlim_109
    rw [y205_10, y205_6, yn_209, yn_208, show ((0 : Int32)).toNatClampNeg = 0 by decide, show ((12 : Int32)).toNatClampNeg = 12 by decide, e]
    refine ok_t (by decide) (ok_m (ok_some ⟨fun a k ha => ?_, ?_, ?_, fun s hs => ?_⟩))
    · rw [cpy_na (by omega), cpy_l]; exact hF a k ha
    · rw [cpy_na (by omega), h9]
    · rw [cpy_na (by omega), h5]
    · rw [cpy_in hs, hW s hs]
  unfold gX8_lookSlim_48
  refine ok_for 0 48 (fun i s M3 => s = (205, 13, nI i) ∧ (∀ a k, (a < 205 ∨ a = 206 ∨ a = 207 ∨ 228 ≤ a ∨ (a = 205 ∧ k ≠ 9 ∧ k ≠ 5)) → M3.1 a k = M.1 a k ∧ M3.2 a k = M.2 a k) ∧ M3.1 205 9 = 1 ∧ M3.1 205 5 = nI i ∧ (∀ j, j < i → ∃ s, nxs (sl b j) = some s) ∧ ∀ s, s < 12 → M3.1 209 s = sl b i (28 + s)) (by omega) (by omega) ⟨rfl, fun a k ha => ?_, ?_, ?_, fun j hj => absurd hj (by omega), fun s hs => ?_⟩ ?_ ?_
  · rw [uI_at, if_neg (by omega), uI_l]; exact u1 a k (by omega)
  · rw [uI_nb (by omega)]; exact k9
  · rw [uI_eq]; rfl
  · rw [uI_na (by omega), uI_na (by omega)]; exact W1 s hs
  · rintro i s M3 back hi ⟨rfl, hF, h9, h5, hG, hW⟩ hb
    have wv := sl_v h i
    have eT : gT (sl b i) = gT b := (wdv_sm wv).2.2.1
    have eS : gS (sl b i) = gS b := (wdv_sm wv).2.2.2.2.1
    have cN : cNet 13 b M3 := cNet_c (cI_N hc) (fun a k g1 g2 _ => (hF a k (by omega)).1)
    unfold bX8_lookSlim_48
    dsimp only
    refine ok_f (show ¬ nI 48 ≤ nI i from nI_ge hi (by omega)) (ok_a (bestChange_ok (N := N) (up := false) cN wv hW hN) (fun M4 h4 => ok_m ?_))
    obtain ⟨F4, W4, B4⟩ := h4
    have n2 : M4.1 13 2 = nI (gT (sl b i)) := by rw [(F4 13 2 (by omega)).1, cN.1.2.2.1, vb_2 h, eT]
    have F5 : ∀ a k, (a < 205 ∨ a = 206 ∨ a = 207 ∨ 228 ≤ a ∨ (a = 205 ∧ k ≠ 9 ∧ k ≠ 5)) → M4.1 a k = M.1 a k ∧ M4.2 a k = M.2 a k := fun a k ha => by rw [(F4 a k (by omega)).1, (F4 a k (by omega)).2]; exact hF a k ha
    have g9 : M4.1 205 9 = 1 := by rw [(F4 205 9 (by omega)).1, h9]
    have g5 : M4.1 205 5 = nI i := by rw [(F4 205 5 (by omega)).1, h5]
    rw [bsx_d] at B4 ⊢
    cases e : bsd (sl b i) with
    | none =>
      exact ok_t rfl (fin i M4 (slN_u h (nxs_no (Or.inl e)) hG) F5 g9 g5 W4)
    | some j =>
      obtain ⟨hj, pj⟩ := bst_lt e
      have pj : 0 < gW (sl b i) j := of_decide_eq_true pj
      have w4 := vb_w4 wv.1 (show j < 12 by omega)
      have wj := wdv_wB wv (s := j) (x := gW (sl b i) j - 1) (by omega) (by omega)
      have g := gsc_b wj.1
      refine ok_f (fun q => by rw [show oI (some j) = nI j from rfl, qn1 (by omega)] at q; exact q) ?_
      rw [y205_10, y205_11, n2, c_wth (B4 j e) (vb_T wv.1) g.1 g.2.1 g.2.2, e_b]
      by_cases l : wth (gT (sl b i)) (fW false (sl b i) j) = true
      · rw [if_pos l]
        have en : nxs (sl b i) = some j := nxs_ye e l
        have esl := sl_s en
        refine ok_f q1 ?_
        rw [show oI (some j) = nI j from rfl, yn_209, nI_clamp (show j < 2 ^ 31 by omega), W4 j (by omega), vb_w wv.1 (by omega), nI_dec (by omega)]
        refine ok_t (ib_nI (by omega) (by omega)) (ok_t (ib_nI (by omega) (by omega)) (ok_m (ok_m (ok_m (hb _ _ ⟨by rw [nI_1], fun a k ha => ?_, ?_, ?_, fun t ht => ?_, fun t ht => ?_⟩)))))
        · rw [uI_at, if_neg (by omega), uI_at, if_neg (by omega), uI_l, uI_l]
          exact F5 a k ha
        · rw [uI_nb (by omega), uI_na (by omega), g9]
        · rw [uI_eq, uI_na (by omega), g5, nI_1]
        · by_cases q : t = i
          · subst q; exact ⟨j, en⟩
          · exact hG t (by omega)
        · rw [uI_na (by omega), esl, w_at]
          by_cases q : t = j
          · subst q; rw [uI_eq, if_pos rfl]
          · rw [uI_nb q, if_neg q]; exact W4 t ht
      · rw [if_neg l]
        exact ok_t q0 (fin i M4 (slN_u h (nxs_no (Or.inr ⟨j, e, l⟩)) hG) F5 g9 g5 W4)
  · rintro s M3 back ⟨rfl, hF, h9, h5, hG, hW⟩
    unfold bX8_lookSlim_48
    dsimp only
    exact ok_t (by decide) (fin 48 M3 (slN_u h (sl_end h (Nat.le_refl _) hG) hG) hF h9 h5 hW)
/-! the reference -/
theorem wth_iff {T : Nat} {x : Nat × Int × Int} : wth T x = true ↔ x.1 = 0 ∧ x.2.1 ≤ (T : Int) * x.2.2 := by
  unfold wth
  rw [Bool.and_eq_true, decide_eq_true_iff, decide_eq_true_iff]
theorem wth_1 {T : Nat} {x y : Nat × Int × Int} (gx : gsc x) (gy : gsc y) (h : btr x y = true) (hy : wth T y = true) : wth T x = true := by
  rw [wth_iff] at hy ⊢
  rw [btr_iff] at h
  refine ⟨(by omega), ?_⟩
  have h2 : x.2.1 * y.2.2 < y.2.1 * x.2.2 := by omega
  have h3 : y.2.1 * 1 ≤ (T : Int) * y.2.2 := by omega
  have := cr_lt (a := x.2.1) (b := x.2.2) (c := y.2.1) (d := y.2.2) (e := (T : Int)) (f := 1) gx.2.2.1 gy.2.2.1 (by omega) h2 h3
  omega
theorem wth_2 {T : Nat} {x y : Nat × Int × Int} (gx : gsc x) (gy : gsc y) (hx : wth T x = true) (hy : ¬ wth T y = true) : btr x y = true := by
  rw [wth_iff] at hx hy
  rw [btr_iff]
  by_cases e : y.1 = 0
  · refine Or.inr ⟨(by omega), ?_⟩
    have h1 : (T : Int) * y.2.2 < y.2.1 := by omega
    apply Classical.byContradiction
    intro h2
    have h3 : y.2.1 * x.2.2 ≤ x.2.1 * y.2.2 := by omega
    have h4 : x.2.1 * 1 ≤ (T : Int) * x.2.2 := by omega
    have := cr_le (a := y.2.1) (b := y.2.2) (c := x.2.1) (d := x.2.2) (e := (T : Int)) (f := 1) gy.2.2.1 gx.2.2.1 (by omega) h3 h4
    omega
  · exact Or.inl (by omega)
theorem bst_hold {T : Nat} {f : Nat → Nat × Int × Int} {p : Nat → Bool} : ∀ n, (∀ k, k < n → p k = true → gsc (f k)) → bst (fun k j => btr (f k) (f j)) (fun s => p s && wth T (f s)) n = match bst (fun k j => btr (f k) (f j)) p n with
    | none => none
    | some j => if wth T (f j) = true then some j else none := by
  intro n
  induction n with
  | zero => intro _; rfl
  | succ n ih =>
    intro hf
    have i1 := ih (fun k hk => hf k (by omega))
    by_cases q : p n = true
    · have gn := hf n (by omega) q
      have q2 : wth T (f n) = true → (fun s => p s && wth T (f s)) n = true := fun w => by show (p n && wth T (f n)) = true; rw [q, w]; rfl
      have q3 : ¬ wth T (f n) = true → ¬ (fun s => p s && wth T (f s)) n = true := fun w z => by
        have z : (p n && wth T (f n)) = true := z
        rw [Bool.and_eq_true] at z
        exact w z.2
      cases e : bst (fun k j => btr (f k) (f j)) p n with
      | none =>
        rw [e] at i1
        have i1 : bst (fun k j => btr (f k) (f j)) (fun s => p s && wth T (f s)) n = none := i1
        rw [bst_1 q e]
        show _ = if wth T (f n) = true then some n else none
        by_cases w : wth T (f n) = true
        · rw [if_pos w, bst_1 (lt := fun k j => btr (f k) (f j)) (q2 w) i1]
        · rw [if_neg w, bst_no (lt := fun k j => btr (f k) (f j)) (q3 w), i1]
      | some j =>
        rw [e] at i1
        have i1 : bst (fun k j => btr (f k) (f j)) (fun s => p s && wth T (f s)) n = if wth T (f j) = true then some j else none := i1
        obtain ⟨hj, pj⟩ := bst_lt e
        have gj := hf j (by omega) pj
        by_cases l : btr (f n) (f j) = true
        · rw [bst_2 (lt := fun k j => btr (f k) (f j)) q e l]
          show _ = if wth T (f n) = true then some n else none
          by_cases w : wth T (f j) = true
          · rw [if_pos w] at i1
            have w2 := wth_1 gn gj l w
            rw [if_pos w2, bst_2 (lt := fun k j => btr (f k) (f j)) (q2 w2) i1 l]
          · rw [if_neg w] at i1
            by_cases w2 : wth T (f n) = true
            · rw [if_pos w2, bst_1 (lt := fun k j => btr (f k) (f j)) (q2 w2) i1]
            · rw [if_neg w2, bst_no (lt := fun k j => btr (f k) (f j)) (q3 w2), i1]
        · rw [bst_3 (lt := fun k j => btr (f k) (f j)) q e l]
          show _ = if wth T (f j) = true then some j else none
          by_cases w : wth T (f j) = true
          · rw [if_pos w] at i1
            rw [if_pos w]
            by_cases w2 : wth T (f n) = true
            · rw [bst_3 (lt := fun k j => btr (f k) (f j)) (q2 w2) i1 l]
            · rw [bst_no (lt := fun k j => btr (f k) (f j)) (q3 w2), i1]
          · rw [if_neg w] at i1
            have w2 : ¬ wth T (f n) = true := fun z => l (wth_2 gn gj z w)
            rw [if_neg w, bst_no (lt := fun k j => btr (f k) (f j)) (q3 w2), i1]
    · rw [bst_no (lt := fun k j => btr (f k) (f j)) q, bst_no (lt := fun k j => btr (f k) (f j)) (k := n) (p := fun s => p s && wth T (f s)) (fun z => by
        have z : (p n && wth T (f n)) = true := z
        rw [Bool.and_eq_true] at z
        exact q z.1), i1]
theorem wv_w (h : vb b) (up : Bool) {s : Nat} (hs : s < gS b) (hcn : cnd up (gW b s) = true) : wdv b (wB b s (nw up (gW b s))) := by
  have hn := vb_n h
  exact wdv_wB (wdv_r h) hs (dl_y _ (by have := vb_w4 h (show s < 12 by omega); omega) up hcn).2.1
theorem gRW (h : vb b) (up : Bool) {q : Nat → Bool} {s0 : Nat × Int × Int} (h0 : gsc s0) (hq : ∀ s, q s = true → cnd up (gW b s) = true) : ∀ i, i ≤ gS b → gsc (rb (fW up b) q s0 i).2 := by
  intro i
  induction i with
  | zero => intro _; exact h0
  | succ i ih =>
    intro hi
    rw [rb_s]
    by_cases z : q i = true ∧ btr (fW up b i) (rb (fW up b) q s0 i).2 = true
    · rw [if_pos z]; exact gsc_b (wv_w h up (by omega) (hq i z.1)).1
    · rw [if_neg z]; exact ih (by omega)
theorem wB_back (h : vb b) {s x : Nat} (hs : s < gS b) : ub (wB b s x) (28 + s) (nI (gW b s)) = b := by
  have hn := vb_n h
  show ub (ub _ _ _) _ _ = _
  rw [ub_ub, ← vb_w h (show s < 12 by omega), ub_id]
theorem raB_8 {M M1 : sg_M} (h : rFr M M1) : raB M M1 := raB_s (rFr_rsF h)
theorem nextWider_ok {M : sg_M} (h : vb b) (h1 : M.1 1 = b) (hN : 1000 ≤ N) : okA (fX11_nextWider N 0 M) (oI (nxw b)) (fun M1 => M1.1 1 = b ∧ raB M M1) := by
  apply okA_of
  have hn := vb_n h
  have hrb := rb_bst (f := fW true b) (p := pW true b) (gsc_b h) (gS b) (fun k hk hp => gsc_b (wv_w h true hk hp).1)
  have efin : oI (rb (fW true b) (pW true b) (sco b) (gS b)).1 = oI (nxw b) := by
    cases e : bsu b with
    | none => rw [hrb.1 e, nxw_no (Or.inl e)]
    | some j =>
      rw [hrb.2 j e]
      by_cases q : btr (fW true b j) (sco b) = true
      · rw [if_pos q, nxw_ye e q]
      · rw [if_neg q, nxw_no (Or.inr ⟨j, e, q⟩)]
  unfold fX11_nextWider fX11_beginsWith
  obtain ⟨M0, e0, S0, F0⟩ := r_lay (N := N) h h1 hN
  obtain ⟨M1, e1, B1, S1, F1⟩ := r_keeps (N := N) h S0 (by omega)
  rw [e0, e_bv, e1, e_bv, e_bv]
  refine ok_m (ok_m ?_)
  unfold gX11_nextWider_8
  refine ok_for 0 (gS b) (fun i s M2 => s = (0, oI (rb (fW true b) (pW true b) (sco b) i).1, nI i) ∧ M2.1 1 = b ∧ M2.1 0 8 = nI (gS b) ∧ raB M M2 ∧ bsR (rb (fW true b) (pW true b) (sco b) i).2 M2) (by omega) (by omega) ⟨rfl, S1.2, r_8 S1, raB_tr (raB_s F0) F1, B1⟩ ?_ ?_
  · rintro i s M2 back hi ⟨rfl, g1, g8, g2, g3⟩ hb
    have w4 := vb_w4 h (show i < 12 by omega)
    unfold bX11_nextWider_8
    dsimp only
    rw [g8, yr_1, yl_1, k_28, nI_clamp (show 28 + i < 2 ^ 31 by omega), g1, vb_w h (by omega)]
    refine ok_f (nI_ge hi (by omega)) (ok_t (ib_nI (by omega) (by omega)) (ok_if (fun z => ?_) (fun z => ?_)))
    · have z : gW b i = 4 := (nI_eq (by omega) (show 4 < 2 ^ 31 by omega)).mp z
      have e : rb (fW true b) (pW true b) (sco b) (i + 1) = rb (fW true b) (pW true b) (sco b) i := by
        rw [rb_s, if_neg (fun w => by have : decide (gW b i < 4) = true := w.1; rw [decide_eq_false (by omega)] at this; cases this)]
      exact ok_m (hb _ _ ⟨by rw [e, nI_1], g1, g8, g2, by rw [e]; exact g3⟩)
    · have z : gW b i < 4 := by
        have : ¬ gW b i = 4 := fun w => z (by rw [w]; rfl)
        omega
      have pz : pW true b i = true := decide_eq_true z
      have wv := wv_w h true hi pz
      refine ok_t (ib_nI (by omega) (by omega)) (ok_t (ib_nI (by omega) (by omega)) ?_)
      rw [nI_1]
      have w1 : (sg_uI M2 1 (28 + i) (nI (gW b i + 1))).1 1 = wB b i (nw true (gW b i)) := uW g1
      have B2 : bsR (rb (fW true b) (pW true b) (sco b) i).2 (sg_uI M2 1 (28 + i) (nI (gW b i + 1))) := bsR_1 g3
      have eS : gS (wB b i (nw true (gW b i))) = gS b := (wdv_sm wv).2.2.2.2.1
      have back2 : ∀ (x : Int32) (M3 : sg_M), rS (wB b i (nw true (gW b i))) M3 → raB M M3 → bsR (rb (fW true b) (pW true b) (sco b) (i + 1)).2 M3 → x = oI (rb (fW true b) (pW true b) (sco b) (i + 1)).1 → ok (gX11_nextWider_58 N back 0 x (nI i) M3) (fun res => res.1 = oI (nxw b) ∧ res.2.1 1 = b ∧ raB M res.2) := fun x M3 k1 k2 k3 k4 => by
        unfold gX11_nextWider_58
        rw [yr_1, yl_1, k_28, nI_clamp (show 28 + i < 2 ^ 31 by omega), k1.2, w_at, if_pos rfl, show nw true (gW b i) = gW b i + 1 from rfl, nI_dec (by omega)]
        refine ok_t (ib_nI (by omega) (by omega)) (ok_t (ib_nI (by omega) (by omega)) (ok_m (ok_m (hb _ _ ⟨by rw [k4, nI_1], ?_, ?_, raB_tr k2 raB_1, bsR_1 k3⟩))))
        · rw [uW k1.2]; exact wB_back h hi
        · rw [uI_na (by omega), r_8 k1, eS]
      refine ok_m (ok_b (r_scores (N := N) wv.1 w1 (gRW h true (gsc_b h) (fun s z => z) i (by omega)) B2 hN) (fun x M3 h3 => ?_))
      obtain ⟨hx, S3, F3⟩ := h3
      have ra3 : raB M M3 := raB_tr (raB_tr g2 raB_1) (raB_s F3)
      refine ok_if (fun y => ?_) (fun y => ?_)
      · have y := hx.mp y
        have e : rb (fW true b) (pW true b) (sco b) (i + 1) = rb (fW true b) (pW true b) (sco b) i := by rw [rb_s, if_neg (fun w => y w.2)]
        exact back2 _ M3 S3 ra3 (by rw [e]; exact bsR_c B2 F3) (by rw [e])
      · have y : btr (fW true b i) (rb (fW true b) (pW true b) (sco b) i).2 = true := by
          apply Classical.byContradiction
          intro w
          exact y (hx.mpr w)
        have e : rb (fW true b) (pW true b) (sco b) (i + 1) = (some i, fW true b i) := by rw [rb_s, if_pos ⟨pz, y⟩]
        exact ok_m (ok_bv (r_keeps (N := N) wv.1 S3 (by omega)) (fun M4 h4 => back2 _ M4 h4.2.1 (raB_tr ra3 h4.2.2) (by rw [e]; exact h4.1) (by rw [e]; rfl)))
  · rintro s M2 back ⟨rfl, g1, g8, g2, g3⟩
    unfold bX11_nextWider_8
    dsimp only
    rw [g8]
    exact ok_t (nI_le (Nat.le_refl _) (by omega)) (ok_some ⟨efin, g1, g2⟩)
theorem r_without8 {M : sg_M} : ok (fX11_beginsWithout N 0 M) (fun M1 => (bsR (10, 0, 1) M1 ∧ M1.1 1 = M.1 1 ∧ raB M M1) ∧ M1.1 0 8 = M.1 0 8) := by
  unfold fX11_beginsWithout
  refine ok_m (ok_m (ok_m (ok_some ⟨⟨⟨?_, ?_, ?_⟩, ?_, fun a k h1 h6 h9 h10 h0 => ?_⟩, ?_⟩)))
  · rw [uJ_i, uJ_i, uI_eq]; rfl
  · rw [uJ_nb (by omega), uJ_eq]; rfl
  · rw [uJ_eq]; rfl
  · funext k
    rw [uJ_i, uJ_i, uI_na (by omega)]
  · rw [uJ_i, uJ_i, uI_at, if_neg (by omega)]
  · rw [uJ_i, uJ_i, uI_nb (by omega)]
abbrev pS (b : Nat → Int32) : Nat → Bool := fun s => pW false b s && wth (gT b) (fW false b s)
theorem nextSlim_ok {M : sg_M} (h : vb b) (h1 : M.1 1 = b) (h8 : M.1 0 8 = nI (gS b)) (hN : 1000 ≤ N) : okA (fX11_nextSlim N 0 M) (oI (nxs b)) (fun M1 => M1.1 1 = b ∧ M1.1 0 8 = nI (gS b) ∧ raB M M1) := by
  apply okA_of
  have hn := vb_n h
  have gp : ∀ s, pS b s = true → cnd false (gW b s) = true := fun s z => by
    have z : (pW false b s && wth (gT b) (fW false b s)) = true := z
    rw [Bool.and_eq_true] at z
    exact z.1
  have hrb := rb_bst (f := fW false b) (p := pS b) gsc_0 (gS b) (fun k hk hp => gsc_b (wv_w h false hk (gp k hp)).1)
  have hbs := bst_hold (T := gT b) (f := fW false b) (p := pW false b) (gS b) (fun k hk hp => gsc_b (wv_w h false hk hp).1)
  have efin : oI (rb (fW false b) (pS b) (10, 0, 1) (gS b)).1 = oI (nxs b) := by
    have en : bst (fun k j => btr (fW false b k) (fW false b j)) (pS b) (gS b) = nxs b := hbs
    cases e : nxs b with
    | none => rw [hrb.1 (en.trans e)]
    | some j =>
      have := nxs_lt (wdv_r h) e
      rw [hrb.2 j (en.trans e), if_pos (btr_10 (wv_w h false this.1 (decide_eq_true this.2.1)).1)]
  unfold fX11_nextSlim
  refine ok_bv (r_without8 (N := N) (M := M)) (fun M1 hM0 => ok_m (ok_m ?_))
  obtain ⟨hM, h80⟩ := hM0
  have h81 : M1.1 0 8 = nI (gS b) := by rw [h80, h8]
  unfold gX11_nextSlim_8
  refine ok_for 0 (gS b) (fun i s M2 => s = (0, oI (rb (fW false b) (pS b) (10, 0, 1) i).1, nI i) ∧ M2.1 1 = b ∧ M2.1 0 8 = nI (gS b) ∧ raB M M2 ∧ bsR (rb (fW false b) (pS b) (10, 0, 1) i).2 M2) (by omega) (by omega) ⟨rfl, hM.2.1.trans h1, h81, hM.2.2, hM.1⟩ ?_ ?_
  · rintro i s M2 back hi ⟨rfl, g1, g8, g2, g3⟩ hb
    have w4 := vb_w4 h (show i < 12 by omega)
    unfold bX11_nextSlim_8
    dsimp only
    rw [g8, yr_1, yl_1, k_28, nI_clamp (show 28 + i < 2 ^ 31 by omega), g1, vb_w h (by omega)]
    refine ok_f (nI_ge hi (by omega)) (ok_t (ib_nI (by omega) (by omega)) (ok_if (fun z => ?_) (fun z => ?_)))
    · have z : gW b i = 0 := (nI_z (by omega)).mp z
      have e : rb (fW false b) (pS b) (10, 0, 1) (i + 1) = rb (fW false b) (pS b) (10, 0, 1) i := by
        rw [rb_s, if_neg (fun w => by have : decide (0 < gW b i) = true := gp i w.1; rw [decide_eq_false (by omega)] at this; cases this)]
      exact ok_m (hb _ _ ⟨by rw [e, nI_1], g1, g8, g2, by rw [e]; exact g3⟩)
    · have z : 0 < gW b i := by
        have : ¬ gW b i = 0 := fun w => z ((nI_z (by omega)).mpr w)
        omega
      have pz : pW false b i = true := decide_eq_true z
      have wv := wv_w h false hi pz
      refine ok_t (ib_nI (by omega) (by omega)) (ok_t (ib_nI (by omega) (by omega)) ?_)
      rw [nI_dec (by omega)]
      have w1 : (sg_uI M2 1 (28 + i) (nI (gW b i - 1))).1 1 = wB b i (nw false (gW b i)) := uW g1
      have B2 : bsR (rb (fW false b) (pS b) (10, 0, 1) i).2 (sg_uI M2 1 (28 + i) (nI (gW b i - 1))) := bsR_1 g3
      have eS : gS (wB b i (nw false (gW b i))) = gS b := (wdv_sm wv).2.2.2.2.1
      have eT : gT (wB b i (nw false (gW b i))) = gT b := (wdv_sm wv).2.2.1
      have back2 : ∀ (x : Int32) (M3 : sg_M), rS (wB b i (nw false (gW b i))) M3 → raB M M3 → bsR (rb (fW false b) (pS b) (10, 0, 1) (i + 1)).2 M3 → x = oI (rb (fW false b) (pS b) (10, 0, 1) (i + 1)).1 → ok (gX11_nextSlim_64 N back 0 x (nI i) M3) (fun res => res.1 = oI (nxs b) ∧ res.2.1 1 = b ∧ res.2.1 0 8 = nI (gS b) ∧ raB M res.2) := fun x M3 k1 k2 k3 k4 => by
        unfold gX11_nextSlim_64
        rw [yr_1, yl_1, k_28, nI_clamp (show 28 + i < 2 ^ 31 by omega), k1.2, w_at, if_pos rfl, show nw false (gW b i) = gW b i - 1 from rfl, nI_1, Nat.sub_add_cancel z]
        refine ok_t (ib_nI (by omega) (by omega)) (ok_t (ib_nI (by omega) (by omega)) (ok_m (ok_m (hb _ _ ⟨by rw [k4, nI_1], ?_, ?_, raB_tr k2 raB_1, bsR_1 k3⟩))))
        · rw [uW k1.2]; exact wB_back h hi
        · rw [uI_na (by omega), r_8 k1, eS]
      refine ok_m (ok_a (r_hold (N := N) wv.1 w1 hN) (fun M5 h5 => ?_))
      obtain ⟨S5, F5⟩ := h5
      have B5 := bsR_c B2 F5
      have ra5 : raB M M5 := raB_tr (raB_tr g2 raB_1) (raB_s F5)
      have ehw : hold (wB b i (nw false (gW b i))) = wth (gT b) (fW false b i) := by rw [hold_w, eT]
      rw [ehw]
      by_cases hh : wth (gT b) (fW false b i) = true
      case neg =>
        rw [if_neg hh]
        have e : rb (fW false b) (pS b) (10, 0, 1) (i + 1) = rb (fW false b) (pS b) (10, 0, 1) i := by
          rw [rb_s, if_neg (fun w => by
            have w : (pW false b i && wth (gT b) (fW false b i)) = true := w.1
            rw [Bool.and_eq_true] at w
            exact hh w.2)]
        exact ok_t q0 (back2 _ M5 S5 ra5 (by rw [e]; exact B5) (by rw [e]))
      rw [if_pos hh]
      have pz2 : pS b i = true := by show (pW false b i && wth (gT b) (fW false b i)) = true; rw [pz, hh]; rfl
      refine ok_f q1 (ok_b (r_scores (N := N) wv.1 S5.2 (gRW h false gsc_0 gp i (by omega)) B5 hN) (fun x M3 h3 => ?_))
      obtain ⟨hx, S3, F3⟩ := h3
      have ra3 : raB M M3 := raB_tr ra5 (raB_s F3)
      refine ok_if (fun y => ?_) (fun y => ?_)
      · have y := hx.mp y
        have e : rb (fW false b) (pS b) (10, 0, 1) (i + 1) = rb (fW false b) (pS b) (10, 0, 1) i := by rw [rb_s, if_neg (fun w => y w.2)]
        exact back2 _ M3 S3 ra3 (by rw [e]; exact bsR_c B5 F3) (by rw [e])
      · have y : btr (fW false b i) (rb (fW false b) (pS b) (10, 0, 1) i).2 = true := by
          apply Classical.byContradiction
          intro w
          exact y (hx.mpr w)
        have e : rb (fW false b) (pS b) (10, 0, 1) (i + 1) = (some i, fW false b i) := by rw [rb_s, if_pos ⟨pz2, y⟩]
        exact ok_m (ok_bv (r_keeps (N := N) wv.1 S3 (by omega)) (fun M4 h4 => back2 _ M4 h4.2.1 (raB_tr ra3 h4.2.2) (by rw [e]; exact h4.1) (by rw [e]; rfl)))
  · rintro s M2 back ⟨rfl, g1, g8, g2, g3⟩
    unfold bX11_nextSlim_8
    dsimp only
    rw [g8]
    exact ok_t (nI_le (Nat.le_refl _) (by omega)) (ok_some ⟨efin, g1, g8, g2⟩)
end SL
