/-! the reference's solves, lays, what it reckons of them -/
theorem r_nodesE {N n : Nat} {M : sg_M} (h : M.1 1 0 * M.1 1 1 = nI n) : fX11_nodes N 0 M = some (nI n, M) := by rw [r_nodes, h]
theorem bz01 {p : Prop} [Decidable p] : sg_bz (if p then 1 else 0) = true := by
  by_cases h : p
  · rw [if_pos h]; decide
  · rw [if_neg h]; decide
theorem bz10 {p : Prop} [Decidable p] : sg_bz (if p then 0 else 1) = true := by
  by_cases h : p
  · rw [if_pos h]; decide
  · rw [if_neg h]; decide
section SOL
variable {c r : Nat} {w L : Nat → Nat} {P : Int32}
/-- what the reference's solves leaves -/
def rSol (c r : Nat) (w : Nat → Nat) (P : Int32) (M : sg_M) : Prop := M.1 0 21 = dead c r w P ∧ numP (unk c r w P) (c * r) (M.1 0 24) (M.1 10) (M.1 9) ∧ rTab (stp c r) M ∧ M.2 0 26 = lI (dD c r w P) ∧ ∀ i, i < uM c r w P → ∀ q, q < 18 → cellJ M i q = lI (tK c r w P (uM c r w P) i (colR c r w P q))
/-- what it doesn't touch -/
def rsF (M M1 : sg_M) : Prop := (∀ a k, a ≠ 6 → a ≠ 9 → a ≠ 10 → (a ≠ 0 ∨ (k ≠ 8 ∧ k ≠ 21 ∧ k ≠ 24)) → M1.1 a k = M.1 a k) ∧ ∀ a k, a ≠ 11 → (a ≠ 0 ∨ k ≠ 26) → M1.2 a k = M.2 a k
theorem rsF_tr {M M1 M2 : sg_M} (h : rsF M M1) (h2 : rsF M1 M2) : rsF M M2 := ⟨fun a k h6 h9 h10 h0 => (h2.1 a k h6 h9 h10 h0).trans (h.1 a k h6 h9 h10 h0), fun a k h11 h0 => (h2.2 a k h11 h0).trans (h.2 a k h11 h0)⟩
theorem rsF_1 {M M1 : sg_M} (h : rsF M M1) (k : Nat) : M1.1 1 k = M.1 1 k := h.1 1 k (by decide) (by decide) (by decide) (Or.inl (by decide))
set_option maxHeartbeats 2000000 in
theorem solves_ok {N : Nat} {M : sg_M} (hs : shp c r) (hw : ∀ s, s < ns c r → w s ≤ 4) (hP : ∀ v, v < 32 → bt P v = true → v < c * r) (h0 : M.1 1 0 = nI c) (h1 : M.1 1 1 = nI r) (hg : ¬ M.1 1 4 ≤ 0) (hW : ∀ s, s < ns c r → M.1 1 (28 + s) = nI (w s)) (hN : 1000 ≤ N) : ok (fX11_solves N 0 P M) (fun M1 => rSol c r w P M1 ∧ rsF M M1) := by
  have h9 := hs.2.2
  have hns := ns_le hs
  unfold fX11_solves
  refine ok_b (r_straps (N := N) hs (by omega) h0 h1 hg) (fun x1 M1 hx => ?_)
  obtain ⟨-, hT, hF⟩ := hx
  have f1 : ∀ k, M1.1 1 k = M.1 1 k := fun k => hF.2 1 k (by decide) (Or.inl (by decide))
  have nd : M1.1 1 0 * M1.1 1 1 = nI (c * r) := by rw [f1, f1, h0, h1, nI_mul]
  rw [r_nodesE nd]
  refine ok_bs ?_
  have hW1 : ∀ s, s < ns c r → M1.1 1 (28 + s) = nI (w s) ∧ w s < 100 := fun s h => ⟨by rw [f1]; exact hW s h, by have := hw s h; omega⟩
  refine ok_b (comes_ok (N := N) hs hT hW1 (by omega)) (fun x2 M2 hx => ?_)
  obtain ⟨rfl, rfl⟩ : x2 = clo c r w 9 P ∧ M2 = M1 := by cases hx; exact ⟨rfl, rfl⟩
  refine ok_m (ok_m (ok_m ?_))
  show ok (gX11_solves_32 N (0, P, nI 0) (sg_uI (sg_uI M2 0 21 (dead c r w P)) 0 24 0)) _
  unfold gX11_solves_32
  refine ok_lp (fun n s M3 => ∃ v, v ≤ c * r ∧ n = c * r - v ∧ s = (0, P, nI v) ∧ numP (unk c r w P) v (M3.1 0 24) (M3.1 10) (M3.1 9) ∧ M3.1 0 21 = dead c r w P ∧ M3.2 = M2.2 ∧ ∀ a k, a ≠ 9 → a ≠ 10 → (a ≠ 0 ∨ (k ≠ 21 ∧ k ≠ 24)) → M3.1 a k = M2.1 a k) ?_ N (c * r) _ _ ⟨0, by omega, rfl, rfl, ⟨uI_eq, fun i h => absurd h (by simp [Ul]), fun u h => absurd h (by omega)⟩, by rw [uI_nb (by decide), uI_eq], rfl, fun a k _ _ h => by rw [uI_at, if_neg (by omega), uI_at, if_neg (by omega)]⟩ (by omega)
  rintro n s M3 back ⟨v, hv, rfl, rfl, hn, hd, hJ, hF3⟩ hb
  unfold bX11_solves_32
  dsimp only
  have nd3 : M3.1 1 0 * M3.1 1 1 = nI (c * r) := by rw [hF3 1 0 (by decide) (by decide) (Or.inl (by decide)), hF3 1 1 (by decide) (by decide) (Or.inl (by decide)), nd]
  rw [r_nodesE nd3]
  refine ok_bs ?_
  have T3 : rTab (stp c r) M3 := ⟨by rw [hF3 0 8 (by decide) (by decide) (Or.inr ⟨by decide, by decide⟩)]; exact hT.1, fun s h => by rw [hF3 6 _ (by decide) (by decide) (Or.inl (by decide)), hF3 6 _ (by decide) (by decide) (Or.inl (by decide))]; exact hT.2 s h⟩
  refine ok_if (fun h => ?_) (fun h => ?_)
  · have := yle h (by omega) (by omega)
    obtain rfl : v = c * r := by omega
    refine ok_bv (laysCells_ok (N := N) (un := unk c r w P) (w := w) hs T3 (fun s h => by rw [hF3 1 _ (by decide) (by decide) (Or.inl (by decide))]; exact hW1 s h) hn hN) (fun M4 h4 => ?_)
    obtain ⟨hF4, hC4⟩ := h4
    have hm9 : uM c r w P ≤ 9 := by have : uM c r w P ≤ c * r := Ul_len (unk c r w P) (c * r); omega
    refine ok_bv (brings_ok (N := N) (c := c) (r := r) (w := w) (P := P) hs hw hP (by rw [hF4.1]; exact hn.1) (fun i hi q hq => ?_) (by omega)) (fun M5 h5 => ok_some ?_)
    · unfold colR
      by_cases e : q < uM c r w P
      · rw [if_pos e, (hC4 i hi).1 q e]
        show _ = lI (mA c r w (unk c r w P) q i)
        unfold mA
        rw [if_pos ⟨hi, e⟩]
      · rw [if_neg e, (hC4 i hi).2 q (by have : ¬ q < (Ul (unk c r w P) (c * r)).length := e; omega) hq]
        by_cases e2 : 9 ≤ q ∧ q < 9 + uM c r w P
        · rw [if_pos e2]
          unfold dt_e
          rw [ififf (show q = 9 + i ↔ i = q - 9 by omega)]
        · rw [if_neg e2, if_neg (by have : i < uM c r w P := hi; omega)]
    · obtain ⟨hF5, hW5, hC5⟩ := h5
      have e5 : M5.1 = M3.1 := hF5.1.trans hF4.1
      refine ⟨⟨by rw [e5]; exact hd, by rw [e5]; exact hn, ?_, hW5, hC5⟩, fun a k h6 h9 h10 h0 => ?_, fun a k h11 h0 => ?_⟩
      · unfold rTab
        rw [e5]
        exact T3
      · rw [e5, hF3 a k h9 h10 (by omega)]
        exact hF.2 a k h6 (by omega)
      · rw [hF5.2 a k h11 h0, hF4.2 a k h11, hJ, hF.1]
  · have hv2 : v < c * r := nle h (by omega)
    have hl := Ul_len (unk c r w P) v
    have hu := unk_dead (w := w) (P := P) hs hv2
    rw [yr_22, yr_23, yl_9, yl_10, nI_clamp (show v < 2 ^ 31 by omega)]
    refine ok_t (ib_nI (by omega) (by omega)) (ok_m ?_)
    have e0 : (sg_uI M3 9 v (-1)).1 0 21 = dead c r w P := by rw [uI_na (by decide), hd]
    have e4 : (sg_uI M3 9 v (-1)).1 0 24 = nI (Ul (unk c r w P) v).length := by rw [uI_na (by decide)]; exact hn.1
    have no : unk c r w P v = false → ok (back (0, P, nI v + 1) (sg_uI M3 9 v (-1))) (fun M1 => rSol c r w P M1 ∧ rsF M M1) := fun hno => by
      refine hb (c * r - (v + 1)) _ _ (by omega) ⟨v + 1, by omega, rfl, by rw [nI_1], ?_, e0, hJ, fun a k h9 h10 hk => by rw [uI_na h9]; exact hF3 a k h9 h10 hk⟩
      rw [uI_na (by decide)]
      refine numP_no ?_ hno uI_eq (fun u hne => uI_nb hne)
      rw [show (sg_uI M3 9 v (-1)).1 10 = M3.1 10 by funext k; exact uI_na (by decide)]
      exact hn
    rw [e0, r_isOf (show v < 32 by omega)]
    refine ok_bs (ok_if (fun e => ?_) (fun e => ?_))
    · rw [r_isOf (show v < 32 by omega)]
      have d0 : bt (dead c r w P) v = false := by
        cases z : bt (dead c r w P) v with
        | false => rfl
        | true => rw [z] at e; exact absurd e (by decide)
      refine ok_bs (ok_if (fun e2 => ?_) (fun e2 => ?_))
      · have p0 : bt P v = false := by
          cases z : bt P v with
          | false => rfl
          | true => rw [z] at e2; exact absurd e2 (by decide)
        rw [d0, p0] at hu
        refine ok_t (ib_nI (by omega) (by omega)) (ok_m ?_)
        rw [uI_na (a := 0) (by decide), e4]
        refine ok_t (ib_nI (by omega) (by omega)) (ok_m (ok_m (ok_m ?_)))
        rw [nI_clamp (show (Ul (unk c r w P) v).length < 2 ^ 31 by omega)]
        refine hb (c * r - (v + 1)) _ _ (by omega) ⟨v + 1, by omega, rfl, by rw [nI_1], ?_, ?_, hJ, fun a k h9 h10 hk => ?_⟩
        · refine numP_yes hn hu ?_ ?_ (fun u hne => ?_) ?_ (fun i hne => ?_)
          · rw [uI_eq, uI_na (by decide), uI_na (by decide), e4, nI_1]
          · rw [uI_na (by decide), uI_na (by decide), uI_eq]
          · rw [uI_na (by decide), uI_na (by decide), uI_nb hne, uI_nb hne]
          · rw [uI_na (by decide), uI_eq]
          · rw [uI_na (by decide), uI_nb hne, uI_na (by decide), uI_na (by decide)]
        · rw [uI_nb (by decide), uI_na (by decide), uI_na (by decide), e0]
        · rw [uI_at, if_neg (by omega), uI_na h10, uI_na h9, uI_na h9]
          exact hF3 a k h9 h10 hk
      · have p1 : bt P v = true := by
          cases z : bt P v with
          | true => rfl
          | false => rw [z] at e2; exact absurd rfl e2
        rw [p1, Bool.or_true] at hu
        exact ok_m (no hu)
    · have d1 : bt (dead c r w P) v = true := by
        cases z : bt (dead c r w P) v with
        | true => rfl
        | false => rw [z] at e; exact absurd rfl e
      rw [d1, Bool.true_or] at hu
      exact ok_m (no hu)
/-- what 1 drawn at b does to a's drop, times the number below -/
def mv (c r : Nat) (w : Nat → Nat) (P : Int32) (a b : Nat) : Int := if unk c r w P a = true ∧ unk c r w P b = true then tK c r w P (uM c r w P) (Ul (unk c r w P) a).length (dt_e (Ul (unk c r w P) b).length) else 0
theorem mv_b (hs : shp c r) (hw : ∀ s, s < ns c r → w s ≤ 4) (hP : ∀ v, v < 32 → bt P v = true → v < c * r) {a b : Nat} (ha : a < c * r) (hb : b < c * r) : 0 ≤ mv c r w P a b ∧ mv c r w P a b ≤ 21233664 := by
  unfold mv
  by_cases h : unk c r w P a = true ∧ unk c r w P b = true
  · rw [if_pos h]
    exact tK_e hs hw hP (Nat.le_refl _) (Ul_in ha h.1).1 (Ul_in hb h.2).1
  · rw [if_neg h]; omega
theorem moves_ok {N a b : Nat} {M : sg_M} (hs : shp c r) (hM : rSol c r w P M) (ha : a < c * r) (hb : b < c * r) : fX11_movesOf N 0 (nI a) (nI b) M = some (lI (mv c r w P a b), M) := by
  have h9 := hs.2.2
  have nm1 : ∀ v, v < 100 → ¬ nI v = -1 := by decide +kernel
  obtain ⟨-, hn, -, -, hC⟩ := hM
  have hm9 : (Ul (unk c r w P) (c * r)).length ≤ c * r := Ul_len (unk c r w P) (c * r)
  have huu : uM c r w P = (Ul (unk c r w P) (c * r)).length := rfl
  unfold fX11_movesOf
  rw [yr_22, yr_25, yl_9, yl_11, nI_clamp (show a < 2 ^ 31 by omega), nI_clamp (show b < 2 ^ 31 by omega), if_pos (ib_nI (by omega) (by omega))]
  show (if _ then _ else _) = _
  rw [if_pos (ib_nI (by omega) (by omega)), hn.2.2 a ha, hn.2.2 b hb]
  show (if _ then _ else _) = _
  unfold mv gX11_movesOf_26
  by_cases ua : unk c r w P a = true
  · have ia := (Ul_in ha ua).1
    rw [if_pos ua, if_neg (nm1 _ (by omega))]
    by_cases ub : unk c r w P b = true
    · have ib := (Ul_in hb ub).1
      rw [if_pos ub, if_neg (nm1 _ (by omega)), ix189, nI_clamp (show 18 * (Ul (unk c r w P) a).length + 9 + (Ul (unk c r w P) b).length < 2 ^ 31 by omega), if_pos (ib_nI (by omega) (by omega)), if_pos ⟨ua, ub⟩]
      have := hC _ ia (9 + (Ul (unk c r w P) b).length) (by omega)
      unfold cellJ at this
      rw [show 18 * (Ul (unk c r w P) a).length + 9 + (Ul (unk c r w P) b).length = 18 * (Ul (unk c r w P) a).length + (9 + (Ul (unk c r w P) b).length) by omega, this]
      unfold colR
      rw [if_neg (by show ¬ _ < (Ul (unk c r w P) (c * r)).length; omega), if_pos ⟨by omega, by show _ < 9 + (Ul (unk c r w P) (c * r)).length; omega⟩, Nat.add_sub_cancel_left]
    · rw [if_neg ub, if_pos rfl, if_neg (fun z => ub z.2)]
      rfl
  · rw [if_neg ua, if_pos rfl, if_neg (fun z => ua z.1)]
    rfl
/-- the drop, node by node -/
theorem xN_mv {v : Nat} (hv : v < c * r) : xN c r w P L v = fs (uM c r w P) (fun q => mv c r w P v ((Ul (unk c r w P) (c * r)).getD q 0) * (L ((Ul (unk c r w P) (c * r)).getD q 0) : Int)) := by
  unfold xN
  by_cases h : unk c r w P v = true
  · rw [if_pos h]
    show mt _ _ _ _ _ = _
    rw [mt_units (Ul_in hv h).1 bV_V]
    refine fs_congr (fun q hq => ?_)
    obtain ⟨h1, h2⟩ := Ul_at hq
    unfold mv bV
    rw [if_pos hq, if_pos ⟨h, h2⟩, Ul_ix hq, Int.mul_comm]
  · rw [if_neg h]
    refine (fs_zero _).symm.trans (fs_congr (fun q hq => ?_))
    unfold mv
    rw [if_neg (fun z => h z.1), Int.zero_mul]
set_option maxHeartbeats 1000000 in
theorem dropOf_ok {N v : Nat} {M : sg_M} (hs : shp c r) (hM : rSol c r w P M) (hL : ∀ v, v < c * r → M.1 1 (6 + v) = nI (L v) ∧ L v ≤ 99) (hv : v < c * r) (hN : 20 ≤ N) : ok (fX11_dropOf N 0 (nI v) M) (fun res => res = (lI (xN c r w P L v), M)) := by
  have h9 := hs.2.2
  have hm9 : (Ul (unk c r w P) (c * r)).length ≤ c * r := Ul_len (unk c r w P) (c * r)
  have huu : uM c r w P = (Ul (unk c r w P) (c * r)).length := rfl
  unfold fX11_dropOf
  refine ok_m (ok_m ?_)
  unfold gX11_dropOf_5
  refine ok_lp (fun n s M1 => ∃ i, i ≤ uM c r w P ∧ n = uM c r w P - i ∧ s = (0, nI v, lI (fs i (fun q => mv c r w P v ((Ul (unk c r w P) (c * r)).getD q 0) * (L ((Ul (unk c r w P) (c * r)).getD q 0) : Int))), nI i) ∧ M = M1) ?_ N (uM c r w P) _ M ⟨0, by omega, rfl, rfl, rfl⟩ (by omega)
  rintro n s M1 back ⟨i, hi, rfl, rfl, rfl⟩ hb
  unfold bX11_dropOf_5
  dsimp only
  rw [hM.2.1.1]
  refine ok_if (fun h => ?_) (fun h => ?_)
  · have h2 : uM c r w P ≤ i := yle h (by omega) (by omega)
    obtain rfl : i = uM c r w P := Nat.le_antisymm hi h2
    rw [← xN_mv hv]
    exact ok_some rfl
  · have hi2 : i < uM c r w P := nle h (by omega)
    obtain ⟨u1, u2⟩ := Ul_at hi2
    rw [yr_23, yr_1, yl_10, yl_1, nI_clamp (show i < 2 ^ 31 by omega), hM.2.1.2.1 i hi2, moves_ok hs hM hv u1]
    refine ok_t (ib_nI (by omega) (by omega)) (ok_bs ?_)
    rw [hM.2.1.2.1 i hi2, show (6 : Int32) + nI ((Ul (unk c r w P) (c * r)).getD i 0) = nI (6 + (Ul (unk c r w P) (c * r)).getD i 0) from nI_add 6 _, nI_clamp (show 6 + (Ul (unk c r w P) (c * r)).getD i 0 < 2 ^ 31 by omega), (hL _ u1).1, lI_nI (by have := (hL _ u1).2; omega), lI_mul, lI_add]
    refine ok_t (ib_nI (by omega) (by omega)) (ok_t (ib_nI (by omega) (by omega)) (ok_m (ok_m ?_)))
    exact hb (uM c r w P - (i + 1)) _ _ (by omega) ⟨i + 1, by omega, rfl, by rw [nI_1]; rfl, rfl⟩
set_option maxHeartbeats 1000000 in
theorem mostDrop_ok {N : Nat} {M : sg_M} (hs : shp c r) (hw : ∀ s, s < ns c r → w s ≤ 4) (hP : ∀ v, v < 32 → bt P v = true → v < c * r) (hM : rSol c r w P M) (nd : M.1 1 0 * M.1 1 1 = nI (c * r)) (hL : ∀ v, v < c * r → M.1 1 (6 + v) = nI (L v) ∧ L v ≤ 99) (hN : 20 ≤ N) : ok (fX11_mostDrop N 0 M) (fun res => res = (lI (mxX c r w P L (c * r)), M)) := by
  have h9 := hs.2.2
  have hL2 : ∀ v, v < c * r → L v ≤ 99 := fun v h => (hL v h).2
  unfold fX11_mostDrop
  refine ok_m (ok_m ?_)
  unfold gX11_mostDrop_4
  refine ok_lp (fun n s M1 => ∃ i, i ≤ c * r ∧ n = c * r - i ∧ s = (0, lI (mxX c r w P L i), nI i) ∧ M = M1) ?_ N (c * r) _ M ⟨0, by omega, rfl, rfl, rfl⟩ (by omega)
  rintro n s M1 back ⟨i, hi, rfl, rfl, rfl⟩ hb
  unfold bX11_mostDrop_4
  dsimp only
  rw [r_nodesE nd]
  refine ok_bs (ok_if (fun h => ?_) (fun h => ?_))
  · have h2 := yle h (by omega) (by omega)
    obtain rfl : i = c * r := by omega
    exact ok_some rfl
  · have hi2 : i < c * r := nle h (by omega)
    refine ok_b (dropOf_ok (N := N) hs hM hL hi2 hN) (fun x M2 hx => ?_)
    obtain ⟨rfl, rfl⟩ : x = lI (xN c r w P L i) ∧ M2 = M := by cases hx; exact ⟨rfl, rfl⟩
    refine ok_m (ok_m ?_)
    refine hb (c * r - (i + 1)) _ _ (by omega) ⟨i + 1, by omega, rfl, ?_, rfl⟩
    have b1 := xN_b hs hw hP hL2 hi2
    have b2 := mxX_b hs hw hP hL2 i hi
    rw [nI_1]
    show (0, (if lI (xN c r w P L i) < lI (mxX c r w P L i) then lI (mxX c r w P L i) else lI (xN c r w P L i)), nI (i + 1)) = (0, lI (if xN c r w P L i < mxX c r w P L i then mxX c r w P L i else xN c r w P L i), nI (i + 1))
    by_cases q : xN c r w P L i < mxX c r w P L i
    · rw [if_pos ((lI_lt (by omega) (by omega) (by omega) (by omega)).mpr q), if_pos q]
    · rw [if_neg (fun z => q ((lI_lt (by omega) (by omega) (by omega) (by omega)).mp z)), if_neg q]
theorem r_isDead {N v : Nat} {M : sg_M} (hv : v < 32) : fX11_isDead N 0 (nI v) M = some (if bt (M.1 0 21) v = true then 1 else 0, M) := by
  unfold fX11_isDead
  rw [r_isOf hv]
  show (if _ then _ else _) = _
  rw [if_pos bz01]
theorem deadLoads_ok {N : Nat} {M : sg_M} (hs : shp c r) (hd : M.1 0 21 = dead c r w P) (nd : M.1 1 0 * M.1 1 1 = nI (c * r)) (hL : ∀ v, v < c * r → M.1 1 (6 + v) = nI (L v) ∧ L v ≤ 99) (hN : 20 ≤ N) : ok (fX11_deadLoads N 0 M) (fun res => res = (nI (stC c r w P L (c * r)), M)) := by
  have h9 := hs.2.2
  unfold fX11_deadLoads
  refine ok_m (ok_m ?_)
  unfold gX11_deadLoads_4
  refine ok_lp (fun n s M1 => ∃ i, i ≤ c * r ∧ n = c * r - i ∧ s = (0, nI (stC c r w P L i), nI i) ∧ M = M1) ?_ N (c * r) _ M ⟨0, by omega, rfl, rfl, rfl⟩ (by omega)
  rintro n s M1 back ⟨i, hi, rfl, rfl, rfl⟩ hb
  unfold bX11_deadLoads_4
  dsimp only
  rw [r_nodesE nd]
  refine ok_bs (ok_if (fun h => ?_) (fun h => ?_))
  · have h2 := yle h (by omega) (by omega)
    obtain rfl : i = c * r := by omega
    exact ok_some rfl
  · have hi2 : i < c * r := nle h (by omega)
    rw [r_isDead (show i < 32 by omega), hd]
    refine ok_bs (ok_if (fun e => ?_) (fun e => ?_))
    · refine ok_m (ok_m ?_)
      refine hb (c * r - (i + 1)) _ _ (by omega) ⟨i + 1, by omega, rfl, ?_, rfl⟩
      have d0 : ¬ bt (dead c r w P) i = true := fun z => by rw [z] at e; exact absurd e (by decide)
      have ee : stC c r w P L (i + 1) = stC c r w P L i + 0 := by
        show _ + _ = _
        rw [if_neg (fun z => d0 z.1)]
      rw [nI_1, ee, Int32.add_zero]; rfl
    · have d1 : bt (dead c r w P) i = true := by
        cases z : bt (dead c r w P) i with
        | true => rfl
        | false => rw [z] at e; exact absurd rfl e
      have hLi := hL i hi2
      rw [yr_1, yl_1, show (6 : Int32) + nI i = nI (6 + i) from nI_add 6 i, nI_clamp (show 6 + i < 2 ^ 31 by omega), hLi.1]
      refine ok_t (ib_nI (by omega) (by omega)) (ok_if (fun q => ?_) (fun q => ?_))
      · have q0 := (nI_le0 (by omega)).mp q
        refine ok_m (ok_m ?_)
        refine hb (c * r - (i + 1)) _ _ (by omega) ⟨i + 1, by omega, rfl, ?_, rfl⟩
        have ee : stC c r w P L (i + 1) = stC c r w P L i + 0 := by
          show _ + _ = _
          rw [if_neg (fun z => by omega)]
        rw [nI_1, ee, Int32.add_zero]; rfl
      · have q0 : ¬ L i = 0 := fun z => q ((nI_le0 (by omega)).mpr z)
        refine ok_m (ok_m ?_)
        refine hb (c * r - (i + 1)) _ _ (by omega) ⟨i + 1, by omega, rfl, ?_, rfl⟩
        have ee : stC c r w P L (i + 1) = stC c r w P L i + 1 := by
          show _ + _ = _
          rw [if_pos ⟨d1, by omega⟩]
        rw [nI_1, nI_1, ee]
end SOL
