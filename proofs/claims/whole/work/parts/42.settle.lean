/-! Flow.settle: dead nodes, drops over one number, the score -/
section SET
variable {c r : Nat} {w : Nat → Nat} {P : Int32} {L : Nat → Nat}
/-- the number below -/
def dD (c r : Nat) (w : Nat → Nat) (P : Int32) : Int := pK c r w P (uM c r w P)
/-- a node's drop, times the number below -/
def xN (c r : Nat) (w : Nat → Nat) (P : Int32) (L : Nat → Nat) (v : Nat) : Int := if unk c r w P v = true then tK c r w P (uM c r w P) (Ul (unk c r w P) v).length (bV c r w P L) else 0
/-- how many are starved, of the first k nodes -/
def stC (c r : Nat) (w : Nat → Nat) (P : Int32) (L : Nat → Nat) : Nat → Nat
  | 0 => 0
  | v + 1 => stC c r w P L v + (if bt (dead c r w P) v = true ∧ 0 < L v then 1 else 0)
/-- the greatest drop of the first k nodes -/
def mxX (c r : Nat) (w : Nat → Nat) (P : Int32) (L : Nat → Nat) : Nat → Int
  | 0 => 0
  | v + 1 => if xN c r w P L v < mxX c r w P L v then mxX c r w P L v else xN c r w P L v
theorem xN_b (hs : shp c r) (hw : ∀ s, s < ns c r → w s ≤ 4) (hP : ∀ v, v < 32 → bt P v = true → v < c * r) (hL : ∀ v, v < c * r → L v ≤ 99) {v : Nat} (hv : v < c * r) : 0 ≤ xN c r w P L v ∧ xN c r w P L v ≤ 18919194624 := by
  unfold xN
  by_cases h : unk c r w P v = true
  · rw [if_pos h]
    exact tK_b hs hw hP hL (Nat.le_refl _) (Ul_in hv h).1
  · rw [if_neg h]; omega
theorem mxX_b (hs : shp c r) (hw : ∀ s, s < ns c r → w s ≤ 4) (hP : ∀ v, v < 32 → bt P v = true → v < c * r) (hL : ∀ v, v < c * r → L v ≤ 99) : ∀ k, k ≤ c * r → 0 ≤ mxX c r w P L k ∧ mxX c r w P L k ≤ 18919194624 := by
  intro k
  induction k with
  | zero => intro _; exact ⟨Int.le_refl _, by show (0 : Int) ≤ _; omega⟩
  | succ k ih =>
    intro hk
    have h1 := ih (by omega)
    have h2 := xN_b hs hw hP hL (show k < c * r by omega)
    show 0 ≤ (if xN c r w P L k < mxX c r w P L k then mxX c r w P L k else xN c r w P L k) ∧ (if xN c r w P L k < mxX c r w P L k then mxX c r w P L k else xN c r w P L k) ≤ _
    by_cases h : xN c r w P L k < mxX c r w P L k
    · rw [if_pos h]; exact h1
    · rw [if_neg h]; exact h2
theorem stC_le : ∀ k, stC c r w P L k ≤ k := by
  intro k
  induction k with
  | zero => exact Nat.le_refl _
  | succ k ih =>
    show stC c r w P L k + _ ≤ k + 1
    by_cases h : bt (dead c r w P) k = true ∧ 0 < L k
    · rw [if_pos h]; omega
    · rw [if_neg h]; omega
theorem dD_pos (hs : shp c r) : 0 < dD c r w P := pK_pos hs (Nat.le_refl _)
theorem dD_le (hs : shp c r) (hw : ∀ s, s < ns c r → w s ≤ 4) (hP : ∀ v, v < 32 → bt P v = true → v < c * r) : dD c r w P ≤ 169869312 := pK_le hs hw hP (Nat.le_refl _)
theorem c_isDead {N f v : Nat} {M : sg_M} (hv : v < 32) : fX1_isDead N f (nI v) M = some (if bt (M.1 f 0) v = true then 1 else 0, M) := by
  unfold fX1_isDead
  by_cases h : bt (M.1 f 0) v = true
  · rw [if_pos ((bt_test1 hv).mpr h), if_pos h]
  · rw [if_neg (fun q => h ((bt_test1 hv).mp q)), if_neg h]
set_option maxHeartbeats 1000000 in
theorem keepScore_ok {N f q ld : Nat} {M : sg_M} (hf : sg_K Yc f 1) (hs : shp c r) (hw : ∀ s, s < ns c r → w s ≤ 4) (hP : ∀ v, v < 32 → bt P v = true → v < c * r) (hL : ∀ v, v < c * r → L v ≤ 99) (hq : q < f ∨ f + 16 ≤ q) (hld : ld ≠ f + 2) (hll : Yc.2.2.1 ld = 9) (h5 : M.1 q 5 = nI (c * r)) (h0 : M.1 f 0 = dead c r w P) (hl : ∀ v, v < c * r → M.1 ld v = nI (L v)) (hd : M.2 f 1 = lI (dD c r w P)) (hx : ∀ v, v < c * r → M.2 (f + 1) v = lI (xN c r w P L v)) (hN : 20 ≤ N) : ok (fX1_keepScore N f q ld M) (fun M1 => M1.1 (f + 2) 0 = nI (stC c r w P L (c * r)) ∧ M1.2 (f + 2) 1 = lI (mxX c r w P L (c * r)) ∧ M1.2 (f + 2) 2 = lI (dD c r w P) ∧ (∀ a k, (a ≠ f + 2 ∨ k ≠ 0) → M1.1 a k = M.1 a k) ∧ ∀ a k, a ≠ f + 2 → M1.2 a k = M.2 a k) := by
  have h9 := hs.2.2
  unfold fX1_keepScore
  rw [rc1_3 hf]
  refine ok_m (ok_m (ok_m (ok_m ?_)))
  unfold gX1_keepScore_29
  refine ok_lp (fun n s M1 => ∃ v, v ≤ c * r ∧ n = c * r - v ∧ s = (f, q, ld, nI v) ∧ M1.1 (f + 2) 0 = nI (stC c r w P L v) ∧ M1.2 (f + 2) 1 = lI (mxX c r w P L v) ∧ M1.2 (f + 2) 2 = lI (dD c r w P) ∧ (∀ a k, (a ≠ f + 2 ∨ k ≠ 0) → M1.1 a k = M.1 a k) ∧ ∀ a k, a ≠ f + 2 → M1.2 a k = M.2 a k) ?_ N (c * r) _ _ ⟨0, by omega, rfl, rfl, ?_, ?_, ?_, fun a k h => ?_, fun a k h => ?_⟩ (by omega)
  · rintro n s M1 back ⟨v, hv, rfl, rfl, s1, s2, s3, hI, hJ⟩ hb
    unfold bX1_keepScore_29
    dsimp only
    rw [hI q 5 (by omega), h5]
    refine ok_if (fun h => ?_) (fun h => ?_)
    · have := (nI_leI (by omega) (by omega)).mp h
      obtain rfl : v = c * r := by omega
      exact ok_some ⟨s1, s2, s3, hI, hJ⟩
    · have hv2 : v < c * r := by
        rcases Nat.lt_or_ge v (c * r) with z | z
        · exact z
        · exact absurd (nI_le z (by omega)) h
      have hxb := xN_b hs hw hP hL hv2
      have hmb := mxX_b hs hw hP hL v (by omega)
      have hst := stC_le (c := c) (r := r) (w := w) (P := P) (L := L) v
      have hLv := hL v hv2
      have fin : ∀ M2 : sg_M, M2.1 (f + 2) 0 = nI (stC c r w P L (v + 1)) → M2.2 = M1.2 → (∀ a k, (a ≠ f + 2 ∨ k ≠ 0) → M2.1 a k = M.1 a k) → ok (gX1_keepScore_64 N back f q ld (nI v) M2) (fun M1 => M1.1 (f + 2) 0 = nI (stC c r w P L (c * r)) ∧ M1.2 (f + 2) 1 = lI (mxX c r w P L (c * r)) ∧ M1.2 (f + 2) 2 = lI (dD c r w P) ∧ (∀ a k, (a ≠ f + 2 ∨ k ≠ 0) → M1.1 a k = M.1 a k) ∧ ∀ a k, a ≠ f + 2 → M1.2 a k = M.2 a k) := by
        intro M2 t1 t2 t3
        unfold gX1_keepScore_64
        rw [rc1_2 hf, rc1_3 hf, lc1_2 hf, nI_clamp (show v < 2 ^ 31 by omega), t2, hJ (f + 1) v (by omega), hx v hv2, s2]
        refine ok_t (ib_nI (by omega) (by omega)) (ok_m (ok_m ?_))
        refine hb (c * r - (v + 1)) _ _ (by omega) ⟨v + 1, by omega, rfl, by rw [nI_1], t1, ?_, ?_, t3, fun a k ha => ?_⟩
        · rw [uJ_eq]
          show _ = lI (if xN c r w P L v < mxX c r w P L v then mxX c r w P L v else xN c r w P L v)
          by_cases e : xN c r w P L v < mxX c r w P L v
          · rw [if_pos e, if_pos ((lI_lt (by omega) (by omega) (by omega) (by omega)).mpr e)]
          · rw [if_neg e, if_neg (fun z => e ((lI_lt (by omega) (by omega) (by omega) (by omega)).mp z))]
        · rw [uJ_nb (by decide), t2]; exact s3
        · rw [uJ_na ha, t2]; exact hJ a k ha
      rw [c_isDead (show v < 32 by omega), hI f 0 (by omega), h0]
      refine ok_bs ?_
      by_cases hdv : bt (dead c r w P) v = true
      · rw [if_pos hdv]
        refine ok_f (by decide) ?_
        rw [hll, nI_clamp (show v < 2 ^ 31 by omega), hI ld v (Or.inl hld), hl v hv2]
        refine ok_t (ib_nI (by omega) (by omega)) (ok_if (fun e => ?_) (fun e => ?_))
        · have e0 := (nI_le0 (by omega)).mp e
          refine fin M1 ?_ rfl hI
          show _ = nI (stC c r w P L v + _)
          rw [if_neg (by omega), Nat.add_zero]
          exact s1
        · have e0 : 0 < L v := by
            rcases Nat.eq_zero_or_pos (L v) with z | z
            · exact absurd ((nI_le0 (by omega)).mpr z) e
            · exact z
          rw [rc1_3 hf]
          refine ok_m (fin _ ?_ rfl (fun a k h => ?_))
          · rw [uI_eq, s1, nI_1]
            show _ = nI (stC c r w P L v + _)
            rw [if_pos ⟨hdv, e0⟩]
          · rw [uI_at, if_neg (by omega)]; exact hI a k h
      · rw [if_neg hdv]
        refine ok_t rfl (fin M1 ?_ rfl hI)
        show _ = nI (stC c r w P L v + _)
        rw [if_neg (fun z => hdv z.1), Nat.add_zero]
        exact s1
  · rw [uJ_i, uJ_i, uI_eq]; rfl
  · rw [uJ_nb (by decide), uJ_eq]; rfl
  · rw [uJ_eq, uJ_na (by omega), uI_l]; exact hd
  · rw [uJ_i, uJ_i, uI_at, if_neg (by omega)]
  · rw [uJ_na h, uJ_na h, uI_l]
/-- what Flow.settle leaves -/
def solved (c r : Nat) (w : Nat → Nat) (P : Int32) (L : Nat → Nat) (f : Nat) (M : sg_M) : Prop := M.1 f 0 = dead c r w P ∧ M.2 f 1 = lI (dD c r w P) ∧ (∀ v, v < 9 → M.2 (f + 1) v = lI (if v < c * r then xN c r w P L v else 0)) ∧ M.1 (f + 2) 0 = nI (stC c r w P L (c * r)) ∧ M.2 (f + 2) 1 = lI (mxX c r w P L (c * r)) ∧ M.2 (f + 2) 2 = lI (dD c r w P)
/-- only the flow's own cells change, not its row of units -/
def flowF (f : Nat) (M M1 : sg_M) : Prop := (∀ a k, (a < f ∨ f + 5 ≤ a) → M1.1 a k = M.1 a k) ∧ ∀ a k, (a < f ∨ f + 15 ≤ a) → M1.2 a k = M.2 a k
/-- what a Flow reads of the Net: its shape, and how many straps -/
def netG (c r q : Nat) (M : sg_M) : Prop := M.1 q 5 = nI (c * r) ∧ M.1 q 6 = nI (ns c r) ∧ (∀ s, s < ns c r → M.1 (q + 1) s = nI (sA c r s)) ∧ ∀ s, s < ns c r → M.1 (q + 2) s = nI (sB c r s)
set_option maxHeartbeats 2000000 in
theorem settle_ok {N f q a ld : Nat} {M : sg_M} (hf : sg_K Yc f 1) (hk : sg_K Yc q 4) (hs : shp c r) (hw : ∀ s, s < ns c r → w s ≤ 4) (hP : ∀ v, v < 32 → bt P v = true → v < c * r) (hL : ∀ v, v < c * r → L v ≤ 99) (hq : q + 2 < f ∨ f + 16 ≤ q) (ha : a < f ∨ f + 16 ≤ a) (hla : Yc.2.2.1 a = 12) (hld : ld < f ∨ f + 15 ≤ ld) (hll : Yc.2.2.1 ld = 9) (hG : netG c r q M) (hwa : ∀ s, s < ns c r → M.1 a s = nI (w s)) (hl : ∀ v, v < c * r → M.1 ld v = nI (L v)) (hN : 1000 ≤ N) : ok (fX1_settle N f q a P ld M) (fun M1 => solved c r w P L f M1 ∧ flowF f M M1) := by
  have h9 := hs.2.2
  have hm : uM c r w P ≤ c * r := Ul_len (unk c r w P) (c * r)
  have hUM : (Ul (unk c r w P) (c * r)).length = uM c r w P := rfl
  obtain ⟨g5, g6, gA, gB⟩ := hG
  unfold fX1_settle
  refine ok_b (spread_ok (c := c) (r := r) (w := w) hk hla hs g6 gA gB (fun s h => ⟨hwa s h, by have := hw s h; omega⟩) (by omega)) (fun x5 M5 e => ?_)
  cases e
  rw [g5]
  refine ok_m ?_
  have q0 : (sg_uI M f 0 ((((1 : Int32) <<< (nI (c * r) &&& 31)) - 1) &&& (clo c r w 9 P ^^^ (-1)))).1 f 0 = dead c r w P := uI_eq
  refine ok_bv (number_ok (c := c) (r := r) (w := w) (P := P) hf hs (by omega) (by rw [uI_na (by omega)]; exact g5) q0 (by omega)) (fun M8 h8 => ?_)
  obtain ⟨hn, hJ8, hF8⟩ := h8
  have f8 : ∀ x k, x ≠ f + 3 → x ≠ f + 4 → x ≠ f → M8.1 x k = M.1 x k := fun x k h1 h2 h3 => by rw [hF8 x k h1 h2 (Or.inl h3), uI_na h3]
  refine ok_bv (fillRows_ok (c := c) (r := r) (w := w) (L := L) (un := unk c r w P) (a := a) (ld := ld) hf hk hs hla hll (by rw [f8 q 6 (by omega) (by omega) (by omega)]; exact g6) (fun s h => by rw [f8 (q + 1) s (by omega) (by omega) (by omega)]; exact gA s h) (fun s h => by rw [f8 (q + 2) s (by omega) (by omega) (by omega)]; exact gB s h) (fun s h => by rw [f8 a s (by omega) (by omega) (by omega)]; exact ⟨hwa s h, by have := hw s h; omega⟩) (fun v h => by rw [f8 ld v (by omega) (by omega) (by omega)]; exact ⟨hl v h, by have := hL v h; omega⟩) hn hN) (fun M9 h10 => ?_)
  obtain ⟨⟨i9, o9⟩, r9, b9⟩ := h10
  have n4 : M9.1 f 4 = nI (uM c r w P) := by rw [i9]; exact hn.1
  refine ok_bv (clearRows_ok (c := c) (r := r) (w := w) (P := P) (L := L) hf hs hw hP hL n4 (fun i hi z hz => ?_) (by omega)) (fun M10 h11 => ?_)
  · unfold colV
    by_cases e : z < uM c r w P
    · rw [if_pos e, r9 i z hi e]
      show _ = lI (if i < uM c r w P ∧ z < uM c r w P then _ else 0)
      rw [if_pos ⟨hi, e⟩]
    · obtain rfl : z = uM c r w P := by omega
      rw [if_neg e, b9 i hi]
      unfold bV
      rw [if_pos hi]
  obtain ⟨i10, d10, b10, o10⟩ := h11
  rw [rc1_2 hf]
  refine ok_bv (fillJ_ok (by rw [lc1_2 hf]; omega) hN) (fun M11 h12 => ?_)
  obtain ⟨i11, z11, o11⟩ := h12
  rw [lc1_2 hf] at z11
  have ii : M11.1 = M8.1 := by rw [i11, i10, i9]
  refine ok_m ?_
  unfold gX1_settle_50
  refine ok_lp (fun n s M1 => ∃ i, i ≤ uM c r w P ∧ n = uM c r w P - i ∧ s = (f, q, ld, nI i) ∧ M1.1 = M8.1 ∧ (∀ v, v < 9 → M1.2 (f + 1) v = if v < c * r ∧ unk c r w P v = true ∧ (Ul (unk c r w P) v).length < i then lI (xN c r w P L v) else 0) ∧ ∀ x k, x ≠ f + 1 → M1.2 x k = M11.2 x k) ?_ N (uM c r w P) _ M11 ⟨0, by omega, rfl, rfl, ii, fun v hv => by rw [z11 v hv, if_neg (by omega)], fun _ _ _ => rfl⟩ (by omega)
  rintro n s M1 back ⟨i, hi, rfl, rfl, hI, hX, hF⟩ hb
  have hm9 : uM c r w P ≤ 9 := by omega
  unfold bX1_settle_50
  dsimp only
  rw [hI, hn.1]
  refine ok_if (fun h => ?_) (fun h => ?_)
  · have hi2 := (nI_leI (by omega) (by omega)).mp h
    have ei : i = uM c r w P := by omega
    have hXX : ∀ v, v < 9 → M1.2 (f + 1) v = lI (if v < c * r then xN c r w P L v else 0) := fun v hv => by
      rw [hX v hv]
      by_cases e1 : v < c * r
      · rw [if_pos e1]
        by_cases e2 : unk c r w P v = true
        · rw [if_pos ⟨e1, e2, by rw [ei]; exact (Ul_in e1 e2).1⟩]
        · rw [if_neg (fun z => e2 z.2.1)]
          unfold xN
          rw [if_neg e2]
          rfl
      · rw [if_neg e1, if_neg (fun z => e1 z.1)]
        rfl
    have dd : M1.2 f 1 = lI (dD c r w P) := by rw [hF f 1 (by omega), o11 f 1 (by omega)]; exact d10
    have e80 : M8.1 f 0 = dead c r w P := by rw [hF8 f 0 (by omega) (by omega) (by omega)]; exact q0
    refine ok_bv (keepScore_ok (c := c) (r := r) (w := w) (P := P) (L := L) hf hs hw hP hL (by omega) (by omega) hll (by rw [hI, f8 q 5 (by omega) (by omega) (by omega)]; exact g5) (by rw [hI]; exact e80) (fun v hv => by rw [hI, f8 ld v (by omega) (by omega) (by omega)]; exact hl v hv) dd (fun v hv => by rw [hXX v (by omega), if_pos hv]) (by omega)) (fun M2 h2 => ok_some ?_)
    obtain ⟨k1, k2, k3, k4, k5⟩ := h2
    refine ⟨⟨by rw [k4 f 0 (by omega), hI]; exact e80, by rw [k5 f 1 (by omega)]; exact dd, fun v hv => by rw [k5 (f + 1) v (by omega)]; exact hXX v hv, k1, k2, k3⟩, fun x k hx => ?_, fun x k hx => ?_⟩
    · rw [k4 x k (by omega), hI, f8 x k (by omega) (by omega) (by omega)]
    · rw [k5 x k (by omega), hF x k (by omega), o11 x k (by omega), o10 x k (by omega) (by omega), o9 x k (by omega), hJ8, uI_l]
  · have hi2 : i < uM c r w P := by
      rcases Nat.lt_or_ge i (uM c r w P) with z | z
      · exact z
      · exact absurd (nI_le z (by omega)) h
    obtain ⟨hU1, hU2⟩ := Ul_at hi2
    rw [rc1_5 hf, rc1_7 hf, rc1_2 hf, lc1_5 hf, lc1_7 hf, lc1_2 hf, nI_clamp (show i < 2 ^ 31 by omega), re1_7 hf (show i < 9 by omega), Nat.one_mul, le1_7 hf (show i < 9 by omega), hn.2.1 i hi2, nI_clamp (show (Ul (unk c r w P) (c * r)).getD i 0 < 2 ^ 31 by omega), nI_clamp (show (Ul (unk c r w P) (c * r)).length < 2 ^ 31 by omega)]
    refine ok_t (ib_nI (by omega) (by omega)) (ok_t (ib_nI (by omega) (by omega)) (ok_t (ib_nI (by omega) (by omega)) (ok_t (ib_nI (by omega) (by omega)) (ok_m (ok_m ?_)))))
    refine hb (uM c r w P - (i + 1)) _ _ (by omega) ⟨i + 1, by omega, rfl, by rw [nI_1], hI, fun v hv => ?_, fun x k hx => ?_⟩
    · have ev : M1.2 (f + 6 + i) (Ul (unk c r w P) (c * r)).length = lI (tK c r w P (uM c r w P) i (bV c r w P L)) := by
        rw [hF _ _ (by omega), o11 _ _ (by omega)]
        exact b10 i hi2
      rw [ev]
      by_cases e : v = (Ul (unk c r w P) (c * r)).getD i 0
      · subst e
        rw [uJ_eq, if_pos ⟨hU1, hU2, by rw [Ul_ix hi2]; omega⟩]
        unfold xN
        rw [if_pos hU2, Ul_ix hi2]
      · rw [uJ_nb e, hX v hv]
        by_cases e1 : v < c * r ∧ unk c r w P v = true ∧ (Ul (unk c r w P) v).length < i
        · rw [if_pos e1, if_pos ⟨e1.1, e1.2.1, by omega⟩]
        · rw [if_neg e1, if_neg (fun z => ?_)]
          have hne : (Ul (unk c r w P) v).length ≠ i := fun y => e ((ix_eq z.1 z.2.1 hi2).mp y)
          exact e1 ⟨z.1, z.2.1, by omega⟩
    · rw [uJ_na hx]; exact hF x k hx
end SET
