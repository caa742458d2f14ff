/-! sets of pads -/
theorem bt_nI (s v : Nat) : bt (nI s) v = (decide (v < 32) && s.testBit v) := by
  show (BitVec.ofNat 32 s).getLsbD v = _
  rw [BitVec.getLsbD_ofNat]
theorem nI_lo {s m v : Nat} (hs : s < 2 ^ m) (hv : bt (nI s) v = true) : v < m := by
  apply Classical.byContradiction
  intro h
  have h1 : s < 2 ^ v := Nat.lt_of_lt_of_le hs (Nat.pow_le_pow_right (by decide) (by omega))
  rw [bt_nI, Nat.testBit_lt_two_pow h1, Bool.and_false] at hv
  cases hv
theorem ex_nI {x : Int32} {m : Nat} (h : ∀ v, v < 32 → bt x v = true → v < m) : ∃ s, s < 2 ^ m ∧ x = nI s := by
  have tb : ∀ i, x.toBitVec.toNat.testBit i = bt x i := fun i => rfl
  refine ⟨x.toBitVec.toNat, Nat.lt_pow_two_of_testBit _ (fun i hi => ?_), b_ext (fun i hi => ?_)⟩
  · rw [tb]
    cases e : bt x i with
    | false => rfl
    | true =>
      by_cases q : i < 32
      · have := h i q e; omega
      · rw [b_big (by omega)] at e; cases e
  · rw [bt_nI, tb, decide_eq_true hi, Bool.true_and]
theorem cnk_s (x : Int32) (k : Nat) : cnk x (k + 1) = cnk x k + if bt x k = true then 1 else 0 := rfl
theorem cnk_cg {x y : Int32} : ∀ k, (∀ i, i < k → bt x i = bt y i) → cnk x k = cnk y k := by
  intro k
  induction k with
  | zero => intro _; rfl
  | succ k ih =>
    intro h
    rw [cnk_s, cnk_s, ih (fun i hi => h i (by omega)), h k (by omega)]
theorem cnk_st {x : Int32} {m : Nat} (h : ∀ v, v < 32 → bt x v = true → v < m) : ∀ k, m ≤ k → k ≤ 32 → cnk x k = cnk x m := by
  intro k
  induction k with
  | zero => intro h1 _; rw [show m = 0 by omega]
  | succ k ih =>
    intro h1 h2
    by_cases e : m = k + 1
    · rw [e]
    · rw [cnk_s, ih (by omega) (by omega), if_neg (fun z => by have := h k (by omega) z; omega)]
      rfl
theorem cnk_dj {x P : Int32} (h : ∀ v, v < 32 → bt x v = true → bt P v = false) : ∀ k, k ≤ 32 → cnk x k + cnk P k ≤ k := by
  intro k
  induction k with
  | zero => intro _; exact Nat.le_refl _
  | succ k ih =>
    intro hk
    have := ih (by omega)
    rw [cnk_s, cnk_s]
    by_cases e : bt x k = true
    · rw [if_pos e, h k (by omega) e, if_neg (by decide)]; omega
    · rw [if_neg e]; split <;> omega
theorem ex_set {P : Int32} : ∀ k, k ≤ 31 → ∀ n, n + cnk P k ≤ k → ∃ x : Int32, (∀ v, v < 32 → bt x v = true → v < k ∧ bt P v = false) ∧ cnk x k = n := by
  intro k
  induction k with
  | zero => intro _ n hn; exact ⟨0, (fun v hv z => by rw [b_0] at z; cases z), show 0 = n by omega⟩
  | succ k ih =>
    intro hk n hn
    rw [cnk_s] at hn
    by_cases q : n + cnk P k ≤ k
    · obtain ⟨x, h1, h2⟩ := ih (by omega) n q
      refine ⟨x, fun v hv z => ⟨by have := (h1 v hv z).1; omega, (h1 v hv z).2⟩, ?_⟩
      rw [cnk_s, h2, if_neg (fun z => by have := (h1 k (by omega) z).1; omega)]
      rfl
    · have np : ¬ bt P k = true := fun z => by rw [if_pos z] at hn; omega
      rw [if_neg np] at hn
      have hc := cnk_le P k
      obtain ⟨x, h1, h2⟩ := ih (by omega) (n - 1) (by omega)
      refine ⟨x ||| bi k, fun v hv z => ?_, ?_⟩
      · rw [b_or, Bool.or_eq_true] at z
        rcases z with z | z
        · exact ⟨by have := (h1 v hv z).1; omega, (h1 v hv z).2⟩
        · rw [bt_bi (by omega) hv] at z
          have z := of_decide_eq_true z
          subst z
          exact ⟨(by omega), by simpa using np⟩
      · rw [cnk_s, cnk_cg (y := x) k (fun i hi => by rw [b_or, bt_bi (by omega) (by omega), decide_eq_false (by omega), Bool.or_false]), h2, b_or, bt_bi (by omega) (by omega), decide_eq_true rfl, Bool.or_true, if_pos rfl]
        omega
theorem bst_none {lt : Nat → Nat → Bool} {p : Nat → Bool} : ∀ n, bst lt p n = none ↔ ∀ i, i < n → p i = false := by
  intro n
  induction n with
  | zero => exact ⟨fun _ i hi => absurd hi (by omega), fun _ => rfl⟩
  | succ n ih =>
    by_cases q : p n = true
    · refine ⟨fun z => ?_, fun z => by rw [z n (by omega)] at q; cases q⟩
      cases e : bst lt p n with
      | none => rw [bst_1 q e] at z; cases z
      | some j =>
        by_cases l : lt n j = true
        · rw [bst_2 q e l] at z; cases z
        · rw [bst_3 q e l] at z; cases z
    · rw [bst_no q, ih]
      refine ⟨fun z i hi => ?_, fun z i hi => z i (by omega)⟩
      by_cases e : i = n
      · rw [e]; simpa using q
      · exact z i (by omega)
def bc1 (x : Int32) : Int32 := x - ((x.toUInt32 >>> (((1 : Int32)).toUInt32 &&& Int32.toUInt32 31)).toInt32 &&& (1431655765 : Int32))
def bc2 (x : Int32) : Int32 := (x &&& (858993459 : Int32)) + ((x.toUInt32 >>> (((2 : Int32)).toUInt32 &&& Int32.toUInt32 31)).toInt32 &&& (858993459 : Int32))
def bc3 (x : Int32) : Int32 := (x + (x.toUInt32 >>> (((4 : Int32)).toUInt32 &&& Int32.toUInt32 31)).toInt32) &&& (252645135 : Int32)
def bc4 (x : Int32) : Int32 := x + (x.toUInt32 >>> (((8 : Int32)).toUInt32 &&& Int32.toUInt32 31)).toInt32
def bc5 (x : Int32) : Int32 := x + (x.toUInt32 >>> (((16 : Int32)).toUInt32 &&& Int32.toUInt32 31)).toInt32
theorem bc_all : ∀ s, s < 512 → (bc5 (bc4 (bc3 (bc2 (bc1 (nI s)))))) &&& 63 = nI (cnk (nI s) 9) := by decide +kernel
theorem bc_ok {N s : Nat} {M : sg_M} (hs : s < 512) : fJ6_bitCount_0f7a4 N (nI s) M = some (nI (cnk (nI s) 9), M) := by
  rw [← bc_all s hs]
  rfl
theorem p2 : ∀ n, n < 10 → (1 : Int32) <<< (nI n &&& 31) = nI (2 ^ n) := by decide +kernel
theorem r_bits {N : Nat} {x : Int32} {M : sg_M} (hN : 20 ≤ N) : fX11_bits N x M = some (nI (cnk x 9), M) := by
  apply ok_eq
  unfold fX11_bits
  refine ok_m (ok_m ?_)
  unfold gX11_bits_4
  refine ok_for 0 9 (fun i s M1 => s = (x, nI (cnk x i), nI i) ∧ M = M1) (by omega) (by omega) ⟨rfl, rfl⟩ ?_ ?_
  · rintro i s M1 back hi ⟨rfl, rfl⟩ hb
    unfold bX11_bits_4
    dsimp only
    rw [bt_test (by omega), nI_1]
    refine ok_f (show ¬ nI 9 ≤ nI i from nI_ge hi (by omega)) (ok_m (ok_m (hb _ _ ⟨?_, rfl⟩)))
    rw [cnk_s]
    by_cases e : bt x i = true
    · rw [if_pos e, if_pos e, nI_1]
    · rw [if_neg e, if_neg e, Int32.add_zero]
      rfl
  · rintro s M1 back ⟨rfl, rfl⟩
    unfold bX11_bits_4
    dsimp only
    exact ok_t (by decide) (ok_some rfl)
section ST
variable {N : Nat} {b : Nat → Int32}
abbrev fZ (b : Nat → Int32) : Nat → Nat × Int × Int := fun s => sco (zB b s)
abbrev pZ (b : Nat → Int32) (n : Nat) : Nat → Bool := fun s => decide (cnk (nI s) 9 = n) && decide (nI s &&& b 5 = 0)
abbrev bZ (b : Nat → Int32) (n i : Nat) : Option Nat := bst (fun k j => btr (fZ b k) (fZ b j)) (pZ b n) i
theorem pw (h : vb b) : 2 ^ gM b ≤ 512 := show 2 ^ gM b ≤ 2 ^ 9 from Nat.pow_le_pow_right (by decide) (vb_m h).2
theorem zB_v (h : vb b) {s : Nat} (hs : s < 2 ^ gM b) : pdv b (zB b s) := pdv_or (pdv_r h) (fun v _ z => nI_lo hs z)
theorem gZ (h : vb b) {s : Nat} (hs : s < 2 ^ gM b) : gsc (fZ b s) := gsc_b (zB_v h hs).1
theorem and0 {x P : Int32} : x &&& P = 0 ↔ ∀ v, v < 32 → bt x v = true → bt P v = false := by
  constructor
  · intro h v hv z
    have := congrArg (fun y => bt y v) h
    have : bt (x &&& P) v = bt 0 v := this
    rw [b_and, b_0, z, Bool.true_and] at this
    exact this
  · intro h
    apply b_ext
    intro i hi
    rw [b_and, b_0]
    cases e : bt x i with
    | false => rfl
    | true => rw [h i hi e]; rfl
theorem so_ex (h : vb b) {n : Nat} (hn : n + cnk (b 5) 9 ≤ gM b) : ∃ s, bss b n = some s := by
  have hm := vb_m h
  have eP : cnk (b 5) 9 = cnk (b 5) (gM b) := cnk_st (vb_P h) 9 hm.2 (by omega)
  rw [eP] at hn
  obtain ⟨x, h1, h2⟩ := ex_set (P := b 5) (gM b) (by omega) n hn
  obtain ⟨s, hs, rfl⟩ := ex_nI (x := x) (m := gM b) (fun v hv z => (h1 v hv z).1)
  cases e : bss b n with
  | some s => exact ⟨s, rfl⟩
  | none =>
    have := (bst_none _).mp e s hs
    have h3 : cnk (nI s) 9 = n := by rw [← h2]; exact cnk_st (fun v hv z => (h1 v hv z).1) 9 hm.2 (by omega)
    rw [decide_eq_true h3, decide_eq_true (and0.mpr (fun v hv z => (h1 v hv z).2))] at this
    cases this
theorem so_no (h : vb b) {n : Nat} (hn : gM b < n + cnk (b 5) 9) : bss b n = none := by
  have hm := vb_m h
  refine (bst_none _).mpr (fun s hs => ?_)
  cases e : decide (cnk (nI s) 9 = n) && decide (nI s &&& b 5 = 0) with
  | false => rfl
  | true =>
    rw [Bool.and_eq_true] at e
    have e1 := of_decide_eq_true e.1
    have e2 := and0.mp (of_decide_eq_true e.2)
    have h1 := cnk_dj e2 (gM b) (by omega)
    have h2 := cnk_st (vb_P h) 9 hm.2 (by omega)
    have h2 : cnk (b 5) 9 = cnk (b 5) (gM b) := h2
    have h3 := cnk_st (x := nI s) (m := gM b) (fun v _ z => nI_lo hs z) 9 hm.2 (by omega)
    omega
theorem bss_lt {n s : Nat} (e : bss b n = some s) : s < 2 ^ gM b := (bst_lt e).1
theorem oZ (h : vb b) (n : Nat) {k : Nat} (hk : k ≤ 512) : oI (bZ b n k) = -1 ↔ bZ b n k = none := oI_n1 (fun j e => by have := (bst_lt e).1; omega)
set_option maxHeartbeats 1000000 in
theorem findSet_ok {n : Nat} {M : sg_M} (h : vb b) (hc : cNet 13 b M) (hn : n < 10) (hN : 1000 ≤ N) : okA (fX5_findSet N 173 13 (nI n) (176 + n) M) (oI (bss b n)) (fun M1 => (∀ a k, a ≠ 176 + n → (a < 189 ∨ 205 ≤ a) → M1.1 a k = M.1 a k ∧ M1.2 a k = M.2 a k) ∧ ∀ s, bss b n = some s → scoAt (sco (zB b s)) (176 + n) M1) := by
  apply okA_of
  have hm := vb_m h
  have hp := pw h
  unfold fX5_findSet
  refine ok_m (ok_m ?_)
  unfold gX5_findSet_6
  refine ok_for 0 (2 ^ gM b) (fun i s M1 => s = (173, 13, nI n, 176 + n, oI (bZ b n i), nI i) ∧ (∀ a k, a ≠ 176 + n → (a < 189 ∨ 205 ≤ a) → M1.1 a k = M.1 a k ∧ M1.2 a k = M.2 a k) ∧ ∀ s, bZ b n i = some s → scoAt (sco (zB b s)) (176 + n) M1) (Nat.zero_le _) (by omega) ⟨rfl, fun _ _ _ _ => ⟨rfl, rfl⟩, fun s e => by cases e⟩ ?_ ?_
  · rintro i s M1 back hi ⟨rfl, hF, hB⟩ hb
    have n5 : M1.1 13 5 = nI (gM b) := by rw [(hF 13 5 (by omega) (by omega)).1]; exact (cNet_G hc).1
    have n7 : M1.1 13 7 = b 5 := by rw [(hF 13 7 (by omega) (by omega)).1]; exact hc.1.2.2.2.2.2
    have skip : ¬ pZ b n i = true → ok (back (173, 13, nI n, 176 + n, oI (bZ b n i), nI i + 1) M1) (fun res => res.1 = oI (bss b n) ∧ (∀ a k, a ≠ 176 + n → (a < 189 ∨ 205 ≤ a) → res.2.1 a k = M.1 a k ∧ res.2.2 a k = M.2 a k) ∧ ∀ s, bss b n = some s → scoAt (sco (zB b s)) (176 + n) res.2) := fun z => by
      have e : bZ b n (i + 1) = bZ b n i := bst_no z
      exact hb _ _ ⟨by rw [e, nI_1], hF, fun s e2 => hB s (e ▸ e2)⟩
    unfold bX5_findSet_6
    dsimp only
    rw [n5, n7, p2 _ (by omega)]
    refine ok_f (nI_ge hi (by omega)) (ok_if (fun z => ?_) (fun z => ?_))
    · rw [bc_ok (by omega), e_b, n7, y13_11, y13_12, y173_7, y189_3]
      refine ok_if (fun y => ?_) (fun y => ?_)
      · have c9 := cnk_le (nI i) 9
        have y : cnk (nI i) 9 = n := (nI_eq (by omega) (by omega)).mp y
        have pz : pZ b n i = true := by show (decide _ && decide _) = true; rw [decide_eq_true y, decide_eq_true z]; rfl
        have e5 : (b 5 ||| nI i) = (zB b i) 5 := ub_eq.symm
        rw [e5]
        refine ok_bv (settle_p (N := N) (f := 189) K189 (by omega) (cNet_c hc (fun a k g1 g2 _ => (hF a k (by omega) (by omega)).1)) (zB_v h hi) hN) (fun M2 h2 => ?_)
        obtain ⟨S2, F2⟩ := h2
        have F3 : ∀ a k, a ≠ 176 + n → (a < 189 ∨ 205 ≤ a) → M2.1 a k = M.1 a k ∧ M2.2 a k = M.2 a k := fun a k g1 g2 => by rw [(F2 a k (by omega)).1, (F2 a k (by omega)).2]; exact hF a k g1 g2
        have sc : scoAt (sco (zB b i)) 191 M2 := bsol_sco (f := 189) S2
        have up : bZ b n (i + 1) = some i → ok (gX5_findSet_79 N back 173 13 (nI n) (176 + n) (nI i) M2) (fun res => res.1 = oI (bss b n) ∧ (∀ a k, a ≠ 176 + n → (a < 189 ∨ 205 ≤ a) → res.2.1 a k = M.1 a k ∧ res.2.2 a k = M.2 a k) ∧ ∀ s, bss b n = some s → scoAt (sco (zB b s)) (176 + n) res.2) := fun e => by
          unfold gX5_findSet_79
          rw [y173_7, y189_3, nI_1]
          refine ok_m (ok_bv (c_cpy (N := N) (j1 := 176 + n) sc (by omega)) (fun M3 h3 => ok_m (hb _ _ ⟨by rw [e]; rfl, fun a k g1 g2 => ?_, fun j e2 => ?_⟩)))
          · rw [(h3.2 a k g1).1, (h3.2 a k g1).2]; exact F3 a k g1 g2
          · rw [e] at e2; cases e2; exact h3.1
        refine ok_if (fun w => ?_) (fun w => ?_)
        · exact up (bst_1 pz ((oZ h n (by omega)).mp w))
        · cases e4 : bZ b n i with
          | none => exact absurd ((oZ h n (by omega)).mpr e4) w
          | some j =>
            have sj : scoAt (sco (zB b j)) (176 + n) M2 := scoAt_c (hB j e4) (fun k => F2 _ k (by omega))
            rw [c_btr sc sj (gZ h hi) (gZ h (by have := (bst_lt e4).1; omega)), e_b]
            by_cases l : btr (sco (zB b i)) (sco (zB b j)) = true
            · rw [if_pos l]
              exact ok_f q1 (up (bst_2 pz e4 l))
            · rw [if_neg l]
              have e : bZ b n (i + 1) = some j := bst_3 pz e4 l
              exact ok_t q0 (ok_m (hb _ _ ⟨by rw [e, nI_1], F3, fun k e2 => by rw [e] at e2; cases e2; exact sj⟩))
      · refine ok_m (skip (fun q => y ?_))
        have q : (decide _ && decide _) = true := q
        rw [Bool.and_eq_true] at q
        rw [of_decide_eq_true q.1]
    · refine ok_m (skip (fun q => z ?_))
      have q : (decide _ && decide _) = true := q
      rw [Bool.and_eq_true] at q
      exact of_decide_eq_true q.2
  · rintro s M1 back ⟨rfl, hF, hB⟩
    have n5 : M1.1 13 5 = nI (gM b) := by rw [(hF 13 5 (by omega) (by omega)).1]; exact (cNet_G hc).1
    unfold bX5_findSet_6
    dsimp only
    rw [n5, p2 _ (by omega)]
    exact ok_t (nI_le (Nat.le_refl _) (by omega)) (ok_some ⟨rfl, hF, hB⟩)
theorem bestSet_ok {n : Nat} {M : sg_M} (hc : cI b M) (hn : n < 10) (hN : 1000 ≤ N) : okA (fX5_bestSet N 173 13 (nI n) M) (oI (bss b n)) (fun M1 => (cI b M1 ∧ low M M1) ∧ ∀ s, bss b n = some s → scoAt (sco (zB b s)) (176 + n) M1) := by
  apply okA_of
  have h := hc.1
  unfold fX5_bestSet
  rw [y173_2, y173_4, y173_5, yn_175, yn_186, yn_187, nI_clamp (show n < 2 ^ 31 by omega), y175_n hn]
  refine ok_t (ib_nI (by omega) (by omega)) (ok_if (fun z => ?_) (fun z => ?_))
  · refine ok_t (ib_nI (by omega) (by omega)) (ok_m (ok_t (ib_nI (by omega) (by omega)) ?_))
    have u1 : ∀ a k, a ≠ 186 → (sg_uI M 186 n (vp_nar .boolean (1 : Int32))).1 a k = M.1 a k := fun a k ha => uI_na ha
    refine ok_a (findSet_ok (N := N) h (cNet_c (cI_N hc) (fun a k g1 g2 _ => u1 a k (by omega))) hn hN) (fun M1 h1 => ok_t (ib_nI (by omega) (by omega)) (ok_m (ok_t (ib_nI (by omega) (by omega)) ?_)))
    rw [uI_eq]
    have nt : ∀ a k, a ≠ 176 + n → (a < 189 ∨ 205 ≤ a) → (a ≠ 186 ∨ k ≠ n) → (a ≠ 187 ∨ k ≠ n) → (sg_uI M1 187 n (oI (bss b n))).1 a k = M.1 a k ∧ (sg_uI M1 187 n (oI (bss b n))).2 a k = M.2 a k := fun a k g1 g2 g3 g4 => by
      rw [uI_at, if_neg (by omega), (h1.1 a k g1 g2).1, uI_at, if_neg (by omega)]
      exact ⟨rfl, (h1.1 a k g1 g2).2⟩
    have sn : ∀ s, bss b n = some s → scoAt (sco (zB b s)) (176 + n) (sg_uI M1 187 n (oI (bss b n))) := fun s e => scoAt_c (h1.2 s e) (fun k => ⟨uI_na (by omega), rfl⟩)
    refine ok_some ⟨rfl, cI_seg (lo := 173) (hi := 205) hc (fun a k ha => nt a k (by omega) (by omega) (by omega) (by omega)) (by omega) (Or.inr (Or.inr (by omega))) (Or.inl ⟨cPg_c hc.2.2.2.2.1 (fun a k g1 g2 => (nt a k (by omega) (by omega) (by omega) (by omega)).1), fun m hm z2 => ?_⟩) (Or.inr (Or.inl (by omega))) (Or.inr (Or.inl (by omega))), sn⟩
    by_cases e : m = n
    · subst e
      exact ⟨uI_eq, sn⟩
    · rw [(nt 186 m (by omega) (by omega) (by omega) (by omega)).1] at z2
      obtain ⟨g1, g2⟩ := hc.2.2.2.2.2.1 m hm z2
      exact ⟨by rw [(nt 187 m (by omega) (by omega) (by omega) (by omega)).1, g1], fun s e2 => scoAt_c (g2 s e2) (fun k => nt _ k (by omega) (by omega) (by omega) (by omega))⟩
  · obtain ⟨g1, g2⟩ := hc.2.2.2.2.2.1 n hn z
    exact ok_t (ib_nI (by omega) (by omega)) (ok_some ⟨g1, ⟨hc, low_refl⟩, g2⟩)
theorem pdv_back {d : Nat → Int32} (h : pdv b d) : ub d 5 (b 5) = b := by
  funext i
  unfold ub
  by_cases e : i = 5
  · rw [if_pos e, e]
  · rw [if_neg e, h.2 i e]
abbrev rZ (b : Nat → Int32) (n i : Nat) : Option Nat × (Nat × Int × Int) := rb (fZ b) (pZ b n) (10, 0, 1) i
theorem gRZ (h : vb b) (n : Nat) : ∀ i, i ≤ 2 ^ gM b → gsc (rZ b n i).2 := by
  intro i
  induction i with
  | zero => intro _; exact gsc_0
  | succ i ih =>
    intro hi
    show gsc (rb _ _ _ _).2
    rw [rb_s]
    split
    · exact gZ h (by omega)
    · exact ih (by omega)
theorem rZ_end (h : vb b) (n : Nat) : oI (rZ b n (2 ^ gM b)).1 = oI (bss b n) ∧ ∀ s, bss b n = some s → (rZ b n (2 ^ gM b)).2 = sco (zB b s) := by
  have hrb := rb_bst (f := fZ b) (p := pZ b n) gsc_0 (2 ^ gM b) (fun k hk _ => gZ h hk)
  cases e : bss b n with
  | none => rw [show rZ b n (2 ^ gM b) = _ from hrb.1 e]; exact ⟨rfl, fun s z => by cases z⟩
  | some j =>
    rw [show rZ b n (2 ^ gM b) = _ from hrb.2 j e, if_pos (btr_10 (zB_v h (bss_lt e)).1)]
    exact ⟨rfl, fun s z => by cases z; rfl⟩
set_option maxHeartbeats 1000000 in
theorem bestPads_ok {n : Nat} {M : sg_M} (h : vb b) (h1 : M.1 1 = b) (hn : n < 10) (hN : 1000 ≤ N) : okA (fX11_bestPads N 0 (nI n) M) (oI (bss b n)) (fun M1 => M1.1 1 = b ∧ raB M M1 ∧ ∀ s, bss b n = some s → bsR (sco (zB b s)) M1) := by
  apply okA_of
  have hm := vb_m h
  have hp := pw h
  have hend := rZ_end h n
  unfold fX11_bestPads
  refine ok_bv (r_without (N := N) (M := M)) (fun M1 hM => ok_m ?_)
  have w0 : M1.1 1 = b := hM.2.1.trans h1
  rw [yr_1, yl_1, c_5, w0]
  refine ok_t (by decide) (ok_m (ok_m ?_))
  unfold gX11_bestPads_16
  refine ok_for 0 512 (fun i s M2 => s = (0, nI n, oI (rZ b n (min i (2 ^ gM b))).1, b 5, nI i) ∧ (∃ d, pdv b d ∧ M2.1 1 = d) ∧ raB M M2 ∧ bsR (rZ b n (min i (2 ^ gM b))).2 M2) (by omega) (by omega) ⟨by rw [Nat.min_eq_left (Nat.zero_le _)]; rfl, ⟨b, pdv_r h, w0⟩, hM.2.2, by rw [Nat.min_eq_left (Nat.zero_le _)]; exact hM.1⟩ ?_ ?_
  · rintro i s M2 back hi ⟨rfl, ⟨d, pd, g1⟩, g2, g3⟩ hb
    have eM : gM d = gM b := (pdv_sm pd).2.2.2.2.2
    unfold bX11_bestPads_16
    dsimp only
    rw [r_nd pd.1 g1, e_b, eM, p2 _ (by omega)]
    refine ok_f (show ¬ nI 512 ≤ nI i from nI_ge hi (by omega)) (ok_if (fun z => ?_) (fun z => ?_))
    · have z : 2 ^ gM b ≤ i := by
        apply Classical.byContradiction
        intro w
        exact nI_ge (show i < 2 ^ gM b by omega) (by omega) z
      have e : min (i + 1) (2 ^ gM b) = min i (2 ^ gM b) := by omega
      exact ok_m (hb _ _ ⟨by rw [e, nI_1], ⟨d, pd, g1⟩, g2, by rw [e]; exact g3⟩)
    · have z : i < 2 ^ gM b := by
        apply Classical.byContradiction
        intro w
        exact z (nI_le (by omega) (by omega))
      have e1 : min i (2 ^ gM b) = i := by omega
      have e2 : min (i + 1) (2 ^ gM b) = i + 1 := by omega
      rw [e1] at g3 ⊢
      rw [e2] at hb
      have skip : ¬ pZ b n i = true → ok (back (0, nI n, oI (rZ b n i).1, b 5, nI i + 1) M2) (fun res => res.1 = oI (bss b n) ∧ res.2.1 1 = b ∧ raB M res.2 ∧ ∀ s, bss b n = some s → bsR (sco (zB b s)) res.2) := fun q => by
        have e : rZ b n (i + 1) = rZ b n i := by show rb _ _ _ _ = _; rw [rb_s, if_neg (fun w => q w.1)]
        exact hb _ _ ⟨by rw [e, nI_1], ⟨d, pd, g1⟩, g2, by rw [e]; exact g3⟩
      rw [r_bits (by omega), e_b]
      refine ok_if (fun y => ?_) (fun y => ?_)
      · have c9 := cnk_le (nI i) 9
        have y : cnk (nI i) 9 = n := (nI_eq (by omega) (by omega)).mp y
        refine ok_if (fun x => ?_) (fun x => ?_)
        · have pz : pZ b n i = true := by show (decide _ && decide _) = true; rw [decide_eq_true y, decide_eq_true x]; rfl
          rw [yr_1, yl_1, c_5]
          have w1 : (sg_uI M2 1 5 (b 5 ||| nI i)).1 1 = zB b i := by
            rw [uW g1]
            funext k
            show ub _ _ _ _ = ub _ _ _ _
            unfold ub
            by_cases e : k = 5
            · rw [if_pos e, if_pos e]
            · rw [if_neg e, if_neg e, pd.2 k e]
          have B1 : bsR (rZ b n i).2 (sg_uI M2 1 5 (b 5 ||| nI i)) := bsR_1 g3
          refine ok_t (by decide) (ok_m (ok_b (r_scores (N := N) (zB_v h z).1 w1 (gRZ h n i (by omega)) B1 hN) (fun x M3 h3 => ?_)))
          obtain ⟨hx, S3, F3⟩ := h3
          have ra3 : raB M M3 := raB_tr (raB_tr g2 raB_1) (raB_s F3)
          refine ok_if (fun v => ?_) (fun v => ?_)
          · have v := hx.mp v
            have e : rZ b n (i + 1) = rZ b n i := by show rb _ _ _ _ = _; rw [rb_s, if_neg (fun w => v w.2)]
            exact ok_m (hb _ _ ⟨by rw [e, nI_1], ⟨_, zB_v h z, S3.2⟩, ra3, by rw [e]; exact bsR_c B1 F3⟩)
          · have v : btr (fZ b i) (rZ b n i).2 = true := by
              apply Classical.byContradiction
              intro w
              exact v (hx.mpr w)
            have e : rZ b n (i + 1) = (some i, fZ b i) := by show rb _ _ _ _ = _; rw [rb_s, if_pos ⟨pz, v⟩]
            refine ok_m (ok_bv (r_keeps (N := N) (zB_v h z).1 S3 (by omega)) (fun M4 h4 => ok_m (hb _ _ ⟨by rw [e, nI_1]; rfl, ⟨_, zB_v h z, h4.2.1.2⟩, raB_tr ra3 h4.2.2, by rw [e]; exact h4.1⟩)))
        · refine ok_m (skip (fun q => x ?_))
          have q : (decide _ && decide _) = true := q
          rw [Bool.and_eq_true] at q
          exact of_decide_eq_true q.2
      · refine ok_m (skip (fun q => y ?_))
        have q : (decide _ && decide _) = true := q
        rw [Bool.and_eq_true] at q
        rw [of_decide_eq_true q.1]
  · rintro s M2 back ⟨rfl, ⟨d, pd, g1⟩, g2, g3⟩
    unfold bX11_bestPads_16
    dsimp only
    rw [yr_1, yl_1, c_5]
    have e : min 512 (2 ^ gM b) = 2 ^ gM b := by omega
    rw [e] at g3 ⊢
    refine ok_t (by decide) (ok_t (by decide) (ok_m (ok_some ⟨hend.1, by rw [uW g1, pdv_back pd], raB_tr g2 raB_1, fun s e3 => by rw [← hend.2 s e3]; exact bsR_1 g3⟩)))
theorem ib10 {x : Int32} : sg_ib x 10 = true ↔ ¬ x < 0 ∧ x ≤ 9 := by
  have e : Int32.toInt 0 = 0 := by decide
  have e4 : Int32.toInt 9 = 9 := by decide
  rw [Int32.lt_iff_toInt_lt, Int32.le_iff_toInt_le, e, e4]
  unfold sg_ib
  rw [decide_eq_true_iff]
  omega
theorem q_pads {x : Int32} (hN : 1000 ≤ N) : bth b (fX10_pads N 0 x) (fX11_pads N 0 x) := by
  intro Mc Mr hc hr
  have h := hc.1
  unfold fX10_pads fX11_pads
  rw [c_ng hc, r_grd h hr, e_b, e_b, if_pos q0, if_neg q1, show (9 : Int64) = lI (((10 : Nat) : Int) - 1) from rfl, r_in (n := 10) (by omega), e_b]
  by_cases hx : sg_ib x 10 = true
  case neg =>
    simp only [if_neg hx, if_pos q0]
    have hx2 : ¬ (¬ x < 0 ∧ x ≤ 9) := fun z => hx (ib10.mpr z)
    refine ⟨-2, ?_, ⟨_, rfl, rEq_refl⟩⟩
    by_cases l : x < 0
    · rw [if_pos l]; exact ⟨_, rfl, hc, low_refl⟩
    · rw [if_neg l, if_neg (fun z => hx2 ⟨l, z⟩)]; exact ⟨_, rfl, hc, low_refl⟩
  have hx2 := ib10.mp hx
  simp only [if_pos hx, if_neg q1]
  rw [if_neg hx2.1, if_pos hx2.2]
  obtain ⟨n, hn, rfl⟩ := ib_ex hx
  obtain ⟨M2, e2, c2, s2⟩ := bestSet_ok (N := N) hc hn hN
  obtain ⟨M1, e1, w1, r1, -⟩ := bestPads_ok (N := N) h hr hn hN
  rw [y0_9, y0_1, e2, e1, e_b, e_b]
  exact ⟨_, ⟨_, rfl, c2⟩, ⟨_, rfl, reW_to (raB_W r1) (w1.trans hr.symm)⟩⟩
theorem q_padded {x y : Int32} (hN : 1000 ≤ N) : bth b (fX10_padded N 0 x y) (fX11_padded N 0 x y) := by
  intro Mc Mr hc hr
  have h := hc.1
  have hp := pw h
  unfold fX10_padded fX11_padded
  rw [c_ng hc, r_grd h hr, e_b, e_b, if_pos q0, if_neg q1, show (9 : Int64) = lI (((10 : Nat) : Int) - 1) from rfl, r_in (n := 10) (by omega), e_b, c_isPart, r_isPart, e_b, e_b]
  by_cases hx : sg_ib x 10 = true
  case neg =>
    simp only [if_neg hx, if_pos q0]
    have hx2 : ¬ (¬ x < 0 ∧ x ≤ 9) := fun z => hx (ib10.mpr z)
    refine ⟨-2, ?_, ⟨_, rfl, rEq_refl⟩⟩
    by_cases l : x < 0
    · rw [if_pos l]; exact ⟨_, rfl, hc, low_refl⟩
    · rw [if_neg l, if_pos]
      · exact ⟨_, rfl, hc, low_refl⟩
      · have : ¬ x ≤ 9 := fun z => hx2 ⟨l, z⟩
        rw [Int32.le_iff_toInt_le] at this
        rw [Int32.lt_iff_toInt_lt]
        omega
  have hx2 := ib10.mp hx
  simp only [if_pos hx, if_neg q1]
  have h9 : ¬ 9 < x := by
    have := hx2.2
    rw [Int32.le_iff_toInt_le] at this
    rw [Int32.lt_iff_toInt_lt]
    omega
  rw [if_neg hx2.1, if_neg h9]
  by_cases hy : sg_ib y 2 = true
  case neg => simp only [if_neg hy, if_pos q0]; exact ⟨-2, ⟨_, rfl, hc, low_refl⟩, ⟨_, rfl, rEq_refl⟩⟩
  simp only [if_pos hy, if_neg q1]
  obtain ⟨n, hn, rfl⟩ := ib_ex hx
  obtain ⟨M2, e2, c2, s2⟩ := bestSet_ok (N := N) hc hn hN
  obtain ⟨M1, e1, w1, r1, b1⟩ := bestPads_ok (N := N) h hr hn hN
  rw [y0_9, y0_1, e2, e1, e_b, e_b, y173_2, yn_175, nI_clamp (show n < 2 ^ 31 by omega), y175_n hn]
  cases e : bss b n with
  | none =>
    rw [show oI none = -1 from rfl, if_pos rfl, if_pos rfl]
    exact ⟨_, ⟨_, rfl, c2⟩, ⟨_, rfl, reW_to (raB_W r1) (w1.trans hr.symm)⟩⟩
  | some s =>
    have hs := bss_lt e
    have g := gZ h hs
    have g1 : 0 ≤ (sco (zB b s)).2.1 ∧ (sco (zB b s)).2.1 ≤ 18919194624 := g.2.1
    have g2 : 0 < (sco (zB b s)).2.2 ∧ (sco (zB b s)).2.2 ≤ 169869312 := g.2.2
    have n1 : ¬ oI (some s) = -1 := fun q => by rw [show oI (some s) = nI s from rfl, qn1 (by omega)] at q; exact q
    rw [if_neg n1, if_neg n1, if_pos (ib_nI (by omega) (by omega)), (s2 s e).2.1, (s2 s e).2.2, (b1 s e).2.1, (b1 s e).2.2, c_part (by omega) (by omega) (by omega), r_part (by omega) (by omega) (by omega)]
    exact ⟨_, ⟨_, rfl, c2⟩, ⟨_, rfl, reW_to (raB_W r1) (w1.trans hr.symm)⟩⟩
def pE (b : Nat → Int32) (n : Nat) : Bool := match bss b n with
  | none => false
  | some s => hold (zB b s)
theorem q_enough (hN : 1000 ≤ N) : bth b (fX10_enough N 0) (fX11_enough N 0) := by
  intro Mc Mr hc hr
  have h := hc.1
  have hm := vb_m h
  have cP : cnk (b 5) 9 ≤ gM b := by
    have e : cnk (b 5) 9 = cnk (b 5) (gM b) := cnk_st (vb_P h) 9 hm.2 (by omega)
    have := cnk_le (b 5) (gM b)
    omega
  unfold fX10_enough fX11_enough
  rw [c_ng hc, r_grd h hr, e_b, e_b, if_pos q0, if_neg q1]
  refine ⟨fF (pE b) 10, okA_of ?_, okA_of ?_⟩
  · refine ok_m ?_
    unfold gX10_enough_12
    refine ok_for 0 10 (fun i s M => s = (0, nI i) ∧ cI b M ∧ low Mc M ∧ ∀ j, j < i → pE b j = false) (by omega) (by omega) ⟨rfl, hc, low_refl, fun j hj => absurd hj (by omega)⟩ ?_ ?_
    · rintro i s M back hi ⟨rfl, c1, l1, hno⟩ hb
      unfold bX10_enough_12
      dsimp only
      rw [y0_9, y0_1]
      refine ok_f (show ¬ nI 9 < nI i from nI_nlt (by omega) (by omega)) (ok_a (bestSet_ok (N := N) c1 hi hN) (fun M2 h2 => ?_))
      obtain ⟨⟨c2, l2⟩, s2⟩ := h2
      have go : pE b i = false → ok (back (0, nI i + 1) M2) (fun res => res.1 = fF (pE b) 10 ∧ cI b res.2 ∧ low Mc res.2) := fun z => hb _ _ ⟨by rw [nI_1], c2, low_tr l1 l2, fun j hj => by
        by_cases e : j = i
        · rw [e]; exact z
        · exact hno j (by omega)⟩
      cases e : bss b i with
      | none => exact ok_t rfl (ok_m (go (by unfold pE; rw [e])))
      | some s =>
        have hs := bss_lt e
        have hp := pw h
        have g := gZ h hs
        have e3 : pE b i = wth (gT b) (sco (zB b s)) := by unfold pE; rw [e]; show hold (zB b s) = _; rw [hold_w, (pdv_sm (zB_v h hs)).2.2.1]
        refine ok_f (fun q => by rw [show oI (some s) = nI s from rfl, qn1 (by omega)] at q; exact q) ?_
        rw [y173_2, yn_175, nI_clamp (show i < 2 ^ 31 by omega), y175_n hi, (cI_N c2).1.2.2.1, vb_2 h, c_wth (s2 s e) (vb_T h) g.1 g.2.1 g.2.2, e_b]
        refine ok_t (ib_nI (by omega) (by omega)) ?_
        by_cases w : wth (gT b) (sco (zB b s)) = true
        · rw [if_pos w]
          refine ok_f q1 (ok_some ⟨?_, c2, low_tr l1 l2⟩)
          unfold fF
          rw [fst1_u hi (by rw [e3]; exact w) hno, if_pos hi]
        · rw [if_neg w]
          exact ok_t q0 (ok_m (go (by rw [e3]; simpa using w)))
    · rintro s M back ⟨rfl, c1, l1, hno⟩
      unfold bX10_enough_12
      dsimp only
      refine ok_t (by decide) (ok_some ⟨?_, c1, l1⟩)
      unfold fF
      rw [fst1_n hno, if_neg (by omega)]
  · refine ok_m ?_
    unfold gX11_enough_12
    refine ok_lp (fun m s M => ∃ i, i ≤ gM b - cnk (b 5) 9 + 1 ∧ m = gM b - cnk (b 5) 9 + 1 - i ∧ s = (0, nI i) ∧ M.1 1 = b ∧ reW Mr M ∧ ∀ j, j < i → pE b j = false) ?_ N (gM b - cnk (b 5) 9 + 1) _ Mr ⟨0, (by omega), (Nat.sub_zero _).symm, rfl, hr, reW_refl, fun j hj => absurd hj (by omega)⟩ (by omega)
    rintro m s M back ⟨i, hi, rfl, rfl, w1, r1, hno⟩ hb
    unfold bX11_enough_12
    dsimp only
    rw [r_nd h w1, e_b, yr_1, yl_1, c_5, w1, r_bits (by omega), e_b, nI_sub cP]
    refine ok_t (by decide) ?_
    by_cases q : i = gM b - cnk (b 5) 9 + 1
    · refine ok_t (nI_lt (by omega) (by omega)) (ok_some ⟨?_, reW_to r1 (w1.trans hr.symm)⟩)
      unfold fF
      rw [fst1_n (fun j hj => ?_), if_neg (by omega)]
      by_cases e : j < i
      · exact hno j e
      · unfold pE
        rw [so_no h (by omega)]
    · obtain ⟨s, e⟩ := so_ex h (n := i) (by omega)
      have hs := bss_lt e
      have zv := zB_v h hs
      refine ok_f (nI_nlt (by omega) (by omega)) (ok_t (by decide) ?_)
      rw [w1]
      refine ok_m (ok_a (bestPads_ok (N := N) h w1 (by omega) hN) (fun M2 h2 => ok_t (by decide) (ok_m ?_)))
      have w3 : (sg_uI M2 1 5 (b 5 ||| oI (bss b i))).1 1 = zB b s := by rw [uW h2.1, e]; rfl
      refine ok_a (r_hold (N := N) zv.1 w3 hN) (fun M3 h3 => ok_m (ok_t (by decide) (ok_m ?_)))
      have w4 : (sg_uI M3 1 5 (b 5)).1 1 = b := by rw [uW h3.1.2, pdv_back zv]
      have r4 : reW Mr (sg_uI M3 1 5 (b 5)) := reW_tr r1 (raB_W (raB_tr (raB_tr (raB_tr h2.2.1 raB_1) (raB_s h3.2)) raB_1))
      have e3 : pE b i = hold (zB b s) := by unfold pE; rw [e]
      by_cases w : hold (zB b s) = true
      · rw [if_pos w]
        refine ok_f q1 (ok_some ⟨?_, reW_to r4 (w4.trans hr.symm)⟩)
        unfold fF
        rw [fst1_u (show i < 10 by omega) (by rw [e3]; exact w) hno, if_pos (by omega)]
      · rw [if_neg w]
        exact ok_t q0 (ok_m (hb (gM b - cnk (b 5) 9 + 1 - (i + 1)) _ _ (by omega) ⟨i + 1, (by omega), rfl, by rw [nI_1], w4, r4, fun j hj => by
          by_cases e : j = i
          · rw [e, e3]; simpa using w
          · exact hno j (by omega)⟩))
end ST
