/-! the elimination, pivot by pivot: its numbers at stage k -/
def Sk (k : Nat) : Nat → Bool := fun j => decide (j < k)
theorem Sk_C {k : Nat} : mC (fun _ => true) k = Sk k := by funext j; unfold mC Sk; rw [Bool.true_and]
theorem Sk_succ {k : Nat} : Sk (k + 1) = mS (Sk k) k := by
  funext j
  unfold Sk mS
  by_cases e : j = k
  · subst e; simp
  · rw [if_neg e]; exact decide_eq_decide.mpr (by omega)
theorem Sk_0 : Sk 0 = fun _ => false := by funext j; unfold Sk; simp
section KK
variable {c r : Nat} {w : Nat → Nat} {P : Int32}
abbrev uM (c r : Nat) (w : Nat → Nat) (P : Int32) : Nat := (Ul (unk c r w P) (c * r)).length
abbrev uA (c r : Nat) (w : Nat → Nat) (P : Int32) : Nat → Nat → Int := mA c r w (unk c r w P)
abbrev pK (c r : Nat) (w : Nat → Nat) (P : Int32) (k : Nat) : Int := mp (uM c r w P) (uA c r w P) (Sk k)
abbrev tK (c r : Nat) (w : Nat → Nat) (P : Int32) (k i : Nat) (b : Nat → Int) : Int := mt (uM c r w P) (uA c r w P) (Sk k) i b
theorem mN_k (hs : shp c r) {k : Nat} (hk : k ≤ uM c r w P) : mN (uM c r w P) (uA c r w P) (Sk k) := by
  rw [← Sk_C]
  exact mN_all (mA_H hs) _ k hk
theorem Sk_out {k : Nat} (hk : k ≤ uM c r w P) : ∀ j, uM c r w P ≤ j → Sk k j = false := fun j hj => decide_eq_false (by omega)
theorem pK_pos (hs : shp c r) {k : Nat} (hk : k ≤ uM c r w P) : 0 < pK c r w P k := (mN_k hs hk).2.1
theorem pK_le (hs : shp c r) (hw : ∀ s, s < ns c r → w s ≤ 4) (hP : ∀ v, v < 32 → bt P v = true → v < c * r) {k : Nat} (hk : k ≤ uM c r w P) : pK c r w P k ≤ 169869312 := mp_le1 hs hw hP _ (Sk_out hk)
theorem pK_0 : pK c r w P 0 = 1 := by
  show mp _ _ (Sk 0) = 1
  rw [Sk_0]
  exact mp_empty
theorem tK_0 {i : Nat} {b : Nat → Int} (hi : i < uM c r w P) (hb : vm_V (uM c r w P) b) : tK c r w P 0 i b = b i := by
  show mt _ _ (Sk 0) i b = _
  rw [Sk_0]
  exact mt_empty hi hb
theorem pK_succ {k : Nat} : pK c r w P (k + 1) = tK c r w P k k (uA c r w P k) := by
  show mp _ _ (Sk (k + 1)) = _
  rw [Sk_succ]
  exact mp_add
theorem tK_own {k : Nat} {b : Nat → Int} : tK c r w P (k + 1) k b = tK c r w P k k b := by
  show mt _ _ (Sk (k + 1)) k b = _
  rw [Sk_succ]
  exact mt_addk
theorem tK_step (hs : shp c r) {k i : Nat} {b : Nat → Int} (hk : k < uM c r w P) (hi : i < uM c r w P) (hne : i ≠ k) (hb : vm_V (uM c r w P) b) : pK c r w P k * tK c r w P (k + 1) i b = pK c r w P (k + 1) * tK c r w P k i b - tK c r w P k i (uA c r w P k) * tK c r w P k k b := by
  have h := mt_step (mN_k (w := w) (P := P) hs (show k ≤ uM c r w P by omega)).1 hk hi hne (decide_eq_false (by omega)) hb
  rw [← Sk_succ] at h
  exact h
/-- columns of the matrix that are not in yet -/
theorem tK_A (hs : shp c r) (hw : ∀ s, s < ns c r → w s ≤ 4) (hP : ∀ v, v < 32 → bt P v = true → v < c * r) {k i j : Nat} (hk : k ≤ uM c r w P) (hi : i < uM c r w P) (hj : j < uM c r w P) (hkj : k ≤ j) : -169869312 ≤ tK c r w P k i (uA c r w P j) ∧ tK c r w P k i (uA c r w P j) ≤ 169869312 := by
  have G := mN_k (w := w) (P := P) hs hk
  have H := mA_H (w := w) (P := P) hs
  have hj0 : Sk k j = false := decide_eq_false (by omega)
  have hp := pK_le (P := P) hs hw hP hk
  have diag : ∀ q, q < uM c r w P → k ≤ q → 0 < tK c r w P k q (uA c r w P q) ∧ tK c r w P k q (uA c r w P q) ≤ 169869312 := fun q hq hkq => by
    refine ⟨piv_pos H G hq (decide_eq_false (by omega)), ?_⟩
    have := mp_le1 (P := P) hs hw hP (mS (Sk k) q) (fun z hz => by unfold mS; rw [if_neg (by show ¬ z = q; have : uM c r w P ≤ z := hz; omega)]; exact Sk_out hk z hz)
    rw [mp_add] at this
    exact this
  by_cases e : i = j
  · subst e
    have := diag i hi hkj
    omega
  · have hneg := G.2.2.2.1 i j hi hj hj0 e
    by_cases q : i < k
    · have := mt_up H G hi hj (decide_eq_true q) hj0
      constructor
      · have : - tK c r w P k i (uA c r w P j) ≤ pK c r w P k := this
        omega
      · have : tK c r w P k i (uA c r w P j) ≤ 0 := hneg
        omega
    · have h1 := mt_dn H G hi hj (decide_eq_false q) hj0 (fun z => e z.symm)
      have h2 := diag i hi (by omega)
      constructor
      · have : - tK c r w P k i (uA c r w P j) ≤ tK c r w P k i (uA c r w P i) := h1
        omega
      · have : tK c r w P k i (uA c r w P j) ≤ 0 := hneg
        omega
/-- unit columns -/
theorem tK_e (hs : shp c r) (hw : ∀ s, s < ns c r → w s ≤ 4) (hP : ∀ v, v < 32 → bt P v = true → v < c * r) {k i l : Nat} (hk : k ≤ uM c r w P) (hi : i < uM c r w P) (hl : l < uM c r w P) : 0 ≤ tK c r w P k i (dt_e l) ∧ tK c r w P k i (dt_e l) ≤ 21233664 := by
  have G := mN_k (w := w) (P := P) hs hk
  have H := mA_H (w := w) (P := P) hs
  refine ⟨G.2.2.1 i l hi hl, ?_⟩
  by_cases q : l < k
  · have G1 := mN_all (mA_H (w := w) (P := P) hs) (fun j => decide (j ≠ l)) k hk
    have hS1 : ∀ j, uM c r w P ≤ j → mC (fun j => decide (j ≠ l)) k j = false := fun j hj => by unfold mC; rw [decide_eq_false (show ¬ j < k by omega), Bool.and_false]
    have hl0 : mC (fun j => decide (j ≠ l)) k l = false := by unfold mC; simp
    have e1 : mS (mC (fun j => decide (j ≠ l)) k) l = Sk k := by
      funext j
      unfold mS mC Sk
      by_cases z : j = l
      · subst z; simp [q]
      · simp [z]
    have h1 := mt_last G1 hi hl hl0
    rw [e1] at h1
    show mt _ _ _ _ _ ≤ _
    rw [h1]
    have b1 := mp_le2 (P := P) hs hw hP _ hS1 hl hl0
    by_cases e : i = l
    · rw [if_pos e]; exact b1
    · rw [if_neg e]
      by_cases qi : i < k
      · have := mt_up H G1 hi hl (by unfold mC; simp [e, qi]) hl0
        omega
      · have hi0 : mC (fun j => decide (j ≠ l)) k i = false := by unfold mC; rw [decide_eq_false qi, Bool.and_false]
        have h2 := mt_dn H G1 hi hl hi0 hl0 (fun z => e z.symm)
        have b2 := mp_le2 (P := P) hs hw hP (mS (mC (fun j => decide (j ≠ l)) k) i) (fun j hj => by unfold mS; rw [if_neg (by have : uM c r w P ≤ j := hj; omega)]; exact hS1 j hj) hl (by unfold mS; rw [if_neg (fun z => e z.symm)]; exact hl0)
        rw [mp_add] at b2
        omega
  · have hl0 : Sk k l = false := decide_eq_false q
    by_cases e : i = l
    · subst e
      have := mp_le2 (P := P) hs hw hP _ (Sk_out hk) hi hl0
      show mt _ _ _ _ _ ≤ _
      rw [mt_outown hl0]
      exact this
    · show mt _ _ _ _ _ ≤ _
      rw [mt_out hi hl (fun z => e z.symm) hl0]
      omega
/-- the loads' column -/
def bV (c r : Nat) (w : Nat → Nat) (P : Int32) (L : Nat → Nat) : Nat → Int := fun q => if q < uM c r w P then (L ((Ul (unk c r w P) (c * r)).getD q 0) : Int) else 0
theorem bV_V {L : Nat → Nat} : vm_V (uM c r w P) (bV c r w P L) := fun q hq => if_neg (by omega)
theorem fs_const {n : Nat} {x : Int} : fs n (fun _ => x) = n * x := by
  induction n with
  | zero => simp [fs]
  | succ n ih => rw [fs, ih]; push_cast; grind
theorem tK_b (hs : shp c r) (hw : ∀ s, s < ns c r → w s ≤ 4) (hP : ∀ v, v < 32 → bt P v = true → v < c * r) {L : Nat → Nat} (hL : ∀ v, v < c * r → L v ≤ 99) {k i : Nat} (hk : k ≤ uM c r w P) (hi : i < uM c r w P) : 0 ≤ tK c r w P k i (bV c r w P L) ∧ tK c r w P k i (bV c r w P L) ≤ 18919194624 := by
  have h9 := hs.2.2
  have hm := Ul_len (unk c r w P) (c * r)
  have e := mt_units (m := uM c r w P) (A := uA c r w P) (S := Sk k) hi (bV_V (c := c) (r := r) (w := w) (P := P) (L := L))
  have hterm : ∀ q, q < uM c r w P → 0 ≤ bV c r w P L q * tK c r w P k i (dt_e q) ∧ bV c r w P L q * tK c r w P k i (dt_e q) ≤ 99 * 21233664 := fun q hq => by
    have h1 := tK_e (P := P) hs hw hP hk hi hq
    have h2 : 0 ≤ bV c r w P L q ∧ bV c r w P L q ≤ 99 := by
      unfold bV
      rw [if_pos hq]
      have := hL _ (Ul_at hq).1
      omega
    exact ⟨Int.mul_nonneg h2.1 h1.1, Int.mul_le_mul h2.2 h1.2 h1.1 (by omega)⟩
  constructor
  · show 0 ≤ mt _ _ _ _ _
    rw [e]
    exact fs_nonneg (fun q hq => (hterm q hq).1)
  · show mt _ _ _ _ _ ≤ _
    rw [e]
    have := fs_le (n := uM c r w P) (f := fun q => bV c r w P L q * tK c r w P k i (dt_e q)) (g := fun _ => 99 * 21233664) (fun q hq => (hterm q hq).2)
    rw [fs_const] at this
    have hm2 : (uM c r w P : Int) ≤ 9 := by have : uM c r w P ≤ c * r := hm; omega
    have h3 := Int.mul_le_mul_of_nonneg_right hm2 (show (0 : Int) ≤ 99 * 21233664 by omega)
    refine Int.le_trans this (Int.le_trans h3 ?_)
    omega
end KK
theorem lg0 {x y : Int64} : lg_cmp x y = 0 ↔ x = y := by
  unfold lg_cmp
  by_cases h : x > y
  · rw [if_pos h]
    constructor
    · intro z; exact absurd z (by decide)
    · intro z; rw [z] at h; exact absurd h (Int64.lt_irrefl)
  · rw [if_neg h]
    by_cases e : x = y
    · rw [if_pos e]; simp [e]
    · rw [if_neg e]
      constructor
      · intro z; exact absurd z (by decide)
      · intro z; exact absurd z e
/-- one place of a row -/
theorem elim1 {p a x b y z : Int} (hp : 0 < p ∧ p ≤ 169869312) (ha : -169869312 ≤ a ∧ a ≤ 169869312) (hb : -169869312 ≤ b ∧ b ≤ 169869312) (hx : -18919194624 ≤ x ∧ x ≤ 18919194624) (hy : -18919194624 ≤ y ∧ y ≤ 18919194624) (h : p * z = a * x - b * y) : (lI a * lI x - lI b * lI y) / lI p = lI z := by
  rw [lI_mul, lI_mul, lI_sub]
  have b1 : ∀ (u v : Int), -169869312 ≤ u ∧ u ≤ 169869312 → -18919194624 ≤ v ∧ v ≤ 18919194624 → -3213790578617450496 ≤ u * v ∧ u * v ≤ 3213790578617450496 := by
    intro u v hu hv
    have e1 : u.natAbs ≤ 169869312 := by omega
    have e2 : v.natAbs ≤ 18919194624 := by omega
    have e3 := Nat.mul_le_mul e1 e2
    rw [← Int.natAbs_mul] at e3
    omega
  have h1 := b1 a x ha hx
  have h2 := b1 b y hb hy
  exact lI_div (by omega) (by omega) (by omega) (by omega) (by omega) (by omega)
