/-! Signs and sizes: A with no positive entry off its diagonal, rows that sum to 0 or more, and none that it takes to 0. -/
def mH (m : Nat) (A : Nat → Nat → Int) : Prop := (∀ j, vm_V m (A j)) ∧ (∀ i j, i < m → j < m → i ≠ j → A j i ≤ 0) ∧ (∀ r, r < m → 0 ≤ fs m (fun j => A j r)) ∧ ∀ z : Nat → Int, (∀ r, r < m → 0 ≤ z r) → (∀ j, j < m → fs m (fun r => A j r * z r) = 0) → ∀ r, r < m → z r = 0
def mN (m : Nat) (A : Nat → Nat → Int) (S : Nat → Bool) : Prop := mX m A S ∧ 0 < mp m A S ∧ (∀ i l, i < m → l < m → 0 ≤ mt m A S i (dt_e l)) ∧ (∀ i j, i < m → j < m → S j = false → i ≠ j → mt m A S i (A j) ≤ 0) ∧ ∀ i, i < m → S i = false → mt m A S i (A i) ≤ mp m A S * A i i
theorem vm_e {m l : Nat} (h : l < m) : vm_V m (dt_e l) := fun r hr => by unfold dt_e; rw [if_neg (by omega)]
theorem mp_empty {m : Nat} {A : Nat → Nat → Int} : mp m A (fun _ => false) = 1 := by
  unfold mp
  rw [show mE A (fun _ => false) = dt_e by funext j; rfl]
  exact dt_id m
theorem mt_empty {m l : Nat} {A : Nat → Nat → Int} {c : Nat → Int} (hl : l < m) (hc : vm_V m c) : mt m A (fun _ => false) l c = c l := by
  have e : mE A (fun _ => false) = dt_e := by funext j; rfl
  rw [mt_units hl hc, fs_one hl]
  · have := mt_own (m := m) (A := A) (S := fun _ => false) (i := l)
    rw [e, mp_empty] at this
    rw [this]
    omega
  · intro q hq hql
    have := mt_other (m := m) (A := A) (S := fun _ => false) hl hq hql
    rw [e] at this
    rw [this]
    omega
theorem mN_empty {m : Nat} {A : Nat → Nat → Int} (H : mH m A) : mN m A (fun _ => false) := by
  refine ⟨mX_empty, by rw [mp_empty]; omega, fun i l hi hl => ?_, fun i j hi hj _ hne => ?_, fun i hi _ => ?_⟩
  · rw [mt_empty hi (vm_e hl)]
    unfold dt_e
    by_cases q : i = l
    · rw [if_pos q]; omega
    · rw [if_neg q]; omega
  · rw [mt_empty hi (H.1 j)]
    exact H.2.1 i j hi hj hne
  · rw [mt_empty hi (H.1 i), mp_empty]
    omega
theorem pos_of_mul {p x : Int} (hp : 0 < p) (h : 0 ≤ p * x) : 0 ≤ x := by
  rcases Int.lt_or_le x 0 with q | q
  · have := Int.mul_neg_of_pos_of_neg hp q
    omega
  · exact q
theorem le_of_mul {p x y : Int} (hp : 0 < p) (h : p * x ≤ p * y) : x ≤ y := by
  have := pos_of_mul hp (x := y - x) (by rw [Int.mul_sub]; omega)
  omega
section SIGNS
variable {m : Nat} {A : Nat → Nat → Int} {S : Nat → Bool}
theorem mt_in {i j : Nat} (hi : i < m) (hj : j < m) (hne : j ≠ i) (h : S j = true) : mt m A S i (A j) = 0 := by
  have := mt_other (m := m) (A := A) (S := S) hi hj hne
  rwa [show mE A S j = A j by unfold mE; rw [h]; rfl] at this
theorem mt_inown {i : Nat} (h : S i = true) : mt m A S i (A i) = mp m A S := by
  have := mt_own (m := m) (A := A) (S := S) (i := i)
  rwa [show mE A S i = A i by unfold mE; rw [h]; rfl] at this
theorem mt_out {i j : Nat} (hi : i < m) (hj : j < m) (hne : j ≠ i) (h : S j = false) : mt m A S i (dt_e j) = 0 := by
  have := mt_other (m := m) (A := A) (S := S) hi hj hne
  rwa [show mE A S j = dt_e j by unfold mE; rw [h]; rfl] at this
theorem mt_outown {i : Nat} (h : S i = false) : mt m A S i (dt_e i) = mp m A S := by
  have := mt_own (m := m) (A := A) (S := S) (i := i)
  rwa [show mE A S i = dt_e i by unfold mE; rw [h]; rfl] at this
theorem mt_dom (H : mH m A) (G : ∀ i l, i < m → l < m → 0 ≤ mt m A S i (dt_e l)) {i : Nat} (hi : i < m) : 0 ≤ fs m (fun j => mt m A S i (A j)) := by
  have h1 := mt_sum (m := m) (A := A) (S := S) hi m (fun _ => 1) A
  have e : (fun r => fs m (fun q => 1 * A q r)) = fun r => fs m (fun q => A q r) := by
    funext r
    exact fs_congr (fun q _ => by omega)
  rw [e, fs_congr (g := fun j => mt m A S i (A j)) (fun q _ => by omega)] at h1
  rw [← h1, mt_units hi (fun r hr => by rw [fs_congr (g := fun _ => 0) (fun q _ => H.1 q r hr), fs_zero])]
  exact fs_nonneg (fun q hq => Int.mul_nonneg (H.2.2.1 q hq) (G i q hi hq))
theorem fs_allzero {n : Nat} {f : Nat → Int} (h : ∀ i, i < n → f i ≤ 0) (hs : 0 ≤ fs n f) : ∀ i, i < n → f i = 0 := by
  induction n with
  | zero => intro i hi; omega
  | succ n ih =>
    have h0 : fs n f ≤ 0 := by
      have := fs_le (n := n) (f := f) (g := fun _ => 0) (fun i hi => h i (by omega))
      rwa [fs_zero] at this
    have hn := h n (by omega)
    rw [fs] at hs
    intro i hi
    by_cases e : i = n
    · subst e; omega
    · exact ih (fun i hi => h i (by omega)) (by omega) i (by omega)
theorem piv_pos (H : mH m A) (G : mN m A S) {k : Nat} (hk : k < m) (hS : S k = false) : 0 < mt m A S k (A k) := by
  obtain ⟨X, hp, he, ha, hb⟩ := G
  rcases Int.lt_or_le 0 (mt m A S k (A k)) with q | q
  · exact q
  · exfalso
    have hd := mt_dom H he hk
    have hz : ∀ j, j < m → mt m A S k (A j) = 0 := fs_allzero (fun j hj => by
      by_cases e : j = k
      · rw [e]; exact q
      · by_cases s : S j = true
        · rw [mt_in hk hj e s]; omega
        · exact ha k j hk hj (by simpa using s) (fun z => e z.symm)) hd
    have := H.2.2.2 (fun r => mt m A S k (dt_e r)) (fun r hr => he k r hk hr) (fun j hj => by rw [← mt_units hk (H.1 j)]; exact hz j hj) k hk
    rw [mt_outown hS] at this
    omega
theorem mN_add (H : mH m A) (G : mN m A S) {k : Nat} (hk : k < m) (hS : S k = false) : mN m A (mS S k) := by
  have hpv := piv_pos H G hk hS
  obtain ⟨X, hp, he, ha, hb⟩ := G
  refine ⟨mX_add X H.1 hk hS (by omega), by rw [mp_add]; exact hpv, fun i l hi hl => ?_, fun i j hi hj hj0 hne => ?_, fun i hi hi0 => ?_⟩
  · by_cases q : i = k
    · rw [q, mt_addk]; exact he k l hk hl
    · apply pos_of_mul hp
      rw [mt_step X hk hi q hS (vm_e hl), mp_add]
      have h1 := Int.mul_nonneg (Int.le_of_lt hpv) (he i l hi hl)
      have h2 := Int.mul_nonneg (show 0 ≤ - mt m A S i (A k) by have := ha i k hi hk hS q; omega) (he k l hk hl)
      rw [Int.neg_mul] at h2
      omega
  · have hjk : j ≠ k := fun q => by rw [q] at hj0; simp [mS] at hj0
    have hj1 : S j = false := by simpa [mS, hjk] using hj0
    by_cases q : i = k
    · rw [q, mt_addk]; exact ha k j hk hj hj1 (fun z => hjk z.symm)
    · have : 0 ≤ - mt m A (mS S k) i (A j) := by
        apply pos_of_mul hp
        rw [Int.mul_neg, mt_step X hk hi q hS (H.1 j), mp_add]
        have h1 := Int.mul_nonneg (Int.le_of_lt hpv) (show 0 ≤ - mt m A S i (A j) by have := ha i j hi hj hj1 hne; omega)
        have h2 := Int.mul_nonneg (show 0 ≤ - mt m A S i (A k) by have := ha i k hi hk hS q; omega) (show 0 ≤ - mt m A S k (A j) by have := ha k j hk hj hj1 (fun z => hjk z.symm); omega)
        rw [Int.mul_neg] at h1
        rw [Int.neg_mul_neg] at h2
        omega
      omega
  · have hik : i ≠ k := fun q => by rw [q] at hi0; simp [mS] at hi0
    have hi1 : S i = false := by simpa [mS, hik] using hi0
    apply le_of_mul hp
    rw [mt_step X hk hi hik hS (H.1 i), mp_add]
    have h2 := Int.mul_nonneg (show 0 ≤ - mt m A S i (A k) by have := ha i k hi hk hS hik; omega) (show 0 ≤ - mt m A S k (A i) by have := ha k i hk hi hi1 (fun z => hik z.symm); omega)
    rw [Int.neg_mul_neg] at h2
    have h3 := Int.mul_le_mul_of_nonneg_left (hb i hi hi1) (Int.le_of_lt hpv)
    have e : mp m A S * (mt m A S k (A k) * A i i) = mt m A S k (A k) * (mp m A S * A i i) := by grind
    rw [e]
    omega
/-- the part of S below n -/
def mC (S : Nat → Bool) (n : Nat) : Nat → Bool := fun j => S j && decide (j < n)
theorem mC_0 : mC S 0 = fun _ => false := by funext j; simp [mC]
theorem mC_in {n : Nat} (h : S n = true) : mC S (n + 1) = mS (mC S n) n := by
  funext j
  unfold mC mS
  by_cases e : j = n
  · simp [e, h]
  · rw [if_neg e]
    congr 1
    exact decide_eq_decide.mpr (by omega)
theorem mC_out {n : Nat} (h : S n = false) : mC S (n + 1) = mC S n := by
  funext j
  unfold mC
  by_cases e : j = n
  · simp [e, h]
  · congr 1
    exact decide_eq_decide.mpr (by omega)
theorem mC_n {n : Nat} : mC S n n = false := by simp [mC]
theorem mN_all (H : mH m A) (S : Nat → Bool) : ∀ n, n ≤ m → mN m A (mC S n) := by
  intro n
  induction n with
  | zero => intro _; rw [mC_0]; exact mN_empty H
  | succ n ih =>
    intro hn
    have G := ih (by omega)
    cases hs : S n with
    | true => rw [mC_in hs]; exact mN_add H G (by omega) mC_n
    | false => rw [mC_out hs]; exact G
def mPr (d : Nat → Int) (S : Nat → Bool) : Nat → Int
  | 0 => 1
  | n + 1 => if S n = true then mPr d S n * d n else mPr d S n
theorem mp_bound (H : mH m A) (S : Nat → Bool) (d : Nat → Int) (hd : ∀ j, j < m → A j j ≤ d j ∧ 0 ≤ d j) : ∀ n, n ≤ m → mp m A (mC S n) ≤ mPr d S n := by
  intro n
  induction n with
  | zero => intro _; rw [mC_0, mp_empty]; exact Int.le_refl _
  | succ n ih =>
    intro hn
    have h1 := ih (by omega)
    have G := mN_all H S n (by omega)
    unfold mPr
    cases hs : S n with
    | true =>
      rw [mC_in hs, mp_add, if_pos rfl]
      have h2 := G.2.2.2.2 n (by omega) mC_n
      have h3 := Int.mul_le_mul_of_nonneg_left (hd n (by omega)).1 (Int.le_of_lt G.2.1)
      have h4 := Int.mul_le_mul_of_nonneg_right h1 (hd n (by omega)).2
      omega
    | false => rw [mC_out hs, if_neg (by simp)]; exact h1
/-- rows that are in: what stands off is no more than p -/
theorem mt_up (H : mH m A) (G : mN m A S) {i j : Nat} (hi : i < m) (hj : j < m) (hs : S i = true) (hj0 : S j = false) : - mt m A S i (A j) ≤ mp m A S := by
  obtain ⟨X, hp, he, ha, hb⟩ := G
  have hd := mt_dom H he hi
  have hne : j ≠ i := fun q => by rw [q, hs] at hj0; cases hj0
  rw [fs_pick hi, mt_inown hs, fs_pick hj, if_neg hne] at hd
  have hz := fs_le (n := m) (f := fun l => if l = j then 0 else if l = i then 0 else mt m A S i (A l)) (g := fun _ => 0) (fun l hl => by
    by_cases q : l = j
    · rw [if_pos q]; omega
    · rw [if_neg q]
      by_cases q2 : l = i
      · rw [if_pos q2]; omega
      · rw [if_neg q2]
        by_cases s : S l = true
        · rw [mt_in hi hl q2 s]; omega
        · exact ha i l hi hl (by simpa using s) (fun z => q2 z.symm))
  rw [fs_zero] at hz
  omega
/-- rows that are out: what stands off is no more than the diagonal -/
theorem mt_dn (H : mH m A) (G : mN m A S) {i j : Nat} (hi : i < m) (hj : j < m) (hs : S i = false) (hj0 : S j = false) (hne : j ≠ i) : - mt m A S i (A j) ≤ mt m A S i (A i) := by
  obtain ⟨X, hp, he, ha, hb⟩ := G
  have hd := mt_dom H he hi
  rw [fs_pick hi, fs_pick hj, if_neg hne] at hd
  have hz := fs_le (n := m) (f := fun l => if l = j then 0 else if l = i then 0 else mt m A S i (A l)) (g := fun _ => 0) (fun l hl => by
    by_cases q : l = j
    · rw [if_pos q]; omega
    · rw [if_neg q]
      by_cases q2 : l = i
      · rw [if_pos q2]; omega
      · rw [if_neg q2]
        by_cases s : S l = true
        · rw [mt_in hi hl q2 s]; omega
        · exact ha i l hi hl (by simpa using s) (fun z => q2 z.symm))
  rw [fs_zero] at hz
  omega
/-- what a unit at l, taken in last, does -/
theorem mt_last (G : mN m A S) {i l : Nat} (hi : i < m) (hl : l < m) (h0 : S l = false) : mt m A (mS S l) i (dt_e l) = if i = l then mp m A S else - mt m A S i (A l) := by
  by_cases q : i = l
  · rw [if_pos q, q, mt_addk, mt_outown h0]
  · rw [if_neg q]
    have h := mt_step G.1 hl hi q h0 (vm_e hl)
    rw [mt_out hi hl (fun z => q z.symm) h0, mt_outown h0] at h
    have h2 : mp m A S * mt m A (mS S l) i (dt_e l) = mp m A S * (- mt m A S i (A l)) := by
      rw [h]
      grind
    exact Int.eq_of_mul_eq_mul_left (by have := G.2.1; omega) h2
end SIGNS
