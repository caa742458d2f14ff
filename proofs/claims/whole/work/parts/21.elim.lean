/-! Elimination without fractions: with E the columns of A where S is, unit columns elsewhere, p = det E, t i c = det E with column i replaced by c. -/
def fs : Nat → (Nat → Int) → Int
  | 0, _ => 0
  | n + 1, f => fs n f + f n
theorem fs_congr {n : Nat} {f g : Nat → Int} (h : ∀ i, i < n → f i = g i) : fs n f = fs n g := by
  induction n with
  | zero => rfl
  | succ n ih => rw [fs, fs, ih (fun i hi => h i (by omega)), h n (by omega)]
theorem fs_zero (n : Nat) : fs n (fun _ => 0) = 0 := by
  induction n with
  | zero => rfl
  | succ n ih => rw [fs, ih]; rfl
theorem fs_add {n : Nat} {f g : Nat → Int} : fs n (fun i => f i + g i) = fs n f + fs n g := by
  induction n with
  | zero => rfl
  | succ n ih => rw [fs, fs, fs, ih]; omega
theorem fs_sub {n : Nat} {f g : Nat → Int} : fs n (fun i => f i - g i) = fs n f - fs n g := by
  induction n with
  | zero => rfl
  | succ n ih => rw [fs, fs, fs, ih]; omega
theorem fs_mul {n : Nat} {x : Int} {f : Nat → Int} : fs n (fun i => x * f i) = x * fs n f := by
  induction n with
  | zero => simp [fs]
  | succ n ih => rw [fs, fs, ih, Int.mul_add]
theorem fs_nonneg {n : Nat} {f : Nat → Int} (h : ∀ i, i < n → 0 ≤ f i) : 0 ≤ fs n f := by
  induction n with
  | zero => exact Int.le_refl _
  | succ n ih =>
    have h1 := ih (fun i hi => h i (by omega))
    have h2 := h n (by omega)
    rw [fs]
    omega
theorem fs_le {n : Nat} {f g : Nat → Int} (h : ∀ i, i < n → f i ≤ g i) : fs n f ≤ fs n g := by
  induction n with
  | zero => exact Int.le_refl _
  | succ n ih =>
    have h1 := ih (fun i hi => h i (by omega))
    have h2 := h n (by omega)
    rw [fs, fs]
    omega
/-- one term apart -/
theorem fs_pick {n k : Nat} {f : Nat → Int} (hk : k < n) : fs n f = fs n (fun i => if i = k then 0 else f i) + f k := by
  induction n with
  | zero => omega
  | succ n ih =>
    rw [fs, fs]
    by_cases e : k = n
    · subst e
      rw [if_pos rfl, fs_congr (f := fun i => if i = k then 0 else f i) (g := f) (fun i hi => if_neg (by omega))]
      omega
    · rw [ih (by omega), if_neg (fun q => e q.symm)]
      omega
theorem fs_one {n k : Nat} {f : Nat → Int} (hk : k < n) (h : ∀ i, i < n → i ≠ k → f i = 0) : fs n f = f k := by
  rw [fs_pick hk, fs_congr (g := fun _ => 0) (fun i hi => by by_cases e : i = k; rw [if_pos e]; rw [if_neg e]; exact h i hi e), fs_zero]
  omega
theorem fs_swap {n m : Nat} {f : Nat → Nat → Int} : fs n (fun i => fs m (fun j => f i j)) = fs m (fun j => fs n (fun i => f i j)) := by
  induction n with
  | zero => simp [fs, fs_zero]
  | succ n ih =>
    have : (fun j => fs (n + 1) (fun i => f i j)) = fun j => fs n (fun i => f i j) + f n j := rfl
    rw [this, fs_add, fs, ih]
/-- vectors of m places -/
def vm_V (m : Nat) (c : Nat → Int) : Prop := ∀ r, m ≤ r → c r = 0
def mE (A : Nat → Nat → Int) (S : Nat → Bool) : Nat → Nat → Int := fun j => if S j = true then A j else dt_e j
def mp (m : Nat) (A : Nat → Nat → Int) (S : Nat → Bool) : Int := dt m (mE A S)
def mt (m : Nat) (A : Nat → Nat → Int) (S : Nat → Bool) (i : Nat) (c : Nat → Int) : Int := dt m (dt_u (mE A S) i c)
def mS (S : Nat → Bool) (k : Nat) : Nat → Bool := fun j => if j = k then true else S j
section ELIM
variable {m : Nat} {A : Nat → Nat → Int} {S : Nat → Bool}
theorem mt_lin {i : Nat} (hi : i < m) (x y : Int) (u v : Nat → Int) : mt m A S i (dx_co x y u v) = x * mt m A S i u + y * mt m A S i v := dt_lin _ x y u v hi
theorem dtu_sum {C : Nat → Nat → Int} {i : Nat} (hi : i < m) (n : Nat) (x : Nat → Int) (u : Nat → Nat → Int) : dt m (dt_u C i (fun r => fs n (fun q => x q * u q r))) = fs n (fun q => x q * dt m (dt_u C i (u q))) := by
  induction n with
  | zero =>
    have h := dt_lin (m := m) C 0 0 (dt_e 0) (dt_e 0) hi
    have e : dx_co 0 0 (dt_e 0) (dt_e 0) = fun r => fs 0 (fun q => x q * u q r) := by funext r; simp [dx_co, fs]
    rw [e] at h
    rw [h]
    simp [fs]
  | succ n ih =>
    have h := dt_lin (m := m) C 1 (x n) (fun r => fs n (fun q => x q * u q r)) (u n) hi
    have e : dx_co 1 (x n) (fun r => fs n (fun q => x q * u q r)) (u n) = fun r => fs (n + 1) (fun q => x q * u q r) := by funext r; simp [dx_co, fs]
    rw [e] at h
    rw [h, fs, ih]
    omega
theorem mt_sum {i : Nat} (hi : i < m) (n : Nat) (x : Nat → Int) (u : Nat → Nat → Int) : mt m A S i (fun r => fs n (fun q => x q * u q r)) = fs n (fun q => x q * mt m A S i (u q)) := dtu_sum hi n x u
theorem vm_units {c : Nat → Int} (h : vm_V m c) : c = fun r => fs m (fun q => c q * dt_e q r) := by
  funext r
  by_cases hr : r < m
  · rw [fs_one hr]
    · simp [dt_e]
    · intro i _ hne
      unfold dt_e
      rw [if_neg (fun q : r = i => hne q.symm), Int.mul_zero]
  · rw [h r (by omega), fs_congr (g := fun _ => 0), fs_zero]
    intro i hi
    simp [dt_e, show ¬ r = i by omega]
theorem mt_units {i : Nat} (hi : i < m) {c : Nat → Int} (h : vm_V m c) : mt m A S i c = fs m (fun q => c q * mt m A S i (dt_e q)) := by
  rw [vm_units h]
  rw [mt_sum hi]
  apply fs_congr
  intro q hq
  congr 1
  have := congrFun (vm_units h) q
  exact this
theorem mt_own {i : Nat} : mt m A S i (mE A S i) = mp m A S := by
  unfold mt mp
  apply dt_congr
  intro j _
  unfold dt_u
  by_cases e : j = i
  · rw [if_pos e, e]
  · rw [if_neg e]
theorem mt_other {i j : Nat} (hi : i < m) (hj : j < m) (hne : j ≠ i) : mt m A S i (mE A S j) = 0 := by
  refine dt_alt2 _ (fun q => hne q.symm) hi hj ?_
  unfold dt_u
  rw [if_pos rfl, if_neg hne]
theorem mE_add {k : Nat} : mE A (mS S k) = dt_u (mE A S) k (A k) := by
  funext j
  unfold mE mS dt_u
  by_cases e : j = k
  · simp [e]
  · simp [e]
theorem mp_add {k : Nat} : mp m A (mS S k) = mt m A S k (A k) := by
  unfold mp mt
  rw [mE_add]
theorem mt_addk {k : Nat} {c : Nat → Int} : mt m A (mS S k) k c = mt m A S k c := by
  unfold mt
  rw [mE_add]
  apply dt_congr
  intro j _
  unfold dt_u
  by_cases e : j = k
  · simp [e]
  · simp [e]
theorem dt_swapu {C : Nat → Nat → Int} {i k : Nat} (hi : i < m) (hk : k < m) (hne : i ≠ k) (a b : Nat → Int) : dt m (dt_u (dt_u C k a) i b) = - dt m (dt_u (dt_u C k b) i a) := by
  have com : ∀ x y : Nat → Int, dt_u (dt_u C k x) i y = dt_u (dt_u C i y) k x := fun x y => by
    funext j
    unfold dt_u
    by_cases e1 : j = i
    · have e2 : ¬ j = k := fun q => hne (e1.symm.trans q)
      rw [if_pos e1, if_neg e2, if_pos e1]
    · by_cases e2 : j = k
      · rw [if_neg e1, if_pos e2, if_pos e2]
      · rw [if_neg e1, if_neg e2, if_neg e2, if_neg e1]
  have z : ∀ x : Nat → Int, dt m (dt_u (dt_u C k x) i x) = 0 := fun x => by
    refine dt_alt2 _ hne hi hk ?_
    unfold dt_u
    rw [if_pos rfl, if_neg (fun q => hne q.symm), if_pos rfl]
  have h := z (dx_co 1 1 a b)
  rw [dt_lin _ 1 1 a b hi, com, com, dt_lin _ 1 1 a b hk, dt_lin _ 1 1 a b hk, ← com, ← com, ← com, ← com, z a, z b] at h
  omega
/-- every vector by the columns of E -/
def mX (m : Nat) (A : Nat → Nat → Int) (S : Nat → Bool) : Prop := ∀ c, vm_V m c → ∀ r, mp m A S * c r = fs m (fun l => mt m A S l c * mE A S l r)
theorem mt_scale {i : Nat} (hi : i < m) (x : Int) (c : Nat → Int) : mt m A S i (fun r => x * c r) = x * mt m A S i c := by
  have h := mt_lin (A := A) (S := S) hi x 0 c c
  have e : dx_co x 0 c c = fun r => x * c r := by funext r; simp [dx_co]
  rw [e] at h
  rw [h]
  omega
theorem mt_step {k i : Nat} (X : mX m A S) (hk : k < m) (hi : i < m) (hne : i ≠ k) (hS : S k = false) {c : Nat → Int} (hc : vm_V m c) : mp m A S * mt m A (mS S k) i c = mp m A (mS S k) * mt m A S i c - mt m A S i (A k) * mt m A S k c := by
  rw [← mt_scale hi]
  have e : (fun r => mp m A S * c r) = fun r => fs m (fun l => mt m A S l c * mE A S l r) := by
    funext r
    exact X c hc r
  rw [e, mt_sum hi, fs_pick hk]
  have ek : mE A S k = dt_e k := by unfold mE; rw [hS]; rfl
  have h1 : mt m A (mS S k) i (mE A S k) = - mt m A S i (A k) := by
    rw [ek]
    unfold mt
    rw [mE_add, dt_swapu hi hk hne]
    congr 1
    apply dt_congr
    intro j _
    unfold dt_u
    by_cases e1 : j = i
    · rw [if_pos e1, if_pos e1]
    · rw [if_neg e1, if_neg e1]
      by_cases e2 : j = k
      · rw [if_pos e2, e2, ek]
      · rw [if_neg e2]
  have h2 : ∀ l, l ≠ k → mE A S l = mE A (mS S k) l := fun l hl => by
    unfold mE mS
    rw [if_neg hl]
  rw [h1]
  rw [fs_one (k := i) hi]
  · rw [if_neg hne, h2 i hne, mt_own]
    grind
  · intro l hl hli
    by_cases q : l = k
    · rw [if_pos q]
    · rw [if_neg q, h2 l q, mt_other hi hl hli]
      omega
theorem mX_empty : mX m A (fun _ => false) := by
  intro c hc r
  have e : mE A (fun _ => false) = dt_e := by funext j; unfold mE; rfl
  have h1 : mp m A (fun _ => false) = 1 := by unfold mp; rw [e]; exact dt_id m
  have h2 : ∀ l, l < m → mt m A (fun _ => false) l c = c l := by
    intro l hl
    rw [mt_units hl hc, fs_one hl]
    · have := mt_own (m := m) (A := A) (S := fun _ => false) (i := l)
      rw [e] at this
      rw [this, h1]
      omega
    · intro q hq hql
      have := mt_other (m := m) (A := A) (S := fun _ => false) hl hq hql
      rw [e] at this
      rw [this]
      omega
  rw [h1, e, fs_congr (g := fun l => c l * dt_e l r) (fun l hl => by rw [h2 l hl])]
  have := congrFun (vm_units hc) r
  rw [← this]
  omega
theorem mX_add {k : Nat} (X : mX m A S) (hA : ∀ j, vm_V m (A j)) (hk : k < m) (hS : S k = false) (hp : mp m A S ≠ 0) : mX m A (mS S k) := by
  intro c hc r
  have ek : mE A S k = dt_e k := by unfold mE; rw [hS]; rfl
  have ek1 : mE A (mS S k) k = A k := by unfold mE mS; simp
  have h2 : ∀ l, l ≠ k → mE A (mS S k) l = mE A S l := fun l hl => by
    unfold mE mS
    rw [if_neg hl]
  have hc1 := X c hc r
  have hc2 := X (A k) (hA k) r
  rw [fs_pick hk, ek] at hc1 hc2
  have key : mp m A S * fs m (fun l => mt m A (mS S k) l c * mE A (mS S k) l r) = mp m A S * (mp m A (mS S k) * c r) := by
    rw [fs_pick hk, ek1, mt_addk, Int.mul_add]
    have hs : mp m A S * fs m (fun l => if l = k then 0 else mt m A (mS S k) l c * mE A (mS S k) l r) = mp m A (mS S k) * fs m (fun l => if l = k then 0 else mt m A S l c * mE A S l r) - mt m A S k c * fs m (fun l => if l = k then 0 else mt m A S l (A k) * mE A S l r) := by
      rw [← fs_mul, ← fs_mul, ← fs_mul, ← fs_sub]
      apply fs_congr
      intro l hl
      by_cases q : l = k
      · simp [q]
      · rw [if_neg q, if_neg q, if_neg q, h2 l q]
        have hst := mt_step X hk hl q hS hc
        grind
    rw [hs]
    rw [← mp_add] at hc2
    grind
  exact (Int.eq_of_mul_eq_mul_left hp key).symm
end ELIM
