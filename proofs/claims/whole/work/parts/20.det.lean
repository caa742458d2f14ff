/-! Determinants by columns (lists of columns, expanded by rows): linear in each column, 0 where two columns are the same, 1 for the unit columns. -/
def dx (d : List (Nat → Int) → Int) (r : Nat) : List (Nat → Int) → List (Nat → Int) → Int
  | _, [] => 0
  | P, c :: cs => c r * d (P ++ cs) - dx d r (P ++ [c]) cs
def dl : Nat → Nat → List (Nat → Int) → Int
  | 0, _, _ => 1
  | n + 1, r, L => dx (dl n (r + 1)) r [] L
def dx_co (x y : Int) (u v : Nat → Int) : Nat → Int := fun r => x * u r + y * v r
def dx_Lin (n : Nat) (d : List (Nat → Int) → Int) : Prop := ∀ (A B : List (Nat → Int)) (x y : Int) (u v : Nat → Int), A.length + B.length + 1 = n → d (A ++ dx_co x y u v :: B) = x * d (A ++ u :: B) + y * d (A ++ v :: B)
def dx_Alt (n : Nat) (d : List (Nat → Int) → Int) : Prop := ∀ (A B : List (Nat → Int)) (c : Nat → Int), A.length + B.length + 2 = n → d (A ++ c :: c :: B) = 0
theorem dx_linP {n r : Nat} {d : List (Nat → Int) → Int} (h : dx_Lin n d) : ∀ (L A B : List (Nat → Int)) (x y : Int) (u v : Nat → Int), A.length + B.length + 1 + L.length = n + 1 → dx d r (A ++ dx_co x y u v :: B) L = x * dx d r (A ++ u :: B) L + y * dx d r (A ++ v :: B) L := by
  intro L
  induction L with
  | nil => intro A B x y u v _; simp [dx]
  | cons c cs ih =>
    intro A B x y u v hl
    have e : ∀ w : Nat → Int, (A ++ w :: B) ++ cs = A ++ w :: (B ++ cs) := fun w => by simp
    have e2 : ∀ w : Nat → Int, (A ++ w :: B) ++ [c] = A ++ w :: (B ++ [c]) := fun w => by simp
    have h1 := h A (B ++ cs) x y u v (by simp at hl ⊢; omega)
    have h2 := ih A (B ++ [c]) x y u v (by simp at hl ⊢; omega)
    simp only [dx, e, e2, h1, h2]
    grind
theorem dx_linL {n r : Nat} {d : List (Nat → Int) → Int} (h : dx_Lin n d) : ∀ (A B P : List (Nat → Int)) (x y : Int) (u v : Nat → Int), P.length + A.length + B.length + 1 = n + 1 → dx d r P (A ++ dx_co x y u v :: B) = x * dx d r P (A ++ u :: B) + y * dx d r P (A ++ v :: B) := by
  intro A
  induction A with
  | nil =>
    intro B P x y u v hl
    have h1 := dx_linP (r := r) h B P [] x y u v (by simp at hl ⊢; omega)
    simp only [List.nil_append, dx, h1, dx_co]
    grind
  | cons a A ih =>
    intro B P x y u v hl
    have h1 := h (P ++ A) B x y u v (by simp at hl ⊢; omega)
    have h2 := ih B (P ++ [a]) x y u v (by simp at hl ⊢; omega)
    have e : ∀ w : Nat → Int, P ++ (A ++ w :: B) = (P ++ A) ++ w :: B := fun w => by simp
    simp only [List.cons_append, dx, h2, e, h1]
    grind
theorem dl_lin : ∀ (n r : Nat), dx_Lin n (dl n r) := by
  intro n
  induction n with
  | zero => intro r A B x y u v h; omega
  | succ n ih =>
    intro r A B x y u v h
    exact dx_linL (ih (r + 1)) A B [] x y u v (by simp; omega)
theorem dx_altP {n r : Nat} {d : List (Nat → Int) → Int} (h : dx_Alt n d) : ∀ (L A B : List (Nat → Int)) (c : Nat → Int), A.length + B.length + 2 + L.length = n + 1 → dx d r (A ++ c :: c :: B) L = 0 := by
  intro L
  induction L with
  | nil => intro A B c _; simp [dx]
  | cons a L ih =>
    intro A B c hl
    have e : (A ++ c :: c :: B) ++ L = A ++ c :: c :: (B ++ L) := by simp
    have e2 : (A ++ c :: c :: B) ++ [a] = A ++ c :: c :: (B ++ [a]) := by simp
    simp only [dx, e, e2, h A (B ++ L) c (by simp at hl ⊢; omega), ih A (B ++ [a]) c (by simp at hl ⊢; omega)]
    simp
theorem dx_altL {n r : Nat} {d : List (Nat → Int) → Int} (h : dx_Alt n d) : ∀ (A B P : List (Nat → Int)) (c : Nat → Int), P.length + A.length + B.length + 2 = n + 1 → dx d r P (A ++ c :: c :: B) = 0 := by
  intro A
  induction A with
  | nil =>
    intro B P c hl
    have h1 := dx_altP (r := r) h B P [] c (by simp at hl ⊢; omega)
    have e : (P ++ [c]) ++ [c] = P ++ c :: c :: [] := by simp
    have e2 : P ++ c :: B = (P ++ [c]) ++ B := by simp
    simp only [List.nil_append, dx, e, h1, e2]
    omega
  | cons a A ih =>
    intro B P c hl
    have e : P ++ (A ++ c :: c :: B) = (P ++ A) ++ c :: c :: B := by simp
    simp only [List.cons_append, dx, ih B (P ++ [a]) c (by simp at hl ⊢; omega), e, h (P ++ A) B c (by simp at hl ⊢; omega)]
    simp
theorem dl_alt : ∀ (n r : Nat), dx_Alt n (dl n r) := by
  intro n
  induction n with
  | zero => intro r A B c h; omega
  | succ n ih =>
    intro r A B c h
    exact dx_altL (ih (r + 1)) A B [] c (by simp; omega)
theorem dl_swap {n r : Nat} (A B : List (Nat → Int)) (a b : Nat → Int) (h : A.length + B.length + 2 = n) : dl n r (A ++ a :: b :: B) = - dl n r (A ++ b :: a :: B) := by
  have L1 := dl_lin n r
  have k0 := dl_alt n r A B (dx_co 1 1 a b) h
  have e1 := L1 A (dx_co 1 1 a b :: B) 1 1 a b (by simp; omega)
  have e2 := L1 (A ++ [a]) B 1 1 a b (by simp; omega)
  have e3 := L1 (A ++ [b]) B 1 1 a b (by simp; omega)
  have s : ∀ (p q : Nat → Int), (A ++ [p]) ++ q :: B = A ++ p :: q :: B := fun p q => by simp
  rw [s, s, s] at e2 e3
  have a1 := dl_alt n r A B a h
  have a2 := dl_alt n r A B b h
  rw [e1, e2, e3, a1, a2] at k0
  omega
theorem dl_eq0 {n r : Nat} (c : Nat → Int) : ∀ (Mi A B : List (Nat → Int)), A.length + Mi.length + B.length + 2 = n → dl n r (A ++ c :: (Mi ++ c :: B)) = 0 := by
  intro Mi
  induction Mi with
  | nil => intro A B h; exact dl_alt n r A B c (by simp at h; omega)
  | cons x Mi ih =>
    intro A B h
    have e := dl_swap (n := n) (r := r) A (Mi ++ c :: B) c x (by simp at h ⊢; omega)
    rw [List.cons_append, e]
    have := ih (A ++ [x]) B (by simp at h ⊢; omega)
    rw [show (A ++ [x]) ++ c :: (Mi ++ c :: B) = A ++ x :: c :: (Mi ++ c :: B) by simp] at this
    omega
theorem dx_zero {d : List (Nat → Int) → Int} {r : Nat} : ∀ (L P : List (Nat → Int)), (∀ c ∈ L, c r = 0) → dx d r P L = 0 := by
  intro L
  induction L with
  | nil => intro P _; rfl
  | cons c L ih =>
    intro P h
    simp only [dx, h c List.mem_cons_self, ih (P ++ [c]) (fun x hx => h x (List.mem_cons_of_mem _ hx))]
    simp
def dt_e (j : Nat) : Nat → Int := fun r => if r = j then 1 else 0
theorem dl_id : ∀ (n r : Nat), dl n r ((List.range n).map (fun j => dt_e (r + j))) = 1 := by
  intro n
  induction n with
  | zero => intro r; rfl
  | succ n ih =>
    intro r
    have e : (List.range (n + 1)).map (fun j => dt_e (r + j)) = dt_e r :: (List.range n).map (fun j => dt_e (r + 1 + j)) := by
      rw [List.range_succ_eq_map, List.map_cons, List.map_map]
      congr 1
      apply List.map_congr_left
      intro j _
      show dt_e (r + (j + 1)) = dt_e (r + 1 + j)
      congr 1
      omega
    rw [e]
    show dt_e r r * dl n (r + 1) ([] ++ _) - dx (dl n (r + 1)) r ([] ++ [dt_e r]) _ = 1
    rw [List.nil_append, ih (r + 1), dx_zero]
    · simp [dt_e]
    · intro c hc
      obtain ⟨j, -, rfl⟩ := List.mem_map.mp hc
      simp only [dt_e]
      rw [if_neg (by omega)]
/-- the determinant of m columns -/
def dt (m : Nat) (C : Nat → Nat → Int) : Int := dl m 0 ((List.range m).map C)
def dt_u (C : Nat → Nat → Int) (i : Nat) (w : Nat → Int) : Nat → Nat → Int := fun j => if j = i then w else C j
theorem dt_split {m i : Nat} (C : Nat → Nat → Int) (h : i < m) : (List.range m).map C = (List.range i).map C ++ C i :: (List.range (m - i - 1)).map (fun j => C (i + 1 + j)) := by
  apply List.ext_getElem?
  intro k
  by_cases h1 : k < i
  · rw [List.getElem?_append_left (by simpa using h1), List.getElem?_map, List.getElem?_map, List.getElem?_range (by omega), List.getElem?_range h1]
  · rw [List.getElem?_append_right (by simp; omega)]
    simp only [List.length_map, List.length_range]
    by_cases h2 : k = i
    · subst h2
      rw [List.getElem?_map, List.getElem?_range h, Nat.sub_self]
      rfl
    · obtain ⟨q, hq⟩ : ∃ q, k - i = q + 1 := ⟨k - i - 1, by omega⟩
      rw [hq, List.getElem?_cons_succ, List.getElem?_map, List.getElem?_map]
      by_cases h3 : k < m
      · rw [List.getElem?_range h3, List.getElem?_range (by omega)]
        show some (C k) = some (C (i + 1 + q))
        rw [show i + 1 + q = k by omega]
      · rw [List.getElem?_eq_none (by simp; omega), List.getElem?_eq_none (by simp; omega)]
        rfl
theorem dt_usplit {m i : Nat} (C : Nat → Nat → Int) (w : Nat → Int) (h : i < m) : (List.range m).map (dt_u C i w) = (List.range i).map C ++ w :: (List.range (m - i - 1)).map (fun j => C (i + 1 + j)) := by
  rw [dt_split _ h]
  congr 1
  · apply List.map_congr_left
    intro j hj
    simp only [dt_u]
    rw [if_neg (by have := List.mem_range.mp hj; omega)]
  · congr 1
    · simp [dt_u]
    · apply List.map_congr_left
      intro j hj
      simp only [dt_u]
      rw [if_neg (by omega)]
theorem dt_lin {m i : Nat} (C : Nat → Nat → Int) (x y : Int) (u v : Nat → Int) (h : i < m) : dt m (dt_u C i (dx_co x y u v)) = x * dt m (dt_u C i u) + y * dt m (dt_u C i v) := by
  unfold dt
  rw [dt_usplit _ _ h, dt_usplit _ _ h, dt_usplit _ _ h]
  exact dl_lin m 0 _ _ x y u v (by simp; omega)
theorem dt_congr {m : Nat} {C C' : Nat → Nat → Int} (h : ∀ j, j < m → C j = C' j) : dt m C = dt m C' := by
  unfold dt
  congr 1
  apply List.map_congr_left
  intro j hj
  exact h j (List.mem_range.mp hj)
theorem dt_alt {m i j : Nat} (C : Nat → Nat → Int) (hi : i < j) (hj : j < m) (h : C i = C j) : dt m C = 0 := by
  unfold dt
  rw [dt_split C (show i < m by omega)]
  have e : (List.range (m - i - 1)).map (fun q => C (i + 1 + q)) = (List.range (j - i - 1)).map (fun q => C (i + 1 + q)) ++ C j :: (List.range (m - j - 1)).map (fun q => C (j + 1 + q)) := by
    rw [dt_split (i := j - i - 1) (fun q => C (i + 1 + q)) (by omega)]
    congr 1
    congr 1
    · show C (i + 1 + (j - i - 1)) = C j
      rw [show i + 1 + (j - i - 1) = j by omega]
    · rw [show m - i - 1 - (j - i - 1) - 1 = m - j - 1 by omega]
      apply List.map_congr_left
      intro q _
      show C (i + 1 + (j - i - 1 + 1 + q)) = C (j + 1 + q)
      rw [show i + 1 + (j - i - 1 + 1 + q) = j + 1 + q by omega]
  rw [e, h]
  exact dl_eq0 (C j) _ _ _ (by simp; omega)
theorem dt_alt2 {m i j : Nat} (C : Nat → Nat → Int) (hne : i ≠ j) (hi : i < m) (hj : j < m) (h : C i = C j) : dt m C = 0 := by
  rcases Nat.lt_or_gt_of_ne hne with q | q
  · exact dt_alt C q hj h
  · exact dt_alt C q hi h.symm
theorem dt_id (m : Nat) : dt m dt_e = 1 := by
  have := dl_id m 0
  simpa [dt] using this
