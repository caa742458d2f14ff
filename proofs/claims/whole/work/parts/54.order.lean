/-! what 1 drawn at one does to another one: the same the other way round -/
section SY
variable {c r : Nat} {w : Nat → Nat} {P : Int32}
theorem uA_sym (i j : Nat) : uA c r w P i j = uA c r w P j i := by
  show mA c r w (unk c r w P) i j = mA c r w (unk c r w P) j i
  unfold mA
  by_cases h : j < (Ul (unk c r w P) (c * r)).length ∧ i < (Ul (unk c r w P) (c * r)).length
  · rw [if_pos h, if_pos ⟨h.2, h.1⟩, LnK_sym]
  · rw [if_neg h, if_neg (fun z => h ⟨z.2, z.1⟩)]
theorem tK_inv (hs : shp c r) {j q : Nat} (hj : j < uM c r w P) : fs (uM c r w P) (fun l => tK c r w P (uM c r w P) l (dt_e j) * uA c r w P l q) = pK c r w P (uM c r w P) * (if q = j then 1 else 0) := by
  have X := (mN_k (w := w) (P := P) hs (Nat.le_refl (uM c r w P))).1
  have := X (dt_e j) (vm_e hj) q
  rw [show dt_e j q = if q = j then 1 else 0 from rfl] at this
  rw [this]
  refine fs_congr (fun l hl => ?_)
  unfold mE
  rw [if_pos (show Sk (uM c r w P) l = true from decide_eq_true hl)]
theorem fs_mul2 {n : Nat} {x : Int} {f : Nat → Int} : x * fs n f = fs n (fun i => x * f i) := fs_mul.symm
theorem tK_sym (hs : shp c r) {i j : Nat} (hi : i < uM c r w P) (hj : j < uM c r w P) : tK c r w P (uM c r w P) i (dt_e j) = tK c r w P (uM c r w P) j (dt_e i) := by
  have hp := pK_pos (w := w) (P := P) hs (Nat.le_refl (uM c r w P))
  have key : ∀ i j, i < uM c r w P → j < uM c r w P → fs (uM c r w P) (fun q => tK c r w P (uM c r w P) q (dt_e j) * fs (uM c r w P) (fun l => tK c r w P (uM c r w P) l (dt_e i) * uA c r w P l q)) = pK c r w P (uM c r w P) * tK c r w P (uM c r w P) i (dt_e j) := fun i j hi hj => by
    rw [fs_one hi (fun q hq hne => ?_)]
    · rw [tK_inv hs hi, if_pos rfl, Int.mul_one, Int.mul_comm]
    · rw [tK_inv hs hi, if_neg hne, Int.mul_zero, Int.mul_zero]
  have e1 := key i j hi hj
  have e2 := key j i hj hi
  have e3 : fs (uM c r w P) (fun q => tK c r w P (uM c r w P) q (dt_e j) * fs (uM c r w P) (fun l => tK c r w P (uM c r w P) l (dt_e i) * uA c r w P l q)) = fs (uM c r w P) (fun q => tK c r w P (uM c r w P) q (dt_e i) * fs (uM c r w P) (fun l => tK c r w P (uM c r w P) l (dt_e j) * uA c r w P l q)) := by
    have a1 : fs (uM c r w P) (fun q => tK c r w P (uM c r w P) q (dt_e j) * fs (uM c r w P) (fun l => tK c r w P (uM c r w P) l (dt_e i) * uA c r w P l q)) = fs (uM c r w P) (fun q => fs (uM c r w P) (fun l => tK c r w P (uM c r w P) q (dt_e j) * (tK c r w P (uM c r w P) l (dt_e i) * uA c r w P l q))) := fs_congr (fun q _ => fs_mul2)
    have a2 : fs (uM c r w P) (fun q => tK c r w P (uM c r w P) q (dt_e i) * fs (uM c r w P) (fun l => tK c r w P (uM c r w P) l (dt_e j) * uA c r w P l q)) = fs (uM c r w P) (fun q => fs (uM c r w P) (fun l => tK c r w P (uM c r w P) q (dt_e i) * (tK c r w P (uM c r w P) l (dt_e j) * uA c r w P l q))) := fs_congr (fun q _ => fs_mul2)
    rw [a1, a2, fs_swap]
    refine fs_congr (fun l _ => fs_congr (fun q _ => ?_))
    rw [uA_sym l q, ← Int.mul_assoc, ← Int.mul_assoc, Int.mul_comm (tK c r w P (uM c r w P) q (dt_e j))]
  have e4 := e1.symm.trans (e3.trans e2)
  exact Int.eq_of_mul_eq_mul_left (show pK c r w P (uM c r w P) ≠ 0 by omega) e4
theorem mv_sym (hs : shp c r) {u v : Nat} (hu : u < c * r) (hv : v < c * r) : mv c r w P u v = mv c r w P v u := by
  unfold mv
  by_cases h : unk c r w P u = true ∧ unk c r w P v = true
  · rw [if_pos h, if_pos ⟨h.2, h.1⟩, tK_sym hs (Ul_in hu h.1).1 (Ul_in hv h.2).1]
  · rw [if_neg h, if_neg (fun z => h ⟨z.2, z.1⟩)]
end SY
/-! rows in order -/
section OR
variable {m : Nat → Int}
/-- u is ahead of v -/
def ahd (m : Nat → Int) (u v : Nat) : Prop := m v < m u ∨ (m u = m v ∧ u < v)
theorem ahd_tr {u v x : Nat} (h : ahd m u v) (h2 : ahd m v x) : ahd m u x := by unfold ahd at *; omega
theorem ahd_no {u v : Nat} (h : ahd m u v) : ¬ ahd m v u := by unfold ahd at *; omega
theorem ahd_or {u v : Nat} (h : u ≠ v) : ahd m u v ∨ ahd m v u := by unfold ahd; omega
def srt (m : Nat → Int) (l : List Nat) : Prop := l.Pairwise (ahd m)
theorem srt_u : ∀ {l l2 : List Nat}, srt m l → srt m l2 → (∀ x, x ∈ l ↔ x ∈ l2) → l = l2 := by
  intro l
  induction l with
  | nil =>
    intro l2 _ _ h
    cases l2 with
    | nil => rfl
    | cons x l2 => exact absurd ((h x).mpr (List.mem_cons_self ..)) (by simp)
  | cons a l ih =>
    intro l2 h1 h2 h
    cases l2 with
    | nil => exact absurd ((h a).mp (List.mem_cons_self ..)) (by simp)
    | cons c l2 =>
      have p1 := List.pairwise_cons.mp h1
      have p2 := List.pairwise_cons.mp h2
      have e : a = c := by
        apply Classical.byContradiction
        intro hne
        have m1 : a ∈ l2 := by
          rcases List.mem_cons.mp ((h a).mp (List.mem_cons_self ..)) with z | z
          · exact absurd z hne
          · exact z
        have m2 : c ∈ l := by
          rcases List.mem_cons.mp ((h c).mpr (List.mem_cons_self ..)) with z | z
          · exact absurd z.symm hne
          · exact z
        exact ahd_no (p1.1 c m2) (p2.1 a m1)
      subst e
      rw [ih p1.2 p2.2 (fun x => ?_)]
      have hx := h x
      rw [List.mem_cons, List.mem_cons] at hx
      constructor
      · intro z
        rcases hx.mp (Or.inr z) with y | y
        · subst y; exact absurd (p1.1 x z) (fun q => ahd_no q q)
        · exact y
      · intro z
        rcases hx.mpr (Or.inr z) with y | y
        · subst y; exact absurd (p2.1 x z) (fun q => ahd_no q q)
        · exact y
/-- put in where it belongs -/
theorem srt_ins {l : List Nat} {k v : Nat} (h : srt m l) (hk : k ≤ l.length) (hv : v ∉ l) (ha : ∀ j, k ≤ j → j < l.length → ahd m v (l.getD j 0)) (hb : k = 0 ∨ ¬ ahd m v (l.getD (k - 1) 0)) : srt m (l.take k ++ v :: l.drop k) := by
  have gm : ∀ j, j < l.length → l.getD j 0 ∈ l := fun j hj => by
    rw [List.getD_eq_getElem?_getD, List.getElem?_eq_getElem hj]
    exact List.getElem_mem hj
  have pw : ∀ i j, i < j → j < l.length → ahd m (l.getD i 0) (l.getD j 0) := fun i j hij hj => by
    have := List.pairwise_iff_getElem.mp h i j (by omega) hj hij
    rw [List.getD_eq_getElem?_getD, List.getElem?_eq_getElem (by omega : i < l.length), List.getD_eq_getElem?_getD, List.getElem?_eq_getElem hj]
    exact this
  have up : ∀ j, j < k → ahd m (l.getD j 0) v := fun j hj => by
    rcases hb with z | z
    · omega
    · have e : ahd m (l.getD (k - 1) 0) v := by
        rcases ahd_or (m := m) (show v ≠ l.getD (k - 1) 0 from fun q => hv (q ▸ gm (k - 1) (by omega))) with y | y
        · exact absurd y z
        · exact y
      by_cases q : j = k - 1
      · rw [q]; exact e
      · exact ahd_tr (pw j (k - 1) (by omega) (by omega)) e
  have h3 : (l.take k ++ l.drop k).Pairwise (ahd m) := by rw [List.take_append_drop]; exact h
  obtain ⟨t1, t2, t3⟩ := List.pairwise_append.mp h3
  have ix : ∀ x, x ∈ l.take k → ahd m x v := fun x hx => by
    obtain ⟨i, hi, e⟩ := List.mem_iff_getElem.mp hx
    rw [List.length_take] at hi
    have := up i (by omega)
    rw [List.getD_eq_getElem?_getD, List.getElem?_eq_getElem (by omega : i < l.length)] at this
    rw [List.getElem_take] at e
    rw [← e]
    exact this
  have iy : ∀ x, x ∈ l.drop k → ahd m v x := fun x hx => by
    obtain ⟨i, hi, e⟩ := List.mem_iff_getElem.mp hx
    rw [List.length_drop] at hi
    have := ha (k + i) (by omega) (by omega)
    rw [List.getD_eq_getElem?_getD, List.getElem?_eq_getElem (by omega : k + i < l.length)] at this
    rw [List.getElem_drop] at e
    rw [← e]
    exact this
  refine List.pairwise_append.mpr ⟨t1, List.pairwise_cons.mpr ⟨iy, t2⟩, fun x hx y hy => ?_⟩
  rcases List.mem_cons.mp hy with z | z
  · rw [z]; exact ix x hx
  · exact t3 x hx y z
/-- the row in order, of the first n that are alive -/
def inS (m : Nat → Int) (v : Nat) : List Nat → List Nat
  | [] => [v]
  | x :: l => if m x < m v ∨ (m v = m x ∧ v < x) then v :: x :: l else x :: inS m v l
def orS (m : Nat → Int) (al : Nat → Bool) : Nat → List Nat
  | 0 => []
  | k + 1 => if al k = true then inS m k (orS m al k) else orS m al k
theorem inS_mem {v : Nat} : ∀ {l : List Nat} {x : Nat}, x ∈ inS m v l ↔ x = v ∨ x ∈ l := by
  intro l
  induction l with
  | nil => intro x; simp [inS]
  | cons a l ih =>
    intro x
    unfold inS
    split
    · rw [List.mem_cons]
    · rw [List.mem_cons, ih, List.mem_cons]
      constructor
      · rintro (h | h | h)
        · exact Or.inr (Or.inl h)
        · exact Or.inl h
        · exact Or.inr (Or.inr h)
      · rintro (h | h | h)
        · exact Or.inr (Or.inl h)
        · exact Or.inl h
        · exact Or.inr (Or.inr h)
theorem inS_srt {v : Nat} : ∀ {l : List Nat}, srt m l → v ∉ l → srt m (inS m v l) := by
  intro l
  induction l with
  | nil => intro _ _; exact List.pairwise_singleton _ _
  | cons a l ih =>
    intro h hv
    have p := List.pairwise_cons.mp h
    unfold inS
    by_cases q : m a < m v ∨ (m v = m a ∧ v < a)
    · rw [if_pos q]
      refine List.pairwise_cons.mpr ⟨fun x hx => ?_, h⟩
      rcases List.mem_cons.mp hx with z | z
      · rw [z]; exact q
      · exact ahd_tr (show ahd m v a from q) (p.1 x z)
    · rw [if_neg q]
      refine List.pairwise_cons.mpr ⟨fun x hx => ?_, ih p.2 (fun z => hv (List.mem_cons_of_mem _ z))⟩
      rcases inS_mem.mp hx with z | z
      · rw [z]
        rcases ahd_or (m := m) (show v ≠ a from fun z => hv (z ▸ List.mem_cons_self ..)) with y | y
        · exact absurd y q
        · exact y
      · exact p.1 x z
theorem orS_s {al : Nat → Bool} : ∀ n, srt m (orS m al n) ∧ ∀ x, x ∈ orS m al n ↔ x < n ∧ al x = true := by
  intro n
  induction n with
  | zero => exact ⟨List.Pairwise.nil, fun x => by simp [orS]⟩
  | succ n ih =>
    unfold orS
    by_cases q : al n = true
    · rw [if_pos q]
      refine ⟨inS_srt ih.1 (fun z => by have := ((ih.2 n).mp z).1; omega), fun x => ?_⟩
      rw [inS_mem, ih.2 x]
      constructor
      · rintro (h | h)
        · subst h; exact ⟨by omega, q⟩
        · exact ⟨by omega, h.2⟩
      · intro h
        by_cases e : x = n
        · exact Or.inl e
        · exact Or.inr ⟨by omega, h.2⟩
    · rw [if_neg q]
      refine ⟨ih.1, fun x => ?_⟩
      rw [ih.2 x]
      constructor
      · intro h; exact ⟨by omega, h.2⟩
      · intro h
        refine ⟨?_, h.2⟩
        by_cases e : x = n
        · subst e; exact absurd h.2 q
        · omega
theorem orS_len {al : Nat → Bool} : ∀ n, (orS m al n).length ≤ n := by
  have il : ∀ (v : Nat) (l : List Nat), (inS m v l).length = l.length + 1 := by
    intro v l
    induction l with
    | nil => rfl
    | cons a l ih =>
      unfold inS
      split
      · rfl
      · rw [List.length_cons, ih, List.length_cons]
  intro n
  induction n with
  | zero => exact Nat.le_refl _
  | succ n ih =>
    unfold orS
    by_cases q : al n = true
    · rw [if_pos q, il]; omega
    · rw [if_neg q]; omega
theorem srt_nd {l : List Nat} (h : srt m l) : l.Nodup := List.Pairwise.imp (fun {a b} q e => by subst e; exact ahd_no q q) h
end OR
