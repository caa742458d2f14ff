/-! the rows as a matrix: no positive entry off the diagonal, rows that sum to 0 or more, nothing goes to 0 -/
def mA (c r : Nat) (w : Nat → Nat) (un : Nat → Bool) : Nat → Nat → Int := fun j i => if i < (Ul un (c * r)).length ∧ j < (Ul un (c * r)).length then LnK c r w (ns c r) ((Ul un (c * r)).getD i 0) ((Ul un (c * r)).getD j 0) else 0
theorem Lt_sym {c r v u s : Nat} {w : Nat → Nat} : Lt c r w v u s = Lt c r w u v s := by
  unfold Lt
  rw [ififf (and_comm (a := v = sA c r s) (b := u = sA c r s)), ififf (and_comm (a := v = sB c r s) (b := u = sB c r s)), ififf (and_comm (a := v = sA c r s) (b := u = sB c r s)), ififf (and_comm (a := v = sB c r s) (b := u = sA c r s))]
  omega
theorem LnK_sym {c r k v u : Nat} {w : Nat → Nat} : LnK c r w k v u = LnK c r w k u v := fs_congr (fun _ _ => Lt_sym)
theorem Lt_off {c r v u s : Nat} {w : Nat → Nat} (h : v ≠ u) : Lt c r w v u s ≤ 0 := by
  unfold Lt
  rw [if_neg (show ¬ (v = sA c r s ∧ u = sA c r s) from fun z => h (z.1.trans z.2.symm)), if_neg (show ¬ (v = sB c r s ∧ u = sB c r s) from fun z => h (z.1.trans z.2.symm))]
  by_cases h1 : v = sA c r s ∧ u = sB c r s
  · rw [if_pos h1]
    by_cases h2 : v = sB c r s ∧ u = sA c r s
    · rw [if_pos h2]; omega
    · rw [if_neg h2]; omega
  · rw [if_neg h1]
    by_cases h2 : v = sB c r s ∧ u = sA c r s
    · rw [if_pos h2]; omega
    · rw [if_neg h2]; omega
theorem Ul_inj {un : Nat → Bool} {n i j : Nat} (hi : i < (Ul un n).length) (hj : j < (Ul un n).length) (h : (Ul un n).getD i 0 = (Ul un n).getD j 0) : i = j := by
  have h1 := Ul_ix hi
  have h2 := Ul_ix hj
  rw [h] at h1
  omega
/-- z by nodes -/
def zN (un : Nat → Bool) (n : Nat) (z : Nat → Int) (X : Nat) : Int := fs (Ul un n).length (fun q => if (Ul un n).getD q 0 = X then z q else 0)
theorem zN_at {un : Nat → Bool} {n i : Nat} {z : Nat → Int} (hi : i < (Ul un n).length) : zN un n z ((Ul un n).getD i 0) = z i := by
  unfold zN
  rw [fs_one hi, if_pos rfl]
  intro q hq hne
  rw [if_neg (fun e => hne (Ul_inj hq hi e))]
theorem zN_no {un : Nat → Bool} {n X : Nat} {z : Nat → Int} (h : un X = false) : zN un n z X = 0 := by
  unfold zN
  rw [fs_congr (g := fun _ => 0) (fun q hq => if_neg (no_ix h hq)), fs_zero]
theorem zN_out {un : Nat → Bool} {n X : Nat} {z : Nat → Int} (h : n ≤ X) : zN un n z X = 0 := by
  unfold zN
  rw [fs_congr (g := fun _ => 0) (fun q hq => if_neg (fun e => by have := (Ul_at hq).1; omega)), fs_zero]
theorem Lt_z {c r v s : Nat} {w : Nat → Nat} {x : Int} {u : Nat} : Lt c r w v u s * x = (w s : Int) * ((if v = sA c r s then (if u = sA c r s then x else 0) else 0) + (if v = sB c r s then (if u = sB c r s then x else 0) else 0) - (if v = sA c r s then (if u = sB c r s then x else 0) else 0) - (if v = sB c r s then (if u = sA c r s then x else 0) else 0)) := by
  unfold Lt
  have e : ∀ (p q : Prop) [Decidable p] [Decidable q], (if p ∧ q then (w s : Int) else 0) * x = (w s : Int) * (if p then (if q then x else 0) else 0) := by
    intro p q _ _
    by_cases hp : p
    · by_cases hq : q
      · rw [if_pos ⟨hp, hq⟩, if_pos hp, if_pos hq]
      · rw [if_neg (fun z => hq z.2), if_pos hp, if_neg hq]; simp
    · rw [if_neg (fun z => hp z.1), if_neg hp]; simp
  rw [Int.sub_mul, Int.sub_mul, Int.add_mul, e, e, e, e]
  grind
theorem fs_if {n : Nat} {p : Prop} [Decidable p] {f : Nat → Int} : fs n (fun i => if p then f i else 0) = if p then fs n f else 0 := by
  by_cases h : p
  · rw [if_pos h]; exact fs_congr (fun i _ => if_pos h)
  · rw [if_neg h, fs_congr (g := fun _ => 0) (fun i _ => if_neg h), fs_zero]
/-- a row of the matrix times z: by straps -/
theorem row_z {c r v : Nat} {w : Nat → Nat} {un : Nat → Bool} {z : Nat → Int} : fs (Ul un (c * r)).length (fun q => LnK c r w (ns c r) v ((Ul un (c * r)).getD q 0) * z q) = fs (ns c r) (fun s => (w s : Int) * ((if v = sA c r s then zN un (c * r) z (sA c r s) - zN un (c * r) z (sB c r s) else 0) + (if v = sB c r s then zN un (c * r) z (sB c r s) - zN un (c * r) z (sA c r s) else 0))) := by
  have h1 : ∀ q, LnK c r w (ns c r) v ((Ul un (c * r)).getD q 0) * z q = fs (ns c r) (fun s => Lt c r w v ((Ul un (c * r)).getD q 0) s * z q) := fun q => by
    unfold LnK
    rw [Int.mul_comm, ← fs_mul]
    exact fs_congr (fun s _ => Int.mul_comm _ _)
  rw [fs_congr (fun q _ => h1 q), fs_swap]
  apply fs_congr
  intro s _
  rw [fs_congr (fun q _ => Lt_z), fs_mul]
  congr 1
  rw [fs_sub, fs_sub, fs_add, fs_if, fs_if, fs_if, fs_if]
  show (if v = sA c r s then zN un (c * r) z (sA c r s) else 0) + (if v = sB c r s then zN un (c * r) z (sB c r s) else 0) - (if v = sA c r s then zN un (c * r) z (sB c r s) else 0) - (if v = sB c r s then zN un (c * r) z (sA c r s) else 0) = _
  by_cases ha : v = sA c r s
  · by_cases hb : v = sB c r s
    · rw [if_pos ha, if_pos hb, if_pos ha, if_pos hb, if_pos ha, if_pos hb]; omega
    · rw [if_pos ha, if_neg hb, if_pos ha, if_neg hb, if_pos ha, if_neg hb]; omega
  · by_cases hb : v = sB c r s
    · rw [if_neg ha, if_pos hb, if_neg ha, if_pos hb, if_neg ha, if_pos hb]; omega
    · rw [if_neg ha, if_neg hb, if_neg ha, if_neg hb, if_neg ha, if_neg hb]; omega
theorem zN_one {un : Nat → Bool} {n X : Nat} : 0 ≤ zN un n (fun _ => 1) X ∧ zN un n (fun _ => 1) X ≤ 1 := by
  by_cases h : ∃ i, i < (Ul un n).length ∧ (Ul un n).getD i 0 = X
  · obtain ⟨i, hi, rfl⟩ := h
    rw [zN_at hi]
    omega
  · unfold zN
    rw [fs_congr (g := fun _ => 0) (fun q hq => if_neg (fun e => h ⟨q, hq, e⟩)), fs_zero]
    omega
/-- what is reached is in every set that holds the pads and whose straps stay inside -/
theorem clo_min {c r : Nat} {w : Nat → Nat} {P : Int32} {S : Nat → Prop} (hs : shp c r) (hP : ∀ v, v < 32 → bt P v = true → S v) (hS : ∀ s, s < ns c r → w s ≠ 0 → (S (sA c r s) ↔ S (sB c r s))) : ∀ j v, v < 32 → bt (clo c r w j P) v = true → S v := by
  have pass : ∀ (x : Int32), (∀ v, v < 32 → bt x v = true → S v) → ∀ k, k ≤ ns c r → ∀ v, v < 32 → bt (clp c r w k x) v = true → S v := by
    intro x hx k
    induction k with
    | zero => intro _; exact hx
    | succ k ih =>
      intro hk v hv h
      have ih := ih (by omega)
      have h9 := hs.2.2
      obtain ⟨hab, hbn⟩ := sAB hs (show k < ns c r by omega)
      have h : bt (cl1 c r w (clp c r w k x) k) v = true := h
      unfold cl1 at h
      by_cases q : w k = 0
      · rw [if_pos q] at h; exact ih v hv h
      · rw [if_neg q] at h
        by_cases q2 : (bt (clp c r w k x) (sA c r k) || bt (clp c r w k x) (sB c r k)) = true
        · rw [if_pos q2, b_or, b_or, bt_bi (by omega) hv, bt_bi (by omega) hv] at h
          have hab2 := hS k (by omega) q
          have hA : S (sA c r k) := by
            rcases Bool.or_eq_true_iff.mp q2 with z | z
            · exact ih _ (by omega) z
            · exact hab2.mpr (ih _ (by omega) z)
          have hB := hab2.mp hA
          rcases Bool.or_eq_true_iff.mp h with z | z
          · exact ih v hv z
          · rcases Bool.or_eq_true_iff.mp z with z | z
            · rw [of_decide_eq_true z]; exact hA
            · rw [of_decide_eq_true z]; exact hB
        · rw [if_neg q2] at h; exact ih v hv h
  intro j
  induction j with
  | zero => exact hP
  | succ j ih => exact pass _ ih (ns c r) (Nat.le_refl _)
theorem max_ex {m : Nat} (z : Nat → Int) (h : 0 < m) : ∃ i, i < m ∧ ∀ j, j < m → z j ≤ z i := by
  induction m with
  | zero => omega
  | succ m ih =>
    by_cases e : m = 0
    · subst e
      exact ⟨0, by omega, fun j hj => by rw [show j = 0 by omega]; exact Int.le_refl _⟩
    · obtain ⟨i, hi, hm⟩ := ih (by omega)
      by_cases q : z m ≤ z i
      · exact ⟨i, by omega, fun j hj => by by_cases e2 : j = m; rw [e2]; exact q; exact hm j (by omega)⟩
      · exact ⟨m, by omega, fun j hj => by by_cases e2 : j = m; rw [e2]; exact Int.le_refl _; have := hm j (by omega); omega⟩
set_option maxHeartbeats 1000000 in
theorem mA_H {c r : Nat} {w : Nat → Nat} {P : Int32} (hs : shp c r) : mH (Ul (unk c r w P) (c * r)).length (mA c r w (unk c r w P)) := by
  have h9 := hs.2.2
  generalize hun : unk c r w P = un
  refine ⟨fun j q hq => if_neg (by omega), fun i j hi hj hne => ?_, fun q hq => ?_, fun z hz hA => ?_⟩
  · unfold mA
    rw [if_pos ⟨hi, hj⟩]
    have := fs_le (n := ns c r) (f := Lt c r w ((Ul un (c * r)).getD i 0) ((Ul un (c * r)).getD j 0)) (g := fun _ => 0) (fun s _ => Lt_off (fun e => hne (Ul_inj hi hj e)))
    rwa [fs_zero] at this
  · have e : fs (Ul un (c * r)).length (fun j => mA c r w un j q) = fs (Ul un (c * r)).length (fun j => LnK c r w (ns c r) ((Ul un (c * r)).getD q 0) ((Ul un (c * r)).getD j 0) * 1) := fs_congr (fun j hj => by unfold mA; rw [if_pos ⟨hq, hj⟩, Int.mul_one])
    rw [e, row_z (z := fun _ => 1)]
    apply fs_nonneg
    intro s _
    apply Int.mul_nonneg (by omega)
    have oA := zN_one (un := un) (n := c * r) (X := sA c r s)
    have oB := zN_one (un := un) (n := c * r) (X := sB c r s)
    have own := zN_at (un := un) (n := c * r) (z := fun _ => 1) hq
    by_cases ha : (Ul un (c * r)).getD q 0 = sA c r s
    · rw [if_pos ha, ← ha, own]
      by_cases hb : (Ul un (c * r)).getD q 0 = sB c r s
      · rw [if_pos hb, ← hb, own]; omega
      · rw [if_neg hb]; omega
    · rw [if_neg ha]
      by_cases hb : (Ul un (c * r)).getD q 0 = sB c r s
      · rw [if_pos hb, ← hb, own]; omega
      · rw [if_neg hb]; omega
  · intro q0 hq0
    obtain ⟨i0, hi0, hmax⟩ := max_ex z (show 0 < (Ul un (c * r)).length by omega)
    have hle : ∀ X, zN un (c * r) z X ≤ z i0 := fun X => by
      by_cases h : ∃ i, i < (Ul un (c * r)).length ∧ (Ul un (c * r)).getD i 0 = X
      · obtain ⟨i, hi, rfl⟩ := h
        rw [zN_at hi]; exact hmax i hi
      · unfold zN
        rw [fs_congr (g := fun _ => 0) (fun q hq => if_neg (fun e => h ⟨q, hq, e⟩)), fs_zero]
        exact hz i0 hi0
    by_cases hpos : z i0 ≤ 0
    · have := hmax q0 hq0
      have := hz q0 hq0
      omega
    · exfalso
      have hrow : ∀ i, i < (Ul un (c * r)).length → z i = z i0 → ∀ s, s < ns c r → w s ≠ 0 → ((Ul un (c * r)).getD i 0 = sA c r s → zN un (c * r) z (sB c r s) = z i0) ∧ ((Ul un (c * r)).getD i 0 = sB c r s → zN un (c * r) z (sA c r s) = z i0) := by
        intro i hi hzi s hsn hws
        have hrow := hA i hi
        have e : fs (Ul un (c * r)).length (fun q => mA c r w un i q * z q) = fs (Ul un (c * r)).length (fun q => LnK c r w (ns c r) ((Ul un (c * r)).getD i 0) ((Ul un (c * r)).getD q 0) * z q) := fs_congr (fun q hq => by unfold mA; rw [if_pos ⟨hq, hi⟩, LnK_sym])
        rw [e, row_z] at hrow
        have own : zN un (c * r) z ((Ul un (c * r)).getD i 0) = z i0 := by rw [zN_at hi, hzi]
        have hnn : ∀ t, t < ns c r → 0 ≤ (w t : Int) * ((if (Ul un (c * r)).getD i 0 = sA c r t then zN un (c * r) z (sA c r t) - zN un (c * r) z (sB c r t) else 0) + (if (Ul un (c * r)).getD i 0 = sB c r t then zN un (c * r) z (sB c r t) - zN un (c * r) z (sA c r t) else 0)) := by
          intro t _
          apply Int.mul_nonneg (by omega)
          have lA := hle (sA c r t)
          have lB := hle (sB c r t)
          by_cases ha : (Ul un (c * r)).getD i 0 = sA c r t
          · rw [if_pos ha, ← ha, own]
            by_cases hb : (Ul un (c * r)).getD i 0 = sB c r t
            · rw [if_pos hb, ← hb, own]; omega
            · rw [if_neg hb]; omega
          · rw [if_neg ha]
            by_cases hb : (Ul un (c * r)).getD i 0 = sB c r t
            · rw [if_pos hb, ← hb, own]; omega
            · rw [if_neg hb]; omega
        have hz0 := fs_allzero (n := ns c r) (f := fun t => - ((w t : Int) * ((if (Ul un (c * r)).getD i 0 = sA c r t then zN un (c * r) z (sA c r t) - zN un (c * r) z (sB c r t) else 0) + (if (Ul un (c * r)).getD i 0 = sB c r t then zN un (c * r) z (sB c r t) - zN un (c * r) z (sA c r t) else 0)))) (fun t ht => by have := hnn t ht; omega) (by
          have e2 := fs_sub (n := ns c r) (f := fun _ => 0) (g := fun t => (w t : Int) * ((if (Ul un (c * r)).getD i 0 = sA c r t then zN un (c * r) z (sA c r t) - zN un (c * r) z (sB c r t) else 0) + (if (Ul un (c * r)).getD i 0 = sB c r t then zN un (c * r) z (sB c r t) - zN un (c * r) z (sA c r t) else 0)))
          rw [hrow, fs_zero] at e2
          rw [fs_congr (g := fun i_1 => 0 - (w i_1 : Int) * ((if (Ul un (c * r)).getD i 0 = sA c r i_1 then zN un (c * r) z (sA c r i_1) - zN un (c * r) z (sB c r i_1) else 0) + (if (Ul un (c * r)).getD i 0 = sB c r i_1 then zN un (c * r) z (sB c r i_1) - zN un (c * r) z (sA c r i_1) else 0))) (fun t _ => by omega), e2]
          omega) s hsn
        have hz1 : (w s : Int) * ((if (Ul un (c * r)).getD i 0 = sA c r s then zN un (c * r) z (sA c r s) - zN un (c * r) z (sB c r s) else 0) + (if (Ul un (c * r)).getD i 0 = sB c r s then zN un (c * r) z (sB c r s) - zN un (c * r) z (sA c r s) else 0)) = 0 := by omega
        have hz2 := (Int.mul_eq_zero.mp hz1).resolve_left (by omega)
        have hab := (sAB hs hsn).1
        constructor
        · intro ha
          rw [if_pos ha, if_neg (by omega), ← ha, own] at hz2
          omega
        · intro hb
          rw [if_neg (by omega), if_pos hb, ← hb, own] at hz2
          omega
      have key := clo_min (c := c) (r := r) (w := w) (P := P) (S := fun v => ¬ zN un (c * r) z v = z i0) hs (fun v hv hp => by
        have : un v = false := by rw [← hun]; unfold unk; rw [hp]; simp
        rw [zN_no this]
        omega) (fun s hsn hws => by
        obtain ⟨hab, hbn⟩ := sAB hs hsn
        have ex : ∀ X, zN un (c * r) z X = z i0 → ∃ i, i < (Ul un (c * r)).length ∧ (Ul un (c * r)).getD i 0 = X ∧ z i = z i0 := fun X hX => by
          by_cases h : ∃ i, i < (Ul un (c * r)).length ∧ (Ul un (c * r)).getD i 0 = X
          · obtain ⟨i, hi, rfl⟩ := h
            rw [zN_at hi] at hX
            exact ⟨i, hi, rfl, hX⟩
          · exfalso
            unfold zN at hX
            rw [fs_congr (g := fun _ => 0) (fun q hq => if_neg (fun e => h ⟨q, hq, e⟩)), fs_zero] at hX
            omega
        constructor
        · intro hA2 hB2
          obtain ⟨i, hi, e, hzi⟩ := ex _ hB2
          exact hA2 ((hrow i hi hzi s hsn hws).2 e)
        · intro hB2 hA2
          obtain ⟨i, hi, e, hzi⟩ := ex _ hA2
          exact hB2 ((hrow i hi hzi s hsn hws).1 e)) 9
      obtain ⟨hlt, hunk⟩ := Ul_at hi0
      have hb : bt (clo c r w 9 P) ((Ul un (c * r)).getD i0 0) = true := by
        have h : unk c r w P ((Ul un (c * r)).getD i0 0) = true := by rw [hun]; exact hunk
        unfold unk at h
        exact (Bool.and_eq_true_iff.mp h).1
      exact key _ (by omega) hb (zN_at hi0)
