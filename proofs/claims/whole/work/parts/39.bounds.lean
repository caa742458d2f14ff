/-! how large the numbers of the elimination are -/
def dgk (c r v : Nat) : Nat → Nat
  | 0 => 0
  | k + 1 => dgk c r v k + ((if v = sA c r k then 1 else 0) + (if v = sB c r k then 1 else 0))
def dN (c r v : Nat) : Int := if dgk c r v (ns c r) = 0 then 1 else 4 * (dgk c r v (ns c r) : Int)
theorem dN_pos {c r v : Nat} : 1 ≤ dN c r v := by
  unfold dN
  by_cases h : dgk c r v (ns c r) = 0
  · rw [if_pos h]; omega
  · rw [if_neg h]; omega
theorem LnK_diag {c r v : Nat} {w : Nat → Nat} (hw : ∀ s, s < ns c r → w s ≤ 4) : ∀ k, k ≤ ns c r → LnK c r w k v v ≤ 4 * (dgk c r v k : Int) := by
  intro k
  induction k with
  | zero => intro _; exact Int.le_refl _
  | succ k ih =>
    intro hk
    have h1 := ih (by omega)
    have h2 := hw k (by omega)
    show LnK c r w k v v + Lt c r w v v k ≤ _
    unfold dgk Lt
    by_cases a : v = sA c r k <;> by_cases b : v = sB c r k
    · rw [if_pos ⟨a, a⟩, if_pos ⟨b, b⟩, if_pos ⟨a, b⟩, if_pos ⟨b, a⟩, if_pos a, if_pos b]; omega
    · rw [if_pos ⟨a, a⟩, if_neg (fun z => b z.1), if_neg (fun z => b z.2), if_neg (fun z => b z.1), if_pos a, if_neg b]; omega
    · rw [if_neg (fun z => a z.1), if_pos ⟨b, b⟩, if_neg (fun z => a z.1), if_neg (fun z => a z.2), if_neg a, if_pos b]; omega
    · rw [if_neg (fun z => a z.1), if_neg (fun z => b z.1), if_neg (fun z => a z.1), if_neg (fun z => b z.1), if_neg a, if_neg b]; omega
theorem LnK_dN {c r v : Nat} {w : Nat → Nat} (hw : ∀ s, s < ns c r → w s ≤ 4) : LnK c r w (ns c r) v v ≤ dN c r v := by
  have := LnK_diag (v := v) hw (ns c r) (Nat.le_refl _)
  unfold dN
  by_cases h : dgk c r v (ns c r) = 0
  · rw [if_pos h]; rw [h] at this; omega
  · rw [if_neg h]; exact this
/-- the product over the nodes but some -/
def npr (c r : Nat) (E : Nat → Bool) : Nat → Int
  | 0 => 1
  | v + 1 => if E v = true then npr c r E v else npr c r E v * dN c r v
theorem npr_pos {c r : Nat} {E : Nat → Bool} : ∀ v, 1 ≤ npr c r E v := by
  intro v
  induction v with
  | zero => exact Int.le_refl _
  | succ v ih =>
    unfold npr
    by_cases h : E v = true
    · rw [if_pos h]; exact ih
    · rw [if_neg h]
      have := Int.mul_le_mul ih (dN_pos (c := c) (r := r) (v := v)) (by omega) (by omega)
      omega
def nchk (c r p x : Nat) : Bool := !(decide (1 ≤ c) && decide (1 ≤ r) && decide (c * r ≤ 9) && decide (p < c * r) && decide (x < c * r)) || (decide (npr c r (fun v => decide (v = p)) (c * r) ≤ 169869312) && (decide (p = x) || decide (npr c r (fun v => decide (v = p ∨ v = x)) (c * r) ≤ 21233664)))
set_option maxRecDepth 100000 in
theorem nchk_all : ∀ c, c < 10 → ∀ r, r < 10 → ∀ p, p < 9 → ∀ x, x < 9 → nchk c r p x = true := by decide +kernel
theorem npr1 {c r p : Nat} (hs : shp c r) (hp : p < c * r) : npr c r (fun v => decide (v = p)) (c * r) ≤ 169869312 := by
  have h9 := hs.2.2
  have q := nchk_all c (shp_le hs).1 r (shp_le hs).2 p (by omega) p (by omega)
  unfold nchk at q
  rw [decide_eq_true hs.1, decide_eq_true hs.2.1, decide_eq_true hs.2.2, decide_eq_true hp] at q
  simp only [Bool.and_self, Bool.not_true, Bool.false_or, Bool.and_eq_true, decide_eq_true_eq] at q
  exact q.1
theorem npr2 {c r p x : Nat} (hs : shp c r) (hp : p < c * r) (hx : x < c * r) (hne : p ≠ x) : npr c r (fun v => decide (v = p ∨ v = x)) (c * r) ≤ 21233664 := by
  have h9 := hs.2.2
  have q := nchk_all c (shp_le hs).1 r (shp_le hs).2 p (by omega) x (by omega)
  unfold nchk at q
  rw [decide_eq_true hs.1, decide_eq_true hs.2.1, decide_eq_true hs.2.2, decide_eq_true hp, decide_eq_true hx, decide_eq_false hne] at q
  simp only [Bool.and_self, Bool.not_true, Bool.false_or, Bool.and_eq_true, decide_eq_true_eq] at q
  exact q.2
theorem mPr_npr {c r n : Nat} {un : Nat → Bool} {S : Nat → Bool} {E : Nat → Bool} (hE : ∀ u, u < n → un u = true → E u = true → S (Ul un u).length = false) : ∀ v, v ≤ n → mPr (fun i => dN c r ((Ul un n).getD i 0)) S (Ul un v).length ≤ npr c r E v := by
  intro v
  induction v with
  | zero => intro _; exact Int.le_refl _
  | succ v ih =>
    intro hv
    have ih := ih (by omega)
    have hp := npr_pos (c := c) (r := r) (E := E) v
    have hd := dN_pos (c := c) (r := r) (v := v)
    have hgrow : npr c r E v ≤ npr c r E (v + 1) := by
      show npr c r E v ≤ if E v = true then npr c r E v else npr c r E v * dN c r v
      by_cases h : E v = true
      · rw [if_pos h]; exact Int.le_refl _
      · rw [if_neg h]
        have := Int.mul_le_mul_of_nonneg_left hd (show 0 ≤ npr c r E v by omega)
        omega
    rw [Ul_succ]
    by_cases hu : un v = true
    · rw [if_pos hu, List.length_append]
      show mPr _ S ((Ul un v).length + 1) ≤ _
      unfold mPr
      by_cases hS : S (Ul un v).length = true
      · rw [if_pos hS, (Ul_in (show v < n by omega) hu).2]
        have hEv : ¬ E v = true := fun z => by rw [hE v (by omega) hu z] at hS; cases hS
        show _ ≤ if E v = true then npr c r E v else npr c r E v * dN c r v
        rw [if_neg hEv]
        exact Int.mul_le_mul_of_nonneg_right ih (by omega)
      · rw [if_neg hS]; omega
    · rw [if_neg hu, List.append_nil]; omega
/-- a pad there is, where anything is unknown -/
theorem pad_ex {c r : Nat} {w : Nat → Nat} {P : Int32} (hs : shp c r) (hP : ∀ v, v < 32 → bt P v = true → v < c * r) (hm : 0 < (Ul (unk c r w P) (c * r)).length) : ∃ p, p < c * r ∧ bt P p = true := by
  have h9 := hs.2.2
  by_cases h : ∃ p, p < 32 ∧ bt P p = true
  · obtain ⟨p, hp, hb⟩ := h
    exact ⟨p, hP p hp hb, hb⟩
  · exfalso
    obtain ⟨hlt, hu⟩ := Ul_at hm
    have hb := (Bool.and_eq_true_iff.mp (show (bt (clo c r w 9 P) ((Ul (unk c r w P) (c * r)).getD 0 0) && !bt P ((Ul (unk c r w P) (c * r)).getD 0 0)) = true from hu)).1
    exact clo_min (S := fun _ => False) hs (fun v hv hb => h ⟨v, hv, hb⟩) (fun _ _ _ => Iff.rfl) 9 _ (by omega) hb
section BND
variable {c r : Nat} {w : Nat → Nat} {P : Int32}
theorem mp_all (hs : shp c r) (hw : ∀ s, s < ns c r → w s ≤ 4) (S E : Nat → Bool) (hE : ∀ u, u < c * r → unk c r w P u = true → E u = true → S (Ul (unk c r w P) u).length = false) (hS : ∀ j, (Ul (unk c r w P) (c * r)).length ≤ j → S j = false) : mp (Ul (unk c r w P) (c * r)).length (mA c r w (unk c r w P)) S ≤ npr c r E (c * r) := by
  have h1 := mp_bound (mA_H (w := w) (P := P) hs) S (fun i => dN c r ((Ul (unk c r w P) (c * r)).getD i 0)) (fun j hj => ⟨by unfold mA; rw [if_pos ⟨hj, hj⟩]; exact LnK_dN hw, by have := dN_pos (c := c) (r := r) (v := (Ul (unk c r w P) (c * r)).getD j 0); omega⟩) _ (Nat.le_refl _)
  have e : mC S (Ul (unk c r w P) (c * r)).length = S := by
    funext j
    unfold mC
    by_cases h : j < (Ul (unk c r w P) (c * r)).length
    · rw [decide_eq_true h, Bool.and_true]
    · rw [decide_eq_false h, Bool.and_false, hS j (by omega)]
  rw [e] at h1
  exact Int.le_trans h1 (mPr_npr (n := c * r) hE (c * r) (Nat.le_refl _))
theorem mp_le1 (hs : shp c r) (hw : ∀ s, s < ns c r → w s ≤ 4) (hP : ∀ v, v < 32 → bt P v = true → v < c * r) (S : Nat → Bool) (hS : ∀ j, (Ul (unk c r w P) (c * r)).length ≤ j → S j = false) : mp (Ul (unk c r w P) (c * r)).length (mA c r w (unk c r w P)) S ≤ 169869312 := by
  by_cases hm : 0 < (Ul (unk c r w P) (c * r)).length
  · obtain ⟨p, hp, hb⟩ := pad_ex hs hP hm
    refine Int.le_trans (mp_all hs hw S (fun v => decide (v = p)) (fun u hu hun he => ?_) hS) (npr1 hs hp)
    rw [of_decide_eq_true he] at hun
    unfold unk at hun
    rw [hb] at hun
    simp at hun
  · have : (Ul (unk c r w P) (c * r)).length = 0 := by omega
    rw [this]
    show (1 : Int) ≤ _
    omega
theorem mp_le2 (hs : shp c r) (hw : ∀ s, s < ns c r → w s ≤ 4) (hP : ∀ v, v < 32 → bt P v = true → v < c * r) (S : Nat → Bool) (hS : ∀ j, (Ul (unk c r w P) (c * r)).length ≤ j → S j = false) {l : Nat} (hl : l < (Ul (unk c r w P) (c * r)).length) (h0 : S l = false) : mp (Ul (unk c r w P) (c * r)).length (mA c r w (unk c r w P)) S ≤ 21233664 := by
  obtain ⟨p, hp, hb⟩ := pad_ex hs hP (show 0 < (Ul (unk c r w P) (c * r)).length by omega)
  obtain ⟨hx, hux⟩ := Ul_at hl
  have nop : ¬ unk c r w P p = true := fun z => by unfold unk at z; rw [hb] at z; simp at z
  refine Int.le_trans (mp_all hs hw S (fun v => decide (v = p ∨ v = (Ul (unk c r w P) (c * r)).getD l 0)) (fun u hu hun he => ?_) hS) (npr2 hs hp hx (fun e => nop (by rw [e]; exact hux)))
  rcases of_decide_eq_true he with e | e
  · rw [e] at hun; exact absurd hun nop
  · rw [e, Ul_ix hl]; exact h0
end BND
