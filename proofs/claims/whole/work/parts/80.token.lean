/-! tokens -/
def kk (y : Nat) : Nat := if 97 ≤ y ∧ y ≤ 122 then 1 else if 48 ≤ y ∧ y ≤ 57 then 2 else if y = 32 ∨ y = 10 then 4 else if y = 59 then 3 else 5
def rn (q : Nat → Bool) (sz p : Nat) : Nat := p + fst1 (fun i => !q (p + i)) (sz - p)
theorem rn_s {q : Nat → Bool} {sz p : Nat} (hp : p ≤ sz) : p ≤ rn q sz p ∧ rn q sz p ≤ sz ∧ (∀ i, p ≤ i → i < rn q sz p → q i = true) ∧ (rn q sz p < sz → q (rn q sz p) = false) := by
  obtain ⟨h1, h2, h3⟩ := fst1_s (fun i => !q (p + i)) (sz - p)
  unfold rn
  refine ⟨(by omega), (by omega), fun i g1 g2 => ?_, fun g => ?_⟩
  · have := h3 (i - p) (by omega)
    have this : (!q (p + (i - p))) = false := this
    rw [show p + (i - p) = i by omega] at this
    simpa using this
  · have := h2 (by omega)
    have this : (!q (p + fst1 (fun i => !q (p + i)) (sz - p))) = true := this
    simpa using this
theorem rn_u {q : Nat → Bool} {sz p e : Nat} (h1 : p ≤ e) (h2 : e ≤ sz) (h3 : ∀ i, p ≤ i → i < e → q i = true) (h4 : e = sz ∨ q e = false) : rn q sz p = e := by
  obtain ⟨g1, g2, g3, g4⟩ := rn_s (q := q) (sz := sz) (p := p) (by omega)
  rcases Nat.lt_trichotomy (rn q sz p) e with h | h | h
  · have := g4 (by omega)
    rw [h3 _ g1 h] at this
    cases this
  · exact h
  · rcases h4 with z | z
    · omega
    · rw [g3 e h1 h] at z; cases z
section TK
variable {sz : Nat} {yb : Nat → Nat}
def qk (yb : Nat → Nat) (c : Nat) : Nat → Bool := fun i => decide (kk (yb i) = c)
def fi (sz : Nat) (yb : Nat → Nat) (p : Nat) : Nat := rn (qk yb 4) sz p
def kn (sz : Nat) (yb : Nat → Nat) (p : Nat) : Nat := if fi sz yb p < sz then kk (yb (fi sz yb p)) else 0
def be (sz : Nat) (yb : Nat → Nat) (p : Nat) : Nat := if fi sz yb p < sz then (if kn sz yb p = 1 ∨ kn sz yb p = 2 then rn (qk yb (kn sz yb p)) sz (fi sz yb p) else fi sz yb p + 1) else fi sz yb p
def vv (yb : Nat → Nat) (f : Nat) : Nat → Nat
  | 0 => 0
  | k + 1 => 10 * vv yb f k + (yb (f + k) - 48)
def tv (sz : Nat) (yb : Nat → Nat) (p : Nat) : Nat := vv yb (fi sz yb p) (be sz yb p - fi sz yb p)
theorem fi_b {p : Nat} (hp : p ≤ sz) : p ≤ fi sz yb p ∧ fi sz yb p ≤ sz := ⟨(rn_s hp).1, (rn_s hp).2.1⟩
theorem kk_b (y : Nat) : kk y < 6 ∧ 1 ≤ kk y := by
  unfold kk
  split
  · omega
  · split
    · omega
    · split
      · omega
      · split <;> omega
theorem be_b {p : Nat} (hp : p ≤ sz) : fi sz yb p ≤ be sz yb p ∧ be sz yb p ≤ sz ∧ (fi sz yb p < sz → fi sz yb p < be sz yb p) := by
  have hf := fi_b (yb := yb) hp
  unfold be
  by_cases q : fi sz yb p < sz
  · rw [if_pos q]
    by_cases w : kn sz yb p = 1 ∨ kn sz yb p = 2
    · rw [if_pos w]
      obtain ⟨g1, g2, g3, g4⟩ := rn_s (q := qk yb (kn sz yb p)) (sz := sz) (p := fi sz yb p) (by omega)
      refine ⟨g1, g2, fun _ => ?_⟩
      apply Classical.byContradiction
      intro n
      have e : rn (qk yb (kn sz yb p)) sz (fi sz yb p) = fi sz yb p := by omega
      have := g4 (by omega)
      rw [e] at this
      have this : decide (kk (yb (fi sz yb p)) = kn sz yb p) = false := this
      unfold kn at this
      rw [if_pos q, decide_eq_true rfl] at this
      cases this
    · rw [if_neg w]; omega
  · rw [if_neg q]; omega
theorem kn_4 {p : Nat} (hp : p ≤ sz) : kn sz yb p ≠ 4 := by
  unfold kn
  by_cases q : fi sz yb p < sz
  · rw [if_pos q]
    have := (rn_s (q := qk yb 4) hp).2.2.2 q
    exact of_decide_eq_false this
  · rw [if_neg q]; decide
/-- the class's number, capped -/
def vC (v : Nat) (x : Int32) : Prop := (v < 100000 → x = nI v) ∧ (100000 ≤ v → ∃ u, 100000 ≤ u ∧ u < 2000000 ∧ x = nI u)
def cTx (sz : Nat) (yb : Nat → Nat) (M : sg_M) : Prop := sz ≤ 700 ∧ (∀ i, yb i < 256) ∧ (∀ i, i < sz → M.1 12 i = nI (yb i)) ∧ M.1 1 0 = nI sz
def rTx (sz : Nat) (yb : Nat → Nat) (M : sg_M) : Prop := sz ≤ 700 ∧ (∀ i, yb i < 256) ∧ (∀ i, i < sz → M.1 7 i &&& 255 = nI (yb i) ∧ byR (M.1 7 i)) ∧ M.1 0 12 = nI sz
def ctok (sz : Nat) (yb : Nat → Nat) (p : Nat) (M : sg_M) : Prop := M.1 1 6 = nI (fi sz yb p) ∧ M.1 1 7 = nI (be sz yb p) ∧ M.1 1 5 = nI (kn sz yb p) ∧ (kn sz yb p = 2 → vC (tv sz yb p) (M.1 1 8))
def rtok (sz : Nat) (yb : Nat → Nat) (p : Nat) (M : sg_M) : Prop := M.1 0 14 = nI (fi sz yb p) ∧ M.1 0 13 = nI (be sz yb p) ∧ M.1 0 15 = nI (min (kn sz yb p) 4) ∧ (kn sz yb p = 2 → M.1 0 16 = nI (min (tv sz yb p) 99999))
def c1F (M M1 : sg_M) : Prop := (∀ a k, (a ≠ 1 ∨ k < 5 ∨ 9 ≤ k) → M1.1 a k = M.1 a k) ∧ M1.2 = M.2
theorem c1F_tr {M M1 M2 : sg_M} (h : c1F M M1) (h2 : c1F M1 M2) : c1F M M2 := ⟨fun a k q => (h2.1 a k q).trans (h.1 a k q), h2.2.trans h.2⟩
theorem cTx_c {M M1 : sg_M} (h : cTx sz yb M) (e : ∀ a k, (a = 12 ∨ (a = 1 ∧ k = 0)) → M1.1 a k = M.1 a k) : cTx sz yb M1 := ⟨h.1, h.2.1, fun i hi => by rw [e 12 i (by omega), h.2.2.1 i hi], by rw [e 1 0 (by omega), h.2.2.2]⟩
theorem c_kind {N y : Nat} {M : sg_M} (hy : y < 256) : fX6_kindOf N (nI y) M = some (nI (kk y), M) := by
  have t : ∀ n : Nat, n < 1000 → ((nI y < nI n ↔ y < n) ∧ (nI n < nI y ↔ n < y) ∧ (nI y = nI n ↔ y = n)) := fun n hn => by
    rw [lt_i, lt_i, nI_toInt (by omega), nI_toInt (by omega), nI_eq (by omega) (by omega)]
    omega
  unfold fX6_kindOf gX6_kindOf_14 gX6_kindOf_28 kk
  rw [show (97 : Int32) = nI 97 from rfl, show (122 : Int32) = nI 122 from rfl, show (48 : Int32) = nI 48 from rfl, show (57 : Int32) = nI 57 from rfl, show (32 : Int32) = nI 32 from rfl, show (10 : Int32) = nI 10 from rfl, show (59 : Int32) = nI 59 from rfl]
  simp only [(t 97 (by omega)).1, (t 122 (by omega)).2.1, (t 48 (by omega)).1, (t 57 (by omega)).2.1, (t 32 (by omega)).2.2, (t 10 (by omega)).2.2, (t 59 (by omega)).2.2]
  have lo : (if y < 48 then (if y = 32 then some ((4 : Int32), M) else if y = 10 then some (4, M) else if y = 59 then some (3, M) else some (5, M)) else if 57 < y then (if y = 32 then some ((4 : Int32), M) else if y = 10 then some (4, M) else if y = 59 then some (3, M) else some (5, M)) else some (2, M)) = some (nI (if 48 ≤ y ∧ y ≤ 57 then 2 else if y = 32 ∨ y = 10 then 4 else if y = 59 then 3 else 5), M) := by
    have a1 : (if y = 32 then some ((4 : Int32), M) else if y = 10 then some (4, M) else if y = 59 then some (3, M) else some (5, M)) = some (nI (if y = 32 ∨ y = 10 then 4 else if y = 59 then 3 else 5), M) := by
      by_cases q : y = 32
      · rw [if_pos q, if_pos (Or.inl q)]; rfl
      · rw [if_neg q]
        by_cases w : y = 10
        · rw [if_pos w, if_pos (Or.inr w)]; rfl
        · rw [if_neg w, if_neg (show ¬ (y = 32 ∨ y = 10) by omega)]
          by_cases v : y = 59
          · rw [if_pos v, if_pos v]; rfl
          · rw [if_neg v, if_neg v]; rfl
    rw [a1]
    by_cases q : y < 48
    · rw [if_pos q, if_neg (show ¬ (48 ≤ y ∧ y ≤ 57) by omega)]
    · rw [if_neg q]
      by_cases w : 57 < y
      · rw [if_pos w, if_neg (show ¬ (48 ≤ y ∧ y ≤ 57) by omega)]
      · rw [if_neg w, if_pos (show 48 ≤ y ∧ y ≤ 57 by omega)]; rfl
  rw [lo]
  by_cases q : y < 97
  · rw [if_pos q, if_neg (show ¬ (97 ≤ y ∧ y ≤ 122) by omega)]
  · rw [if_neg q]
    by_cases w : 122 < y
    · rw [if_pos w, if_neg (show ¬ (97 ≤ y ∧ y ≤ 122) by omega)]
    · rw [if_neg w, if_pos (show 97 ≤ y ∧ y ≤ 122 by omega)]; rfl
theorem dig {y : Nat} (h : kk y = 2) : 48 ≤ y ∧ y ≤ 57 := by
  unfold kk at h
  by_cases q : 97 ≤ y ∧ y ≤ 122
  · rw [if_pos q] at h; omega
  · rw [if_neg q] at h
    by_cases w : 48 ≤ y ∧ y ≤ 57
    · exact w
    · rw [if_neg w] at h
      by_cases v : y = 32 ∨ y = 10
      · rw [if_pos v] at h; omega
      · rw [if_neg v] at h
        by_cases u : y = 59
        · rw [if_pos u] at h; omega
        · rw [if_neg u] at h; omega
theorem vC_step {v y : Nat} {x : Int32} (hy : 48 ≤ y ∧ y ≤ 57) (h : vC v x) : (¬ 100000 ≤ x → vC (10 * v + (y - 48)) (x * 10 + nI y - 48)) ∧ (100000 ≤ x → vC (10 * v + (y - 48)) x) := by
  rcases Nat.lt_or_ge v 100000 with q | q
  · have e := h.1 q
    subst e
    have em : nI v * 10 + nI y - 48 = nI (10 * v + (y - 48)) := by
      rw [show (10 : Int32) = nI 10 from rfl, nI_mul, nI_add, show (48 : Int32) = nI 48 from rfl, nI_sub (by omega)]
      congr 1
      omega
    refine ⟨fun _ => ?_, fun z => absurd z (show ¬ nI 100000 ≤ nI v from nI_ge q (by omega))⟩
    rw [em]
    exact ⟨fun _ => rfl, fun w => ⟨_, w, (by omega), rfl⟩⟩
  · obtain ⟨u, u1, u2, rfl⟩ := h.2 q
    refine ⟨fun z => absurd (show nI 100000 ≤ nI u from nI_le u1 (by omega)) z, fun _ => ⟨fun w => by omega, fun _ => ⟨u, u1, u2, rfl⟩⟩⟩
set_option maxHeartbeats 1000000 in
theorem step_ok {N p : Nat} {M : sg_M} (hT : cTx sz yb M) (h7 : M.1 1 7 = nI p) (hp : p ≤ sz) (hN : 1000 ≤ N) : ok (fX6_step N 1 M) (fun M1 => ctok sz yb p M1 ∧ c1F M M1) := by
  obtain ⟨s7, hy, h12, h0⟩ := id hT
  obtain ⟨f1, f2, f3, f4⟩ := rn_s (q := qk yb 4) hp
  have f1 : p ≤ fi sz yb p := f1
  have f2 : fi sz yb p ≤ sz := f2
  unfold fX6_step
  rw [h7]
  refine ok_m ?_
  unfold gX6_step_8
  refine ok_lp (fun m s M1 => ∃ e, p ≤ e ∧ e ≤ fi sz yb p ∧ m = fi sz yb p - e ∧ s = 1 ∧ M1.1 1 6 = nI e ∧ c1F M M1) ?_ N (fi sz yb p - p) _ _ ⟨p, Nat.le_refl _, f1, rfl, rfl, uI_eq, fun a k ha => by rw [uI_at, if_neg (by omega)], rfl⟩ (by omega)
  rintro m s M1 back ⟨e, e1, e2, rfl, rfl, g6, gF⟩ hb
  have T1 : cTx sz yb M1 := cTx_c hT (fun a k ha => gF.1 a k (by omega))
  have tail : e = fi sz yb p → ok (gX6_step_48 N 1 M1) (fun M1 => ctok sz yb p M1 ∧ c1F M M1) := fun ee => by
    unfold gX6_step_48
    rw [g6]
    refine ok_m ?_
    rw [uI_nb (by omega), uI_nb (by omega), g6, T1.2.2.2, y1_4, yn_12]
    by_cases q : fi sz yb p < sz
    · rw [if_pos (nI_lt (by omega) (by omega)), nI_clamp (show e < 2 ^ 31 by omega), uI_na (by omega), T1.2.2.1 e (by omega), c_kind (hy e), e_b]
      have ek : kk (yb e) = kn sz yb p := by unfold kn; rw [if_pos q, ← ee]
      have kb := kk_b (yb e)
      rw [ek] at kb ⊢
      refine ok_t (ib_nI (by omega) (by omega)) (ok_m (ok_m (ok_m ?_)))
      unfold gX6_step_96
      refine ok_lp (fun m s M2 => ∃ (t : Nat) (fg : Bool), fi sz yb p ≤ t ∧ t ≤ sz ∧ m = sz - t ∧ s = (1, if fg = true then 1 else 0) ∧ M2.1 1 6 = nI (fi sz yb p) ∧ M2.1 1 7 = nI t ∧ M2.1 1 5 = nI (kn sz yb p) ∧ (kn sz yb p = 2 → vC (vv yb (fi sz yb p) (t - fi sz yb p)) (M2.1 1 8)) ∧ c1F M M2 ∧ (fg = true → t < sz ∧ kk (yb t) = kn sz yb p ∧ (t = fi sz yb p ∨ kn sz yb p = 1 ∨ kn sz yb p = 2) ∧ ∀ i, fi sz yb p ≤ i → i < t → kk (yb i) = kn sz yb p) ∧ (fg = false → t = be sz yb p)) ?_ N (sz - fi sz yb p) _ _ ⟨fi sz yb p, true, Nat.le_refl _, f2, rfl, rfl, by rw [uI_nb (by omega), uI_nb (by omega), uI_nb (by omega), g6, ee], by rw [uI_nb (by omega), uI_nb (by omega), uI_eq, ee], by rw [uI_nb (by omega), uI_eq], fun _ => by rw [Nat.sub_self, uI_eq]; exact ⟨fun _ => rfl, fun z => absurd z (by show ¬ 100000 ≤ 0; omega)⟩, c1F_tr gF ⟨fun a k ha => by rw [uI_at, if_neg (by omega), uI_at, if_neg (by omega), uI_at, if_neg (by omega)], rfl⟩, fun _ => ⟨q, by rw [← ee, ek], Or.inl rfl, fun i h1 h2 => by omega⟩, fun z => by cases z⟩ (by omega)
      rintro m s M2 back2 ⟨t, fg, t1, t2, rfl, rfl, a6, a7, a5, a8, aF, a9, a10⟩ hb2
      have T2 : cTx sz yb M2 := cTx_c hT (fun a k ha => aF.1 a k (by omega))
      have fin : t = be sz yb p → ok (some M2) (fun M1 => ctok sz yb p M1 ∧ c1F M M1) := fun et => ok_some ⟨⟨a6, by rw [a7, et], a5, fun z => by unfold tv; rw [← et]; exact a8 z⟩, aF⟩
      unfold bX6_step_96
      dsimp only
      rw [T2.2.2.2, a7, a5, y1_4, yn_12]
      cases fg with
      | false =>
        refine ok_if (fun _ => fin (a10 rfl)) (fun _ => ok_t rfl (fin (a10 rfl)))
      | true =>
        obtain ⟨b1, b2, b3, b4⟩ := a9 rfl
        refine ok_f (nI_ge b1 (by omega)) (ok_f (show ¬ (1 : Int32) = 0 from q1) ?_)
        have cont : ∀ M3 : sg_M, M3.1 1 6 = nI (fi sz yb p) → M3.1 1 7 = nI t → M3.1 1 5 = nI (kn sz yb p) → (kn sz yb p = 2 → vC (vv yb (fi sz yb p) (t + 1 - fi sz yb p)) (M3.1 1 8)) → c1F M M3 → ok (gX6_step_152 N back2 1 M3) (fun M1 => ctok sz yb p M1 ∧ c1F M M1) := fun M3 d6 d7 d5 d8 dF => by
          have all : ∀ i, fi sz yb p ≤ i → i < t + 1 → kk (yb i) = kn sz yb p := fun i h1 h2 => by
            by_cases w : i = t
            · rw [w]; exact b2
            · exact b4 i h1 (by omega)
          have F4 : c1F M (sg_uI M3 1 7 (nI (t + 1))) := c1F_tr dF ⟨fun a k ha => by rw [uI_at, if_neg (by omega)], rfl⟩
          have T4 : cTx sz yb (sg_uI M3 1 7 (nI (t + 1))) := cTx_c hT (fun a k ha => F4.1 a k (by omega))
          have go : ∀ fg : Bool, (fg = true → t + 1 < sz ∧ kk (yb (t + 1)) = kn sz yb p ∧ (kn sz yb p = 1 ∨ kn sz yb p = 2)) → (fg = false → t + 1 = be sz yb p) → ok (back2 (1, if fg = true then 1 else 0) (sg_uI M3 1 7 (nI (t + 1)))) (fun M1 => ctok sz yb p M1 ∧ c1F M M1) := fun fg w1 w2 => hb2 (sz - (t + 1)) _ _ (by omega) ⟨t + 1, fg, (by omega), (by omega), rfl, rfl, by rw [uI_nb (by omega), d6], uI_eq, by rw [uI_nb (by omega), d5], fun z => by rw [uI_nb (by omega)]; exact d8 z, F4, fun z => ⟨(w1 z).1, (w1 z).2.1, Or.inr (w1 z).2.2, all⟩, w2⟩
          have beq : (kn sz yb p = 1 ∨ kn sz yb p = 2) → (t + 1 = sz ∨ ¬ kk (yb (t + 1)) = kn sz yb p) → t + 1 = be sz yb p := fun w1 w2 => by
            unfold be
            rw [if_pos q, if_pos w1]
            refine (rn_u (by omega) (by omega) (fun i h1 h2 => decide_eq_true (all i h1 h2)) (w2.elim Or.inl (fun z => Or.inr (decide_eq_false z)))).symm
          have t178 : (kn sz yb p = 1 ∨ kn sz yb p = 2) → ok (gX6_step_178 N back2 1 (sg_uI M3 1 7 (nI (t + 1)))) (fun M1 => ctok sz yb p M1 ∧ c1F M M1) := fun w => by
            unfold gX6_step_178
            rw [T4.2.2.2, uI_eq, y1_4, yn_12]
            by_cases z : t + 1 < sz
            · rw [nI_clamp (show t + 1 < 2 ^ 31 by omega), T4.2.2.1 (t + 1) z, c_kind (hy _), e_b, uI_nb (show 5 ≠ 7 by decide), d5]
              have kb2 := kk_b (yb (t + 1))
              refine ok_f (nI_ge z (by omega)) (ok_t (ib_nI (by omega) (by omega)) (ok_if (fun y => ?_) (fun y => ?_)))
              · have y := (nI_eq (by omega) (by omega)).mp y
                exact ok_m (go true (fun _ => ⟨z, y, w⟩) (fun v => by cases v))
              · have y : ¬ kk (yb (t + 1)) = kn sz yb p := fun v => y (by rw [v])
                exact ok_m (go false (fun v => by cases v) (fun _ => beq w (Or.inr y)))
            · exact ok_t (nI_le (by omega) (by omega)) (ok_m (go false (fun v => by cases v) (fun _ => beq w (Or.inl (by omega)))))
          unfold gX6_step_152
          rw [d7, nI_1]
          refine ok_m ?_
          rw [uI_nb (show 5 ≠ 7 by decide), d5]
          refine ok_if (fun w => t178 (Or.inl ((nI_eq (by omega) (show 1 < 2 ^ 31 by omega)).mp w))) (fun w => ok_if (fun v => t178 (Or.inr ((nI_eq (by omega) (show 2 < 2 ^ 31 by omega)).mp v))) (fun v => ?_))
          have w : ¬ kn sz yb p = 1 := fun z => w (by rw [z]; rfl)
          have v : ¬ kn sz yb p = 2 := fun z => v (by rw [z]; rfl)
          refine ok_m (go false (fun z => by cases z) (fun _ => ?_))
          unfold be
          rw [if_pos q, if_neg (by omega)]
          omega
        refine ok_if (fun z => ?_) (fun z => ?_)
        · have z : kn sz yb p = 2 := (nI_eq (by omega) (show 2 < 2 ^ 31 by omega)).mp z
          have dg := dig (b2.trans z)
          have ev : vv yb (fi sz yb p) (t + 1 - fi sz yb p) = 10 * vv yb (fi sz yb p) (t - fi sz yb p) + (yb t - 48) := by
            rw [show t + 1 - fi sz yb p = (t - fi sz yb p) + 1 by omega]
            show 10 * _ + (yb (fi sz yb p + (t - fi sz yb p)) - 48) = _
            rw [show fi sz yb p + (t - fi sz yb p) = t by omega]
          obtain ⟨v1, v2⟩ := vC_step dg (a8 z)
          refine ok_if (fun w => ?_) (fun w => ?_)
          · exact cont M2 a6 a7 a5 (fun _ => by rw [ev]; exact v2 w) aF
          · rw [nI_clamp (show t < 2 ^ 31 by omega), T2.2.2.1 t b1]
            refine ok_t (ib_nI (by omega) (by omega)) (ok_m (cont _ (by rw [uI_nb (by omega), a6]) (by rw [uI_nb (by omega), a7]) (by rw [uI_nb (by omega), a5]) (fun _ => ?_) (c1F_tr aF ⟨fun a k ha => by rw [uI_at, if_neg (by omega)], rfl⟩)))
            rw [uI_eq, ev]
            exact v1 w
        · exact cont M2 a6 a7 a5 (fun w => absurd (show nI (kn sz yb p) = 2 by rw [w]; rfl) z) aF
    · have es : fi sz yb p = sz := by omega
      rw [if_neg (nI_nlt (by omega) (by omega))]
      have k0 : kn sz yb p = 0 := by unfold kn; rw [if_neg q]
      have b0 : be sz yb p = fi sz yb p := by unfold be; rw [if_neg q]
      refine ok_m (ok_some ⟨⟨by rw [uI_nb (by omega), uI_nb (by omega), g6, ee], by rw [uI_nb (by omega), uI_eq, b0, ee], by rw [uI_eq, k0]; rfl, fun z => by rw [k0] at z; cases z⟩, c1F_tr gF ⟨fun a k ha => by rw [uI_at, if_neg (by omega), uI_at, if_neg (by omega)], rfl⟩⟩)
  unfold bX6_step_8
  rw [T1.2.2.2, g6, y1_4, yn_12]
  by_cases q : e < sz
  · rw [nI_clamp (show e < 2 ^ 31 by omega), T1.2.2.1 e q, c_kind (hy e), e_b, g6, nI_1]
    have kb := kk_b (yb e)
    refine ok_f (nI_ge q (by omega)) (ok_t (ib_nI (by omega) (by omega)) (ok_if (fun z => ?_) (fun z => ?_)))
    · have z : kk (yb e) = 4 := (nI_eq (by omega) (show 4 < 2 ^ 31 by omega)).mp z
      have lt : e < fi sz yb p := by
        apply Classical.byContradiction
        intro w
        have ee : e = fi sz yb p := by omega
        have := f4 (show rn (qk yb 4) sz p < sz by show fi sz yb p < sz; omega)
        have this : decide (kk (yb (fi sz yb p)) = 4) = false := this
        rw [← ee, decide_eq_true z] at this
        cases this
      exact ok_m (hb (fi sz yb p - (e + 1)) _ _ (by omega) ⟨e + 1, (by omega), (by omega), rfl, rfl, uI_eq, c1F_tr gF ⟨fun a k ha => by rw [uI_at, if_neg (by omega)], rfl⟩⟩)
    · have z : ¬ kk (yb e) = 4 := fun w => z (by rw [w]; rfl)
      refine tail ?_
      apply Classical.byContradiction
      intro w
      exact z (of_decide_eq_true (f3 e e1 (show e < fi sz yb p by omega)))
  · exact ok_t (nI_le (by omega) (by omega)) (tail (by omega))
end TK
