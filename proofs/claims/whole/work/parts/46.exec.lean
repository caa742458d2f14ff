/-! walking through straight code by rewriting -/
theorem e_m {α β : Type} {v : α} {K : α → Option β} : sg_m v K = K v := rfl
theorem e_b {α β : Type} {a : α} {M : sg_M} {K : α → sg_M → Option β} : sg_b (some (a, M)) K = K a M := rfl
theorem e_bv {β : Type} {M : sg_M} {K : sg_M → Option β} : sg_bv (some M) K = K M := rfl
theorem ib_t {i n : Nat} (h : i < n) (hn : n < 2 ^ 31) : (sg_ib (nI i) n = true) = True := eq_true (ib_nI h hn)
theorem le_t {a b : Nat} (h : b ≤ a) (ha : a < 2 ^ 31) : (nI b ≤ nI a) = True := eq_true (nI_le h ha)
theorem le_f {a b : Nat} (h : a < b) (hb : b < 2 ^ 31) : (nI b ≤ nI a) = False := eq_false (nI_ge h hb)
theorem lt_t {a b : Nat} (h : a < b) (hb : b < 2 ^ 31) : (nI a < nI b) = True := eq_true (nI_lt h hb)
theorem lt_f {a b : Nat} (h : b ≤ a) (ha : a < 2 ^ 31) : (nI a < nI b) = False := eq_false (nI_nlt h ha)
theorem q_t {a b : Nat} (h : a = b) : (nI a = nI b) = True := eq_true (by rw [h])
theorem q_f {a b : Nat} (h : a ≠ b) (ha : a < 2 ^ 31) (hb : b < 2 ^ 31) : (nI a = nI b) = False := eq_false (fun z => h ((nI_eq ha hb).mp z))
theorem q10 : ((1 : Int32) = 0) = False := by decide
theorem q00 : ((0 : Int32) = 0) = True := by decide
theorem qn1 {a : Nat} (h : a < 2 ^ 31) : (nI a = -1) = False := eq_false (fun z => by
  have := congrArg Int32.toInt z
  rw [nI_toInt h] at this
  have e : Int32.toInt (-1) = -1 := by decide
  rw [e] at this
  omega)
theorem nlt0 {a : Nat} (h : a < 2 ^ 31) : (nI a < 0) = False := eq_false (fun z => nI_nlt (Nat.zero_le a) h z)
theorem k_2 (a : Nat) : (2 : Int32) * nI a = nI (2 * a) := nI_mul 2 a
theorem k_6 (a : Nat) : (6 : Int32) + nI a = nI (6 + a) := nI_add 6 a
theorem k_15 (a : Nat) : (15 : Int32) + nI a = nI (15 + a) := nI_add 15 a
theorem k_24 (a : Nat) : (24 : Int32) + nI a = nI (24 + a) := nI_add 24 a
theorem k_28 (a : Nat) : (28 : Int32) + nI a = nI (28 + a) := nI_add 28 a
theorem c_0 : (0 : Int32).toNatClampNeg = 0 := by decide
theorem c_1 : (1 : Int32).toNatClampNeg = 1 := by decide
theorem c_2 : (2 : Int32).toNatClampNeg = 2 := by decide
theorem c_3 : (3 : Int32).toNatClampNeg = 3 := by decide
theorem c_4 : (4 : Int32).toNatClampNeg = 4 := by decide
theorem c_5 : (5 : Int32).toNatClampNeg = 5 := by decide
theorem i_0 : (sg_ib (0 : Int32) 40 = true) = True := by decide
theorem i_1 : (sg_ib (1 : Int32) 40 = true) = True := by decide
theorem i_2 : (sg_ib (2 : Int32) 40 = true) = True := by decide
theorem i_3 : (sg_ib (3 : Int32) 40 = true) = True := by decide
theorem i_4 : (sg_ib (4 : Int32) 40 = true) = True := by decide
theorem i_5 : (sg_ib (5 : Int32) 40 = true) = True := by decide
/-- a counted loop -/
theorem ok_for {σ β : Type} {F : (σ → sg_M → Option β) → σ → sg_M → Option β} {P : β → Prop} (i n : Nat) (Inv : Nat → σ → sg_M → Prop) {N : Nat} {s : σ} {M : sg_M} (hi : i ≤ n) (hN : n - i < N) (h0 : Inv i s M) (step : ∀ i s M back, i < n → Inv i s M → (∀ s1 M1, Inv (i + 1) s1 M1 → ok (back s1 M1) P) → ok (F back s M) P) (fin : ∀ s M back, Inv n s M → ok (F back s M) P) : ok (sg_lp F N s M) P := by
  refine ok_lp (fun m s M1 => ∃ i, i ≤ n ∧ m = n - i ∧ Inv i s M1) ?_ N (n - i) s M ⟨i, hi, rfl, h0⟩ hN
  rintro m s M1 back ⟨i, hi, rfl, hI⟩ hb
  by_cases e : i = n
  · subst e; exact fin s M1 back hI
  · exact step i s M1 back (by omega) hI (fun s1 M2 h => hb (n - (i + 1)) s1 M2 (by omega) ⟨i + 1, by omega, rfl, h⟩)
theorem ok_eq {α : Type} {o : Option α} {a : α} (h : ok o (fun x => x = a)) : o = some a := by
  obtain ⟨x, e, rfl⟩ := h
  exact e
theorem ok_rfl {α : Type} {o : Option α} {a : α} (h : o = some a) : ok o (fun x => x = a) := ⟨a, h, rfl⟩
/-- indices -/
theorem ib_ex {x : Int32} {n : Nat} (h : sg_ib x n = true) : ∃ v, v < n ∧ x = nI v := by
  have h := of_decide_eq_true h
  refine ⟨x.toInt.toNat, by omega, ?_⟩
  apply Int32.toInt_inj.mp
  have h3 := Int32.toInt_lt x
  rw [nI_toInt (by omega)]
  omega
theorem lg_lt {x y : Int64} : lg_cmp x y < 0 ↔ x < y := by
  unfold lg_cmp
  by_cases h : x > y
  · rw [if_pos h]
    refine ⟨fun z => absurd z (by decide), fun z => ?_⟩
    have h : y < x := h
    rw [Int64.lt_iff_toInt_lt] at z h
    omega
  · rw [if_neg h]
    by_cases e : x = y
    · rw [if_pos e, e]
      exact ⟨fun z => absurd z (by decide), fun z => absurd z Int64.lt_irrefl⟩
    · rw [if_neg e]
      refine ⟨fun _ => ?_, fun _ => by decide⟩
      rw [Int64.lt_iff_toInt_lt]
      have e1 : ¬ x.toInt = y.toInt := fun z => e (Int64.toInt_inj.mp z)
      have h1 : ¬ y.toInt < x.toInt := fun z => h (Int64.lt_iff_toInt_lt.mpr z)
      omega
theorem lg_gt {x y : Int64} : 0 < lg_cmp x y ↔ y < x := by
  unfold lg_cmp
  by_cases h : x > y
  · rw [if_pos h]
    exact ⟨fun _ => h, fun _ => by decide⟩
  · rw [if_neg h]
    by_cases e : x = y
    · rw [if_pos e, e]
      exact ⟨fun z => absurd z (by decide), fun z => absurd z Int64.lt_irrefl⟩
    · rw [if_neg e]
      exact ⟨fun z => absurd z (by decide), fun z => absurd z h⟩
theorem lg_ge {x y : Int64} : 0 ≤ lg_cmp x y ↔ ¬ x < y := by
  rw [← lg_lt]
  exact ⟨fun h z => by rw [Int32.le_iff_toInt_le] at h; rw [Int32.lt_iff_toInt_lt] at z; omega, fun h => by rw [Int32.le_iff_toInt_le]; rw [Int32.lt_iff_toInt_lt] at h; omega⟩
theorem lg_le {x y : Int64} : lg_cmp x y ≤ 0 ↔ ¬ y < x := by
  rw [← lg_gt]
  exact ⟨fun h z => by rw [Int32.le_iff_toInt_le] at h; rw [Int32.lt_iff_toInt_lt] at z; omega, fun h => by rw [Int32.le_iff_toInt_le]; rw [Int32.lt_iff_toInt_lt] at h; omega⟩
theorem i64 (x : Int32) : x.toInt64 = lI x.toInt := (Int64.ofInt_int32ToInt x).symm
theorem i32_b (x : Int32) : -2147483648 ≤ x.toInt ∧ x.toInt < 2147483648 := ⟨Int32.le_toInt x, Int32.toInt_lt x⟩
/-- the reference's test of an index -/
theorem r_in {N n : Nat} {x : Int32} {M : sg_M} (hn : n < 2 ^ 31) : fX11_in N x.toInt64 0 (lI ((n : Int) - 1)) M = some (if sg_ib x n = true then 1 else 0, M) := by
  have hx := i32_b x
  unfold fX11_in
  rw [i64, show (0 : Int64) = lI 0 from rfl]
  by_cases h1 : x.toInt < 0
  · rw [if_pos (lg_lt.mpr ((lI_lt (by omega) (by omega) (by omega) (by omega)).mpr h1)), if_neg (fun z => by have := of_decide_eq_true z; omega)]
  · rw [if_neg (fun z => h1 ((lI_lt (by omega) (by omega) (by omega) (by omega)).mp (lg_lt.mp z)))]
    by_cases h2 : (n : Int) - 1 < x.toInt
    · rw [if_pos (lg_gt.mpr ((lI_lt (by omega) (by omega) (by omega) (by omega)).mpr h2)), if_neg (fun z => by have := of_decide_eq_true z; omega)]
    · rw [if_neg (fun z => h2 ((lI_lt (by omega) (by omega) (by omega) (by omega)).mp (lg_gt.mp z))), if_pos (show sg_ib x n = true from decide_eq_true (by omega))]
theorem r_isPart {N : Nat} {x : Int32} {M : sg_M} : fX11_isPart N x M = some (if sg_ib x 2 = true then 1 else 0, M) := by
  unfold fX11_isPart
  rw [show (1 : Int64) = lI (((2 : Nat) : Int) - 1) from rfl, r_in (n := 2) (by omega), e_b, if_pos bz01]
theorem nI_pd {n : Nat} (h : n < 2 ^ 31) : (nI n - 1).toInt64 = lI ((n : Int) - 1) := by
  rw [i64]
  congr 1
  rw [show (1 : Int32) = nI 1 from rfl]
  rcases Nat.eq_zero_or_pos n with e | e
  · subst e; decide
  · rw [show nI n - nI 1 = nI (n - 1) from ?_, nI_toInt (by omega)]
    · omega
    · have : nI (n - 1) + nI 1 = nI n := by rw [nI_add]; congr 1; omega
      rw [← this]
      exact Int32.add_sub_cancel _ _
theorem r_isNode {N n : Nat} {x : Int32} {M : sg_M} (h : M.1 1 0 * M.1 1 1 = nI n) (hn : n < 2 ^ 31) : fX11_isNode N 0 x M = some (if sg_ib x n = true then 1 else 0, M) := by
  unfold fX11_isNode
  rw [r_nodesE h, e_b, nI_pd hn, r_in hn, e_b, if_pos bz01]
theorem ib_lt {x : Int32} {n : Nat} {M : sg_M} (hn : n < 2 ^ 31) : (if x < 0 then some ((0 : Int32), M) else if nI n ≤ x then some (0, M) else some (1, M)) = some (if sg_ib x n = true then 1 else 0, M) := by
  by_cases h1 : x < 0
  · have h1' := Int32.lt_iff_toInt_lt.mp h1
    have e0 : Int32.toInt 0 = 0 := by decide
    rw [if_pos h1, if_neg (fun z => by have := of_decide_eq_true z; omega)]
  · rw [if_neg h1]
    rw [Int32.lt_iff_toInt_lt] at h1
    have e : Int32.toInt 0 = 0 := by decide
    by_cases h2 : nI n ≤ x
    · rw [if_pos h2, if_neg (fun z => by have := of_decide_eq_true z; rw [Int32.le_iff_toInt_le, nI_toInt hn] at h2; omega)]
    · rw [if_neg h2, if_pos]
      rw [Int32.le_iff_toInt_le, nI_toInt hn] at h2
      exact decide_eq_true (by omega)
theorem c_hasNode {N n : Nat} {x : Int32} {M : sg_M} (h : M.1 13 5 = nI n) (hn : n < 2 ^ 31) : fX10_hasNode N 0 x M = some (if sg_ib x n = true then 1 else 0, M) := by
  unfold fX10_hasNode
  rw [show Yc.2.2.2 0 1 = 13 by decide, h]
  exact ib_lt hn
theorem c_hasStrap {N n : Nat} {x : Int32} {M : sg_M} (h : M.1 13 6 = nI n) (hn : n < 2 ^ 31) : fX10_hasStrap N 0 x M = some (if sg_ib x n = true then 1 else 0, M) := by
  unfold fX10_hasStrap
  rw [show Yc.2.2.2 0 1 = 13 by decide, h]
  exact ib_lt hn
theorem c_noGrid {N n : Nat} {M : sg_M} (h : M.1 13 5 = nI n) (hn : n < 2 ^ 31) : fX10_noGrid N 0 M = some (if n = 0 then 1 else 0, M) := by
  unfold fX10_noGrid
  rw [show Yc.2.2.2 0 1 = 13 by decide, h]
  by_cases e : n = 0
  · rw [if_pos e, if_pos ((nI_z hn).mpr e)]
  · rw [if_neg e, if_neg (fun z => e ((nI_z hn).mp z))]
theorem ib2 {x : Int32} : sg_ib x 2 = true ↔ x = 0 ∨ x = 1 := by
  constructor
  · intro h
    obtain ⟨v, hv, rfl⟩ := ib_ex h
    have : v = 0 ∨ v = 1 := by omega
    rcases this with rfl | rfl
    · exact Or.inl rfl
    · exact Or.inr rfl
  · rintro (rfl | rfl) <;> decide
theorem c_isPart {N : Nat} {x : Int32} {M : sg_M} : fX10_isPart N x M = some (if sg_ib x 2 = true then 1 else 0, M) := by
  unfold fX10_isPart gX10_isPart_9
  by_cases h : x = 0
  · rw [if_pos h, if_pos (ib2.mpr (Or.inl h))]
  · rw [if_neg h]
    by_cases h2 : x = 1
    · rw [if_pos h2, if_pos (ib2.mpr (Or.inr h2))]
    · rw [if_neg h2, if_neg (fun z => (ib2.mp z).elim h h2)]
/-! fractions -/
theorem lI_divN {a b : Nat} (ha : a < 2 ^ 62) (hb : b < 2 ^ 62) : lI a / lI b = lI ((a / b : Nat) : Int) := by
  have := Int64.ofInt_tdiv (a := (a : Int)) (b := (b : Int)) (by rw [Int64.toInt_minValue]; omega) (by rw [Int64.toInt_maxValue]; omega) (by rw [Int64.toInt_minValue]; omega) (by rw [Int64.toInt_maxValue]; omega)
  rw [← Int.ofNat_tdiv] at this
  exact this.symm
theorem lI_remN {a b : Nat} (ha : a < 2 ^ 62) (hb : b < 2 ^ 62) : lI a - lI a / lI b * lI b = lI ((a % b : Nat) : Int) := by
  rw [lI_divN ha hb, lI_mul, lI_sub]
  congr 1
  have := Nat.div_add_mod a b
  have e : ((a / b : Nat) : Int) * (b : Int) = ((b * (a / b) : Nat) : Int) := by push_cast; rw [Int.mul_comm]
  rw [e]
  omega
theorem lN0 {b : Nat} (hb : b < 2 ^ 62) : lI (b : Int) = 0 ↔ b = 0 := by
  rw [show (0 : Int64) = lI 0 from rfl, lI_eq (by omega) (by omega) (by omega) (by omega)]
  omega
theorem lI_abs {x : Int} (h : -4611686018427387904 < x ∧ x < 4611686018427387904) : (if 0 < lI x then lI x else - lI x) = lI (x.natAbs : Int) := by
  by_cases q : 0 < x
  · rw [if_pos ((show (0 : Int64) = lI 0 from rfl) ▸ (lI_lt (by omega) (by omega) (by omega) (by omega)).mpr q)]
    congr 1
    omega
  · rw [if_neg (show ¬ (0 : Int64) < lI x from fun z => q ((lI_lt (a := 0) (b := x) (by omega) (by omega) (by omega) (by omega)).mp z)), lI_neg]
    congr 1
    omega
theorem half {a b : Nat} (h0 : b ≠ 0) (h : b < a) : 2 * (a % b) < a := by
  have h1 := Nat.mod_lt a (Nat.pos_of_ne_zero h0)
  by_cases q : 2 * b ≤ a
  · omega
  · have : a % b = a - b := by
      rw [Nat.mod_eq_sub_mod (by omega), Nat.mod_eq_of_lt (by omega)]
    omega
/-- so many steps are left at most -/
def euc (n a b : Nat) : Prop := ∃ i, (b < 2 ^ i ∧ 2 * i ≤ n) ∨ (a < 2 ^ i ∧ b < a ∧ 2 * i ≤ n + 1)
theorem euc_step {n a b : Nat} (h : euc n a b) (hb : b ≠ 0) : 1 ≤ n ∧ euc (n - 1) b (a % b) := by
  have hm := Nat.mod_lt a (Nat.pos_of_ne_zero hb)
  obtain ⟨i, h | h⟩ := h
  · have : i ≠ 0 := fun z => by subst z; omega
    exact ⟨by omega, i, Or.inr ⟨h.1, hm, by omega⟩⟩
  · have hh := half hb h.2.1
    have h0 : i ≠ 0 := fun z => by subst z; omega
    have h1 : i ≠ 1 := fun z => by subst z; omega
    obtain ⟨j, rfl⟩ : ∃ j, i = j + 1 := ⟨i - 1, by omega⟩
    rw [Nat.pow_succ] at h
    exact ⟨by omega, j, Or.inl ⟨by omega, by omega⟩⟩
theorem euc_0 {a b : Nat} (hb : b < 2 ^ 49) : euc 98 a b := ⟨49, Or.inl ⟨hb, by omega⟩⟩
theorem r_common {N : Nat} {x d : Int} {M : sg_M} (hx : -4611686018427387904 < x ∧ x < 4611686018427387904) (hd : 0 < d ∧ d < 562949953421312) (hN : 200 ≤ N) : fX11_common N (lI x) (lI d) M = some (lI (Int.gcd x d : Int), M) := by
  unfold fX11_common
  rw [lI_abs hx, lI_abs (by omega)]
  apply ok_eq
  refine ok_m (ok_m ?_)
  unfold gX11_common_12
  refine ok_lp (fun n s M1 => ∃ a b : Nat, a < 2 ^ 62 ∧ b < 2 ^ 62 ∧ s = (lI (a : Int), lI (b : Int)) ∧ M = M1 ∧ Nat.gcd a b = Int.gcd x d ∧ euc n a b) ?_ N 98 _ M ⟨x.natAbs, d.natAbs, by omega, by omega, rfl, rfl, rfl, euc_0 (by omega)⟩ (by omega)
  rintro n s M1 back ⟨a, b, ha, hb, rfl, rfl, hg, he⟩ hk
  unfold bX11_common_12
  dsimp only
  refine ok_if (fun h => ?_) (fun h => ?_)
  · have e := (lN0 hb).mp (lg0.mp h)
    subst e
    rw [Nat.gcd_zero_right] at hg
    rw [hg]
    exact ok_some rfl
  · have e : b ≠ 0 := fun z => h (lg0.mpr ((lN0 hb).mpr z))
    have hm := Nat.mod_lt a (Nat.pos_of_ne_zero e)
    refine ok_f (fun z => e ((lN0 hb).mp z)) (ok_m (ok_m (ok_m ?_)))
    obtain ⟨h1, h2⟩ := euc_step he e
    refine hk (n - 1) _ _ (by omega) ⟨b, a % b, hb, by omega, by rw [lI_remN ha hb], rfl, ?_, h2⟩
    rw [← hg, Nat.gcd_comm a b, Nat.gcd_rec b a, Nat.gcd_comm]
theorem c_common {N : Nat} {x d : Nat} {M : sg_M} (hx : x < 2 ^ 62) (hd : d < 2 ^ 49) (hN : 200 ≤ N) : fX10_commonDivisor N (lI x) (lI d) M = some (lI (Nat.gcd x d : Int), M) := by
  unfold fX10_commonDivisor
  apply ok_eq
  refine ok_m (ok_m (ok_m ?_))
  unfold gX10_commonDivisor_9
  refine ok_lp (fun n s M1 => ∃ a b k : Nat, a < 2 ^ 62 ∧ b < 2 ^ 62 ∧ k + n ≤ 98 ∧ s = (lI (a : Int), lI (b : Int), nI k) ∧ M = M1 ∧ Nat.gcd a b = Nat.gcd x d ∧ euc n a b) ?_ N 98 _ M ⟨x, d, 0, by omega, by omega, by omega, rfl, rfl, rfl, euc_0 (by omega)⟩ (by omega)
  rintro n s M1 back ⟨a, b, k, ha, hb, hkn, rfl, rfl, hg, he⟩ hk
  unfold bX10_commonDivisor_9
  dsimp only
  refine ok_f (show ¬ nI 100 ≤ nI k from nI_ge (by omega) (by omega)) ?_
  refine ok_if (fun h => ?_) (fun h => ?_)
  · have e := (lN0 hb).mp (lg0.mp h)
    subst e
    rw [Nat.gcd_zero_right] at hg
    rw [hg]
    exact ok_some rfl
  · have e : b ≠ 0 := fun z => h (lg0.mpr ((lN0 hb).mpr z))
    have hm := Nat.mod_lt a (Nat.pos_of_ne_zero e)
    refine ok_f (fun z => e ((lN0 hb).mp z)) (ok_m (ok_m (ok_m (ok_m ?_))))
    obtain ⟨h1, h2⟩ := euc_step he e
    refine hk (n - 1) _ _ (by omega) ⟨b, a % b, k + 1, hb, by omega, by omega, by rw [lI_remN ha hb, nI_1], rfl, ?_, h2⟩
    rw [← hg, Nat.gcd_comm a b, Nat.gcd_rec b a, Nat.gcd_comm]
/-- a part of a fraction in lowest terms -/
def pt (x d : Int) (what : Int32) : Int64 := if what = 0 then lI x / lI (Int.gcd x d : Int) else lI d / lI (Int.gcd x d : Int)
theorem gcd_pos {x d : Int} (hd : 0 < d ∧ d < 562949953421312) : 0 < Int.gcd x d ∧ Int.gcd x d < 2 ^ 50 := by
  have h1 : 0 < Int.gcd x d := Int.gcd_pos_of_ne_zero_right _ (by omega)
  have h2 : Int.gcd x d ≤ d.natAbs := Nat.gcd_le_right _ (by omega)
  exact ⟨h1, by omega⟩
theorem r_part {N : Nat} {x d : Int} {what : Int32} {M : sg_M} (hx : -4611686018427387904 < x ∧ x < 4611686018427387904) (hd : 0 < d ∧ d < 562949953421312) (hN : 200 ≤ N) : fX11_part N (lI x) (lI d) what M = some (pt x d what, M) := by
  obtain ⟨g1, g2⟩ := gcd_pos (x := x) hd
  unfold fX11_part
  have gn : ¬ lI (Int.gcd x d : Int) = 0 := fun z => by have := (lN0 (b := Int.gcd x d) (by omega)).mp z; omega
  rw [r_common hx hd hN, e_b, e_m, if_neg gn, if_neg gn]
  unfold pt
  by_cases h : what = 0
  · rw [if_pos h, if_pos h]
  · rw [if_neg h, if_neg h]
theorem c_part {N : Nat} {x d : Int} {what : Int32} {M : sg_M} (hx : -4611686018427387904 < x ∧ x < 4611686018427387904) (hd : 0 < d ∧ d < 562949953421312) (hN : 200 ≤ N) : fX10_partOf N (lI x) (lI d) what M = some (pt x d what, M) := by
  obtain ⟨g1, g2⟩ := gcd_pos (x := x) hd
  unfold fX10_partOf
  rw [lI_abs hx, show lI d = lI ((d.natAbs : Nat) : Int) by congr 1; omega, c_common (by omega) (by omega) hN, e_b, e_m, show (d.natAbs : Int) = d by omega]
  show (if 0 < lg_cmp (lI (Int.gcd x d : Int)) 0 then _ else _) = _
  rw [if_pos (show 0 < lg_cmp (lI (Int.gcd x d : Int)) 0 from lg_gt.mpr ((lI_lt (a := 0) (by omega) (by omega) (by omega) (by omega)).mpr (by omega)))]
  unfold pt
  by_cases h : what = 0
  · rw [if_pos h, if_pos h]
    exact if_neg (fun z => by have := (lN0 (b := Int.gcd x d) (by omega)).mp z; omega)
  · rw [if_neg h, if_neg h]
    exact if_neg (fun z => by have := (lN0 (b := Int.gcd x d) (by omega)).mp z; omega)
/-- how two fractions are to each other -/
def cmpN (x y : Nat) : Int32 := if x < y then -1 else if y < x then 1 else 0
theorem cmpN_lt {x y : Nat} (h : x < y) : cmpN x y = -1 := if_pos h
theorem cmpN_gt {x y : Nat} (h : y < x) : cmpN x y = 1 := by unfold cmpN; rw [if_neg (by omega), if_pos h]
theorem cmpN_eq {x y : Nat} (h : x = y) : cmpN x y = 0 := by unfold cmpN; rw [if_neg (by omega), if_neg (by omega)]
def sgB (f : Bool) : Int32 := if f = true then 1 else -1
theorem sgB_neg (f : Bool) : - sgB f = sgB (!f) := by cases f <;> decide
def cmpF (f : Bool) (x y : Nat) : Int32 := if f = true then cmpN x y else cmpN y x
theorem cmpF_lt {f : Bool} {x y : Nat} (h : x < y) : cmpF f x y = - sgB f := by
  unfold cmpF sgB
  cases f
  · rw [if_neg (by decide), if_neg (by decide), cmpN_gt h]; decide
  · rw [if_pos rfl, if_pos rfl, cmpN_lt h]
theorem cmpF_gt {f : Bool} {x y : Nat} (h : y < x) : cmpF f x y = sgB f := by
  unfold cmpF sgB
  cases f
  · rw [if_neg (by decide), if_neg (by decide), cmpN_lt h]
  · rw [if_pos rfl, if_pos rfl, cmpN_gt h]
theorem cmpF_eq {f : Bool} {x y : Nat} (h : x = y) : cmpF f x y = 0 := by
  unfold cmpF
  cases f
  · rw [if_neg (by decide), cmpN_eq h.symm]
  · rw [if_pos rfl, cmpN_eq h]
theorem cmpF_not {f : Bool} {x y : Nat} : cmpF (!f) x y = cmpF f y x := by unfold cmpF; cases f <;> rfl
theorem cmpF_add {f : Bool} {x y z : Nat} : cmpF f (z + x) (z + y) = cmpF f x y := by
  unfold cmpF cmpN
  cases f <;> simp
theorem frac_q {a b c d : Nat} (hb : 0 < b) (hd : 0 < d) (h : a / b < c / d) : a * d < c * b := by
  have h1 : a < (a / b + 1) * b := by
    have := Nat.div_add_mod a b
    have := Nat.mod_lt a hb
    rw [Nat.add_mul, Nat.mul_comm (a / b) b]
    omega
  have h2 : c / d * d ≤ c := Nat.div_mul_le_self c d
  have h3 : (a / b + 1) * b ≤ c / d * b := Nat.mul_le_mul_right b h
  have h4 : a * d < c / d * b * d := Nat.mul_lt_mul_of_lt_of_le (by omega) (Nat.le_refl d) hd
  have h5 : c / d * b * d = c / d * d * b := by rw [Nat.mul_assoc, Nat.mul_comm b d, ← Nat.mul_assoc]
  have h6 : c / d * d * b ≤ c * b := Nat.mul_le_mul_right b h2
  omega
theorem frac_r {a b c d : Nat} {f : Bool} (h : a / b = c / d) : cmpF f (a * d) (c * b) = cmpF f (a % b * d) (c % d * b) := by
  have h1 := Nat.div_add_mod a b
  have h2 := Nat.div_add_mod c d
  have e1 : a * d = b * (c / d) * d + a % b * d := by rw [← Nat.add_mul, ← h, h1]
  have e2 : c * b = b * (c / d) * d + c % d * b := by
    have : b * (c / d) * d = d * (c / d) * b := by rw [Nat.mul_comm b, Nat.mul_assoc, Nat.mul_comm b d, ← Nat.mul_assoc, Nat.mul_comm d (c / d)]
    rw [this, ← Nat.add_mul, h2]
  rw [e1, e2, cmpF_add]
theorem r_compares {N a b c d : Nat} {M : sg_M} (ha : a < 2 ^ 62) (hb : 0 < b ∧ b < 2 ^ 49) (hc : c < 2 ^ 62) (hd : 0 < d ∧ d < 2 ^ 49) (hN : 200 ≤ N) : fX11_compares N (lI a) (lI b) (lI c) (lI d) M = some (cmpN (a * d) (c * b), M) := by
  unfold fX11_compares
  apply ok_eq
  refine ok_m (ok_m (ok_m (ok_m (ok_m ?_))))
  unfold gX11_compares_17
  refine ok_lp (fun n s M1 => ∃ (a1 b1 c1 d1 : Nat) (f : Bool), a1 < 2 ^ 62 ∧ (0 < b1 ∧ b1 < 2 ^ 49) ∧ c1 < 2 ^ 62 ∧ (0 < d1 ∧ d1 < 2 ^ 49) ∧ s = (lI (a1 : Int), lI (b1 : Int), lI (c1 : Int), lI (d1 : Int), sgB f) ∧ M = M1 ∧ cmpF f (a1 * d1) (c1 * b1) = cmpN (a * d) (c * b) ∧ euc n a1 b1) ?_ N 98 _ M ⟨a, b, c, d, true, ha, hb, hc, hd, rfl, rfl, rfl, euc_0 (by omega)⟩ (by omega)
  rintro n s M1 back ⟨a1, b1, c1, d1, f, ha1, hb1, hc1, hd1, rfl, rfl, hT, he⟩ hk
  unfold bX11_compares_17
  dsimp only
  have nb : ¬ lI (b1 : Int) = 0 := fun z => by have := (lN0 (b := b1) (by omega)).mp z; omega
  have nd : ¬ lI (d1 : Int) = 0 := fun z => by have := (lN0 (b := d1) (by omega)).mp z; omega
  have q1 : a1 / b1 ≤ a1 := Nat.div_le_self _ _
  have q2 : c1 / d1 ≤ c1 := Nat.div_le_self _ _
  have q3 : (0 : Int) ≤ ((a1 / b1 : Nat) : Int) := Int.natCast_nonneg _
  have q4 : (0 : Int) ≤ ((c1 / d1 : Nat) : Int) := Int.natCast_nonneg _
  refine ok_f nb (ok_f nd ?_)
  rw [lI_divN (by omega) (by omega), lI_divN (by omega) (by omega)]
  refine ok_if (fun h => ?_) (fun h => ?_)
  · have e := (lI_eq (by omega) (by omega) (by omega) (by omega)).mp (lg0.mp h)
    have e : a1 / b1 = c1 / d1 := by omega
    rw [frac_r e] at hT
    refine ok_f nb (ok_m (ok_f nd (ok_m ?_)))
    rw [← lI_divN (show a1 < 2 ^ 62 by omega) (show b1 < 2 ^ 62 by omega), ← lI_divN (show c1 < 2 ^ 62 by omega) (show d1 < 2 ^ 62 by omega), lI_remN (by omega) (by omega), lI_remN (by omega) (by omega)]
    have m1 := Nat.mod_lt a1 hb1.1
    have m2 := Nat.mod_lt c1 hd1.1
    have last : (a1 % b1 = 0 ∨ c1 % d1 = 0) → ok (gX11_compares_82 N (sgB f) (lI ((a1 % b1 : Nat) : Int)) (lI ((c1 % d1 : Nat) : Int)) M) (fun x => x = (cmpN (a * d) (c * b), M)) := fun hor => by
      unfold gX11_compares_82
      rw [← hT]
      refine ok_if (fun z => ?_) (fun z => ?_)
      · have z := (lI_eq (by omega) (by omega) (by omega) (by omega)).mp (lg0.mp z)
        refine ok_some ?_
        have e1 : a1 % b1 = 0 := by omega
        have e2 : c1 % d1 = 0 := by omega
        rw [e1, e2, Nat.zero_mul, Nat.zero_mul, cmpF_eq rfl]
      · refine ok_if (fun y => ?_) (fun y => ?_)
        · have y := (lN0 (by omega)).mp (lg0.mp y)
          have e2 : 0 < c1 % d1 := by
            rcases Nat.eq_zero_or_pos (c1 % d1) with q | q
            · rw [y, q] at z; exact absurd (lg0.mpr rfl) z
            · exact q
          refine ok_some ?_
          rw [y, Nat.zero_mul, cmpF_lt (Nat.mul_pos e2 hb1.1)]
        · have y : ¬ a1 % b1 = 0 := fun q => y (lg0.mpr ((lN0 (by omega)).mpr q))
          have e2 : c1 % d1 = 0 := by omega
          refine ok_some ?_
          rw [e2, Nat.zero_mul, cmpF_gt (Nat.mul_pos (by omega) hd1.1)]
    refine ok_if (fun z => ?_) (fun z => ?_)
    · exact last (Or.inl ((lN0 (by omega)).mp (lg0.mp z)))
    · refine ok_if (fun y => ?_) (fun y => ?_)
      · exact last (Or.inr ((lN0 (by omega)).mp (lg0.mp y)))
      · have z : ¬ a1 % b1 = 0 := fun q => z (lg0.mpr ((lN0 (by omega)).mpr q))
        have y : ¬ c1 % d1 = 0 := fun q => y (lg0.mpr ((lN0 (by omega)).mpr q))
        refine ok_m (ok_m (ok_m (ok_m (ok_m ?_))))
        obtain ⟨h1, h2⟩ := euc_step he (show b1 ≠ 0 by omega)
        refine hk (n - 1) _ _ (by omega) ⟨b1, a1 % b1, d1, c1 % d1, !f, by omega, by omega, by omega, by omega, by rw [sgB_neg], rfl, ?_, h2⟩
        rw [cmpF_not, ← hT, Nat.mul_comm d1, Nat.mul_comm b1]
  · have e : ¬ a1 / b1 = c1 / d1 := fun z => h (lg0.mpr (by rw [z]))
    refine ok_f nb (ok_f nd ?_)
    refine ok_if (fun z => ?_) (fun z => ?_)
    · have z : ¬ a1 / b1 < c1 / d1 := fun q => lg_ge.mp z ((lI_lt (by omega) (by omega) (by omega) (by omega)).mpr (by omega))
      refine ok_some ?_
      rw [← hT, cmpF_gt (frac_q hd1.1 hb1.1 (by omega))]
    · have z : a1 / b1 < c1 / d1 := by
        rcases Nat.lt_or_ge (a1 / b1) (c1 / d1) with q | q
        · exact q
        · exact absurd (lg_ge.mpr (fun y => by have := (lI_lt (by omega) (by omega) (by omega) (by omega)).mp y; omega)) z
      refine ok_some ?_
      rw [← hT, cmpF_lt (frac_q hb1.1 hd1.1 z)]
