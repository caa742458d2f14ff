def bt (x : Int32) (i : Nat) : Bool := x.toBitVec.getLsbD i
theorem b_ext {x y : Int32} (h : ∀ i, i < 32 → bt x i = bt y i) : x = y := Int32.toBitVec_inj.mp (BitVec.eq_of_getLsbD_eq (fun i hi => h i hi))
theorem b_or (x y : Int32) (i : Nat) : bt (x ||| y) i = (bt x i || bt y i) := by unfold bt; rw [Int32.toBitVec_or, BitVec.getLsbD_or]
theorem b_and (x y : Int32) (i : Nat) : bt (x &&& y) i = (bt x i && bt y i) := by unfold bt; rw [Int32.toBitVec_and, BitVec.getLsbD_and]
theorem b_xor (x y : Int32) (i : Nat) : bt (x ^^^ y) i = (bt x i ^^ bt y i) := by unfold bt; rw [Int32.toBitVec_xor, BitVec.getLsbD_xor]
theorem b_big {x : Int32} {i : Nat} (h : 32 ≤ i) : bt x i = false := BitVec.getLsbD_of_ge _ _ h
theorem b_255 (i : Nat) : bt 255 i = decide (i < 8) := by
  rcases Nat.lt_or_ge i 32 with h | h
  · exact (by decide +kernel : ∀ i, i < 32 → bt 255 i = decide (i < 8)) i h
  · rw [b_big h, decide_eq_false (by omega)]
theorem b_65535 (i : Nat) : bt 65535 i = decide (i < 16) := by
  rcases Nat.lt_or_ge i 32 with h | h
  · exact (by decide +kernel : ∀ i, i < 32 → bt 65535 i = decide (i < 16)) i h
  · rw [b_big h, decide_eq_false (by omega)]
theorem b_m1 : ∀ i, i < 32 → bt (-1) i = true := by decide +kernel
theorem b_0 (i : Nat) : bt 0 i = false := BitVec.getLsbD_zero
theorem s_l : ∀ n, n < 32 → ((nI n &&& 31).toBitVec.smod 32).toNat = n := by decide +kernel
theorem s_u : ∀ n, n < 32 → (((nI n).toUInt32 &&& Int32.toUInt32 31).toBitVec % 32).toNat = n := by decide +kernel
theorem b_shl (n : Nat) (hn : n < 32) (x : Int32) {i : Nat} (hi : i < 32) : bt (x <<< (nI n &&& 31)) i = (decide (n ≤ i) && bt x (i - n)) := by
  unfold bt
  rw [Int32.toBitVec_shiftLeft]
  show (x.toBitVec <<< ((nI n &&& 31).toBitVec.smod 32).toNat).getLsbD i = _
  rw [s_l n hn, BitVec.getLsbD_shiftLeft]
  rcases Nat.lt_or_ge i n with h | h
  · simp [h, Nat.not_le.mpr h]
  · simp [hi, h, Nat.not_lt.mpr h]
theorem b_ushr (n : Nat) (hn : n < 32) (x : Int32) (i : Nat) : bt ((x.toUInt32 >>> ((nI n).toUInt32 &&& Int32.toUInt32 31)).toInt32) i = bt x (n + i) := by
  show (x.toUInt32 >>> ((nI n).toUInt32 &&& Int32.toUInt32 31)).toBitVec.getLsbD i = x.toUInt32.toBitVec.getLsbD (n + i)
  rw [UInt32.toBitVec_shiftRight]
  show (x.toUInt32.toBitVec >>> (((nI n).toUInt32 &&& Int32.toUInt32 31).toBitVec % 32).toNat).getLsbD i = _
  rw [s_u n hn, BitVec.getLsbD_ushiftRight]
theorem b_sshr (n : Nat) (hn : n < 32) (x : Int32) {i : Nat} (hi : i < 32) : bt (x >>> (nI n &&& 31)) i = if n + i < 32 then bt x (n + i) else bt x 31 := by
  unfold bt
  rw [Int32.toBitVec_shiftRight]
  show (x.toBitVec.sshiftRight ((nI n &&& 31).toBitVec.smod 32).toNat).getLsbD i = _
  rw [s_l n hn, BitVec.getLsbD_sshiftRight, BitVec.msb_eq_getLsbD_last]
  simp [hi]
/-! The calculus of functions over the store: ok o P: o is there, and P holds of it. -/
def ok {α : Type} (o : Option α) (P : α → Prop) : Prop := ∃ a, o = some a ∧ P a
theorem ok_some {α : Type} {a : α} {P : α → Prop} (h : P a) : ok (some a) P := ⟨a, rfl, h⟩
theorem ok_m {α β : Type} {v : α} {K : α → Option β} {P : β → Prop} (h : ok (K v) P) : ok (sg_m v K) P := h
theorem ok_if {β : Type} {c : Prop} [Decidable c] {A B : Option β} {P : β → Prop} (ha : c → ok A P) (hb : ¬ c → ok B P) : ok (if c then A else B) P := by
  by_cases q : c
  · rw [if_pos q]; exact ha q
  · rw [if_neg q]; exact hb q
theorem ok_t {β : Type} {c : Prop} [Decidable c] {A B : Option β} {P : β → Prop} (q : c) (ha : ok A P) : ok (if c then A else B) P := by rw [if_pos q]; exact ha
theorem ok_f {β : Type} {c : Prop} [Decidable c] {A B : Option β} {P : β → Prop} (q : ¬ c) (hb : ok B P) : ok (if c then A else B) P := by rw [if_neg q]; exact hb
theorem ok_b {α β : Type} {f : Option (α × sg_M)} {K : α → sg_M → Option β} {P : β → Prop} {Q : α × sg_M → Prop} (hf : ok f Q) (hk : ∀ a M, Q (a, M) → ok (K a M) P) : ok (sg_b f K) P := by
  obtain ⟨⟨a, M⟩, rfl, q⟩ := hf
  exact hk a M q
theorem ok_bv {β : Type} {f : Option sg_M} {K : sg_M → Option β} {P : β → Prop} {Q : sg_M → Prop} (hf : ok f Q) (hk : ∀ M, Q M → ok (K M) P) : ok (sg_bv f K) P := by
  obtain ⟨M, rfl, q⟩ := hf
  exact hk M q
theorem ok_imp {α : Type} {o : Option α} {P Q : α → Prop} (h : ok o P) (hi : ∀ a, P a → Q a) : ok o Q := by
  obtain ⟨a, e, p⟩ := h
  exact ⟨a, e, hi a p⟩
/-- a loop by an invariant with a number that falls -/
theorem ok_lp {σ β : Type} {F : (σ → sg_M → Option β) → σ → sg_M → Option β} {P : β → Prop} (Inv : Nat → σ → sg_M → Prop) (step : ∀ n s M back, Inv n s M → (∀ n1 s1 M1, n1 < n → Inv n1 s1 M1 → ok (back s1 M1) P) → ok (F back s M) P) : ∀ (N n : Nat) (s : σ) (M : sg_M), Inv n s M → n < N → ok (sg_lp F N s M) P := by
  intro N
  induction N with
  | zero => intro n s M _ h; omega
  | succ N ih =>
    intro n s M hI hn
    exact step n s M (sg_lp F N) hI (fun n1 s1 M1 h1 hI1 => ih n1 s1 M1 hI1 (by omega))
theorem ib_nI {i n : Nat} (h : i < n) (hn : n < 2 ^ 31) : sg_ib (nI i) n = true := by
  unfold sg_ib
  rw [nI_toInt (by omega)]
  exact decide_eq_true (by omega)
/-- bits -/
theorem bt_1 (i : Nat) : bt 1 i = decide (i = 0) := by
  rcases Nat.lt_or_ge i 32 with h | h
  · exact (by decide +kernel : ∀ i, i < 32 → bt 1 i = decide (i = 0)) i h
  · rw [b_big h, decide_eq_false (by omega)]
theorem bt_sh {v i : Nat} (hv : v < 32) (hi : i < 32) : bt ((1 : Int32) <<< (nI v &&& 31)) i = decide (i = v) := by
  rw [b_shl v hv 1 hi, bt_1]
  by_cases e : i = v
  · subst e; simp
  · by_cases q : v ≤ i
    · rw [decide_eq_false (show ¬ i - v = 0 by omega), decide_eq_false e, Bool.and_false]
    · rw [decide_eq_false q, decide_eq_false e, Bool.false_and]
theorem bt_test {x : Int32} {v : Nat} (hv : v < 32) : (x >>> (nI v &&& 31)) &&& 1 = if bt x v = true then 1 else 0 := by
  apply b_ext
  intro i hi
  rw [b_and, b_sshr v hv x hi, bt_1]
  by_cases e : i = 0
  · subst e
    rw [if_pos (by omega)]
    cases h : bt x v <;> simp [h, b_0, bt_1]
  · rw [decide_eq_false e, Bool.and_false]
    cases h : bt x v <;> simp [b_0, bt_1, e]
theorem bt_test1 {x : Int32} {v : Nat} (hv : v < 32) : ((x >>> (nI v &&& 31)) &&& 1) = 1 ↔ bt x v = true := by
  rw [bt_test hv]
  cases bt x v <;> simp
theorem bt_test0 {x : Int32} {v : Nat} (hv : v < 32) : ((x >>> (nI v &&& 31)) &&& 1) = 0 ↔ bt x v = false := by
  rw [bt_test hv]
  cases bt x v <;> simp
theorem bt_not (x : Int32) {i : Nat} (hi : i < 32) : bt (x ^^^ (-1)) i = !bt x i := by
  rw [b_xor, b_m1 i hi, Bool.xor_true]
/-- the first n bits -/
theorem bt_low : ∀ n, n < 31 → ∀ i, i < 32 → bt (((1 : Int32) <<< (nI n &&& 31)) - 1) i = decide (i < n) := by decide +kernel
/-- longs by whole numbers -/
def lI (z : Int) : Int64 := Int64.ofInt z
theorem lI_add (a b : Int) : lI a + lI b = lI (a + b) := (Int64.ofInt_add a b).symm
theorem lI_sub (a b : Int) : lI a - lI b = lI (a - b) := (Int64.ofInt_sub a b).symm
theorem lI_mul (a b : Int) : lI a * lI b = lI (a * b) := (Int64.ofInt_mul a b).symm
theorem lI_neg (a : Int) : - lI a = lI (-a) := (Int64.ofInt_neg a).symm
theorem lI_int {z : Int} (h1 : -9223372036854775808 ≤ z) (h2 : z < 9223372036854775808) : (lI z).toInt = z := Int64.toInt_ofInt_of_le (by simpa using h1) (by simpa using h2)
theorem lI_0 : lI 0 = 0 := rfl
theorem lI_1 : lI 1 = 1 := rfl
theorem lI_nI {n : Nat} (h : n < 2 ^ 31) : (nI n).toInt64 = lI n := by
  rw [← Int64.ofInt_int32ToInt, nI_toInt h]
  rfl
theorem lI_div {a b c : Int} (hb : b ≠ 0) (h : a = b * c) (ha1 : -9223372036854775808 < a) (ha2 : a < 9223372036854775808) (hb1 : -9223372036854775808 < b) (hb2 : b < 9223372036854775808) : lI a / lI b = lI c := by
  have e : a.tdiv b = c := by rw [h, Int.mul_tdiv_cancel_left _ hb]
  have := Int64.ofInt_tdiv (a := a) (b := b) (by rw [Int64.toInt_minValue]; omega) (by rw [Int64.toInt_maxValue]; omega) (by rw [Int64.toInt_minValue]; omega) (by rw [Int64.toInt_maxValue]; omega)
  rw [e] at this
  exact this.symm
theorem lI_le {a b : Int} (ha1 : -9223372036854775808 ≤ a) (ha2 : a < 9223372036854775808) (hb1 : -9223372036854775808 ≤ b) (hb2 : b < 9223372036854775808) : lI a ≤ lI b ↔ a ≤ b := by
  rw [Int64.le_iff_toInt_le, lI_int ha1 ha2, lI_int hb1 hb2]
theorem lI_lt {a b : Int} (ha1 : -9223372036854775808 ≤ a) (ha2 : a < 9223372036854775808) (hb1 : -9223372036854775808 ≤ b) (hb2 : b < 9223372036854775808) : lI a < lI b ↔ a < b := by
  rw [Int64.lt_iff_toInt_lt, lI_int ha1 ha2, lI_int hb1 hb2]
theorem lI_eq {a b : Int} (ha1 : -9223372036854775808 ≤ a) (ha2 : a < 9223372036854775808) (hb1 : -9223372036854775808 ≤ b) (hb2 : b < 9223372036854775808) : lI a = lI b ↔ a = b := by
  rw [← Int64.toInt_inj, lI_int ha1 ha2, lI_int hb1 hb2]
theorem uI_at (M : sg_M) (j k : Nat) (v : Int32) (a b : Nat) : (sg_uI M j k v).1 a b = if a = j ∧ b = k then v else M.1 a b := rfl
theorem uI_l (M : sg_M) (j k : Nat) (v : Int32) : (sg_uI M j k v).2 = M.2 := rfl
theorem uJ_at (M : sg_M) (j k : Nat) (v : Int64) (a b : Nat) : (sg_uJ M j k v).2 a b = if a = j ∧ b = k then v else M.2 a b := rfl
theorem uJ_i (M : sg_M) (j k : Nat) (v : Int64) : (sg_uJ M j k v).1 = M.1 := rfl
