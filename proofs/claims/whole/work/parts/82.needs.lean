/-! words, numbers, signs: both -/
theorem byR_eq {x : Int32} {y : Nat} (h : byR x) (h2 : x &&& 255 = nI y) (hy : y < 128) : x = nI y := by
  have h7 : ∀ i, i < 8 → bt x i = bt (nI y) i := fun i hi => by
    rw [← h2, b_and, b_255, decide_eq_true hi, Bool.and_true]
  have z7 : ∀ i, 7 ≤ i → bt (nI y) i = false := fun i hi => by
    cases e : bt (nI y) i with
    | false => rfl
    | true => have := nI_lo (m := 7) hy e; omega
  apply b_ext
  intro i hi
  by_cases q : i < 8
  · exact h7 i q
  · rw [z7 i (by omega)]
    have e : bt x i = bt x.toInt8.toInt32 i := by rw [show x.toInt8.toInt32 = x from h]
    rw [e]
    show (x.toInt8.toInt32).toBitVec.getLsbD i = false
    rw [Int8.toBitVec_toInt32, BitVec.getLsbD_signExtend, if_neg q, BitVec.msb_eq_getLsbD_last]
    have : x.toInt8.toBitVec.getLsbD 7 = bt x.toInt8.toInt32 7 := by
      show _ = (x.toInt8.toInt32).toBitVec.getLsbD 7
      rw [Int8.toBitVec_toInt32, BitVec.getLsbD_signExtend, if_pos (by decide)]
      rfl
    show (_ && x.toInt8.toBitVec.getLsbD 7) = false
    rw [this, show x.toInt8.toInt32 = x from h, h7 7 (by omega), z7 7 (by omega), Bool.and_false]
theorem lit_ok : ∀ w, w < 16 → ∀ i, i < sg_len.getD w 0 → ∃ y, y < 128 ∧ (sg_byt.getD w []).getD i 0 = nI y := by
  have h : ∀ w, w < 16 → ∀ i, i < sg_len.getD w 0 → ((sg_byt.getD w []).getD i 0).toNatClampNeg < 128 ∧ (sg_byt.getD w []).getD i 0 = nI ((sg_byt.getD w []).getD i 0).toNatClampNeg := by decide +kernel
  exact fun w hw i hi => ⟨_, (h w hw i hi).1, (h w hw i hi).2⟩
theorem len_lt : ∀ w, w < 16 → sg_len.getD w 0 < 100 := by decide
section ND
variable {N sz : Nat} {yb : Nat → Nat}
def awk (sz : Nat) (yb : Nat → Nat) (w p : Nat) : Nat → Bool
  | 0 => true
  | k + 1 => awk sz yb w p k && decide (nI (yb (fi sz yb p + k)) = (sg_byt.getD w []).getD k 0)
theorem awk_s (w p k : Nat) : awk sz yb w p (k + 1) = (awk sz yb w p k && decide (nI (yb (fi sz yb p + k)) = (sg_byt.getD w []).getD k 0)) := rfl
theorem awk_f {w p i : Nat} (h : awk sz yb w p i = false) : ∀ n, i ≤ n → awk sz yb w p n = false := by
  intro n
  induction n with
  | zero => intro hn; rw [show 0 = i by omega]; exact h
  | succ n ih =>
    intro hn
    by_cases e : i = n + 1
    · rw [← e]; exact h
    · rw [awk_s, ih (by omega), Bool.false_and]
def wd (sz : Nat) (yb : Nat → Nat) (w p : Nat) : Bool := decide (kn sz yb p = 1) && decide (be sz yb p - fi sz yb p = sg_len.getD w 0) && awk sz yb w p (sg_len.getD w 0)
theorem c_word {w p : Nat} {M : sg_M} (hT : cTx sz yb M) (hp : p ≤ sz) (ht : ctok sz yb p M) (hw : w < 16) (hN : 200 ≤ N) : fX6_isWord N 1 w M = some (if wd sz yb w p = true then 1 else 0, M) := by
  obtain ⟨t6, t7, t5, -⟩ := ht
  obtain ⟨s7, hy, h12, h0⟩ := hT
  have fb := fi_b (yb := yb) hp
  have bb := be_b (yb := yb) hp
  have hl := len_lt w hw
  have kb : kn sz yb p < 6 := by
    unfold kn
    split
    · exact (kk_b _).1
    · omega
  unfold fX6_isWord wd
  rw [t5, t6, t7, nI_sub bb.1, show Int32.ofNat (sg_len.getD w 0) = nI (sg_len.getD w 0) from rfl]
  by_cases k1 : kn sz yb p = 1
  case neg =>
    rw [decide_eq_false k1, Bool.false_and, Bool.false_and, if_neg (show ¬ nI (kn sz yb p) = 1 from fun z => k1 ((nI_eq (by omega) (show 1 < 2 ^ 31 by omega)).mp z))]
    rfl
  rw [decide_eq_true k1, Bool.true_and, if_pos (show nI (kn sz yb p) = 1 by rw [k1]; rfl)]
  by_cases k2 : be sz yb p - fi sz yb p = sg_len.getD w 0
  case neg =>
    rw [decide_eq_false k2, Bool.false_and, if_neg (fun z => k2 ((nI_eq (by omega) (by omega)).mp z))]
    rfl
  rw [decide_eq_true k2, Bool.true_and, if_pos (by rw [k2])]
  apply ok_eq
  refine ok_m ?_
  unfold gX6_isWord_28
  refine ok_for 0 (sg_len.getD w 0) (fun i s M1 => s = (1, w, nI i) ∧ M = M1 ∧ awk sz yb w p i = true) (by omega) (by omega) ⟨rfl, rfl, rfl⟩ ?_ ?_
  · rintro i s M1 back hi ⟨rfl, rfl, ha⟩ hb
    unfold bX6_isWord_28
    dsimp only
    rw [t6, nI_add, y1_4, yn_12, nI_clamp (show fi sz yb p + i < 2 ^ 31 by omega), nI_clamp (show i < 2 ^ 31 by omega), h12 _ (by omega), show Int32.ofNat (sg_len.getD w 0) = nI (sg_len.getD w 0) from rfl]
    refine ok_f (nI_ge hi (by omega)) (ok_t (ib_nI (by omega) (by omega)) (ok_t (ib_nI (by omega) (by omega)) (ok_if (fun z => ?_) (fun z => ?_))))
    · exact ok_m (hb _ _ ⟨by rw [nI_1], rfl, by rw [awk_s, ha, decide_eq_true z]; rfl⟩)
    · refine ok_some ?_
      rw [awk_f (i := i + 1) (by rw [awk_s, decide_eq_false z, Bool.and_false]) _ (by omega)]
      rfl
  · rintro s M1 back ⟨rfl, rfl, ha⟩
    unfold bX6_isWord_28
    dsimp only
    rw [show Int32.ofNat (sg_len.getD w 0) = nI (sg_len.getD w 0) from rfl]
    refine ok_t (nI_le (Nat.le_refl _) (by omega)) (ok_some ?_)
    rw [ha]
    rfl
theorem r_good {M : sg_M} : fX11_good N 0 M = some (if M.1 0 17 = 0 then 1 else 0, M) := by
  unfold fX11_good
  by_cases q : M.1 0 17 = 0
  · rw [if_pos q, if_pos q]
  · rw [if_neg q, if_neg q]
theorem r_gd {M : sg_M} (h : M.1 0 17 = 0) : fX11_good N 0 M = some (1, M) := by rw [r_good, if_pos h]
theorem r_bd {M : sg_M} (h : ¬ M.1 0 17 = 0) : fX11_good N 0 M = some (0, M) := by rw [r_good, if_neg h]
theorem is_0 {w : Nat} {M : sg_M} (hN : 0 < N) : gX11_is_39 N (0, w, 0, 0) M = some (0, M) := by
  apply ok_eq
  unfold gX11_is_39
  refine ok_1 hN (fun back => ?_)
  unfold bX11_is_39
  dsimp only
  exact ok_if (fun _ => ok_t (by decide) (ok_some rfl)) (fun _ => ok_t rfl (ok_t (by decide) (ok_some rfl)))
theorem r_word {w p : Nat} {M : sg_M} (hT : rTx sz yb M) (hp : p ≤ sz) (ht : rtok sz yb p M) (hg : M.1 0 17 = 0) (hw : w < 16) (hN : 200 ≤ N) : fX11_is N 0 w M = some (if wd sz yb w p = true then 1 else 0, M) := by
  obtain ⟨t14, t13, t15, -⟩ := ht
  obtain ⟨s7, hy, h7, h0⟩ := hT
  have fb := fi_b (yb := yb) hp
  have bb := be_b (yb := yb) hp
  have hl := len_lt w hw
  have kb : kn sz yb p < 6 := by
    unfold kn
    split
    · exact (kk_b _).1
    · omega
  unfold fX11_is wd
  rw [r_gd hg, e_b, if_neg q1, t15, t13, t14, nI_sub bb.1, show Int32.ofNat (sg_len.getD w 0) = nI (sg_len.getD w 0) from rfl]
  by_cases k1 : kn sz yb p = 1
  case neg =>
    rw [decide_eq_false k1, Bool.false_and, Bool.false_and, if_neg (show ¬ nI (min (kn sz yb p) 4) = 1 from fun z => k1 (by have := (nI_eq (by omega) (show 1 < 2 ^ 31 by omega)).mp z; omega)), e_m, e_m, is_0 (by omega)]
    rfl
  rw [decide_eq_true k1, Bool.true_and, if_pos (show nI (min (kn sz yb p) 4) = 1 by rw [k1]; rfl)]
  by_cases k2 : be sz yb p - fi sz yb p = sg_len.getD w 0
  case neg =>
    rw [decide_eq_false k2, Bool.false_and, if_neg (fun z => k2 ((nI_eq (by omega) (by omega)).mp z)), e_m, e_m, is_0 (by omega)]
    rfl
  rw [decide_eq_true k2, Bool.true_and, if_pos (by rw [k2])]
  apply ok_eq
  refine ok_m (ok_m ?_)
  unfold gX11_is_39
  refine ok_for 0 (sg_len.getD w 0) (fun i s M1 => s = (0, w, if awk sz yb w p i = true then 1 else 0, nI i) ∧ M = M1) (by omega) (by omega) ⟨rfl, rfl⟩ ?_ ?_
  · rintro i s M1 back hi ⟨rfl, rfl⟩ hb
    unfold bX11_is_39
    dsimp only
    rw [t14, nI_add, yr_9, yl_7, nI_clamp (show fi sz yb p + i < 2 ^ 31 by omega), nI_clamp (show i < 2 ^ 31 by omega), show Int32.ofNat (sg_len.getD w 0) = nI (sg_len.getD w 0) from rfl]
    refine ok_f (nI_ge hi (by omega)) ?_
    by_cases ha : awk sz yb w p i = true
    · rw [if_pos ha]
      refine ok_f q1 (ok_t (ib_nI (by omega) (by omega)) (ok_t (ib_nI (by omega) (by omega)) ?_))
      obtain ⟨y, y1, y2⟩ := lit_ok w hw i hi
      obtain ⟨g1, g2⟩ := h7 (fi sz yb p + i) (by omega)
      have hyi := hy (fi sz yb p + i)
      have iff1 : M.1 7 (fi sz yb p + i) = (sg_byt.getD w []).getD i 0 ↔ nI (yb (fi sz yb p + i)) = (sg_byt.getD w []).getD i 0 := by
        rw [y2]
        constructor
        · intro z
          rw [← g1, z]
          apply b_ext
          intro j hj
          rw [b_and, b_255]
          by_cases q : j < 8
          · rw [decide_eq_true q, Bool.and_true]
          · rw [decide_eq_false q, Bool.and_false]
            cases e : bt (nI y) j with
            | false => rfl
            | true => have := nI_lo (m := 7) y1 e; omega
        · intro z
          have e := (nI_eq (by omega) (by omega)).mp z
          rw [byR_eq g2 g1 (by omega), e]
      refine ok_if (fun z => ?_) (fun z => ?_)
      · exact ok_m (ok_m (hb _ _ ⟨by rw [nI_1, awk_s, ha, decide_eq_true (iff1.mp z)]; rfl, rfl⟩))
      · exact ok_m (ok_m (hb _ _ ⟨by rw [nI_1, awk_s, decide_eq_false (fun q => z (iff1.mpr q)), Bool.and_false]; rfl, rfl⟩))
    · rw [if_neg ha]
      refine ok_t rfl (ok_t (by decide) (ok_some ?_))
      rw [awk_f (i := i) (by simpa using ha) _ (by omega)]
      rfl
  · rintro s M1 back ⟨rfl, rfl⟩
    unfold bX11_is_39
    dsimp only
    rw [show Int32.ofNat (sg_len.getD w 0) = nI (sg_len.getD w 0) from rfl]
    exact ok_t (nI_le (Nat.le_refl _) (by omega)) (ok_t bz01 (ok_some rfl))
theorem r_wordB {w : Nat} {M : sg_M} (hg : ¬ M.1 0 17 = 0) (hN : 0 < N) : fX11_is N 0 w M = some (0, M) := by
  unfold fX11_is
  rw [r_bd hg, e_b, if_pos q0, e_m, e_m, is_0 hN]
theorem r_errB {k : Int32} {M : sg_M} (hg : ¬ M.1 0 17 = 0) : fX11_errs N 0 k M = some M := by
  unfold fX11_errs
  rw [r_bd hg, e_b, if_pos q0]
theorem r_errG {k : Int32} {M : sg_M} (hg : M.1 0 17 = 0) : fX11_errs N 0 k M = some (sg_uI (sg_uI M 0 17 k) 0 18 (M.1 0 14)) := by
  unfold fX11_errs
  rw [r_gd hg, e_b, if_neg q1, e_m, e_m, uI_nb (show 14 ≠ 17 by decide)]
theorem r_expB {w : Nat} {M : sg_M} (hg : ¬ M.1 0 17 = 0) (hN : 0 < N) : fX11_expects N 0 w M = some M := by
  unfold fX11_expects
  rw [r_wordB hg hN, e_b, if_pos q0, r_errB hg, e_bv]
theorem r_takB {lo hi : Int32} {M : sg_M} (hg : ¬ M.1 0 17 = 0) : fX11_takes N 0 lo hi M = some (0, M) := by
  unfold fX11_takes gX11_takes_20 gX11_takes_47
  rw [r_bd hg, e_b, if_pos q0, r_bd hg, e_b, if_pos q0, r_bd hg, e_b, if_pos q0]
theorem r_tolB {w : Nat} {lo hi : Int32} {M : sg_M} (hg : ¬ M.1 0 17 = 0) (hN : 0 < N) : fX11_told N 0 w lo hi M = some (0, M) := by
  unfold fX11_told
  rw [r_expB hg hN, e_bv, r_takB hg, e_b]
/-! in step -/
def sim (sz : Nat) (yb : Nat → Nat) (p : Nat) (Mc Mr : sg_M) : Prop := cTx sz yb Mc ∧ rTx sz yb Mr ∧ p ≤ sz ∧ Mc.1 1 7 = nI p ∧ rtok sz yb p Mr ∧ Mr.1 0 17 = 0
def fl2 (Mc Mr : sg_M) : Prop := Mc.1 1 1 = Mr.1 0 17 ∧ Mc.1 1 2 = Mr.1 0 18 ∧ ¬ Mr.1 0 17 = 0
def c2F (M M1 : sg_M) : Prop := (∀ a k, (a ≠ 1 ∨ k = 0 ∨ k = 3 ∨ k = 4 ∨ 9 ≤ k) → M1.1 a k = M.1 a k) ∧ M1.2 = M.2
theorem c2F_tr {M M1 M2 : sg_M} (h : c2F M M1) (h2 : c2F M1 M2) : c2F M M2 := ⟨fun a k q => (h2.1 a k q).trans (h.1 a k q), h2.2.trans h.2⟩
theorem c2F_refl {M : sg_M} : c2F M M := ⟨fun _ _ _ => rfl, rfl⟩
theorem c2F_1 {M M1 : sg_M} (h : c1F M M1) : c2F M M1 := ⟨fun a k q => h.1 a k (by omega), h.2⟩
theorem c2F_u {M : sg_M} {k : Nat} {x : Int32} (hk : k = 1 ∨ k = 2) : c2F M (sg_uI M 1 k x) := ⟨fun a j h => by rw [uI_at, if_neg (by omega)], rfl⟩
def r2F (M M1 : sg_M) : Prop := (∀ a k, (a ≠ 0 ∨ k < 13 ∨ 19 ≤ k) → M1.1 a k = M.1 a k) ∧ M1.2 = M.2
theorem r2F_tr {M M1 M2 : sg_M} (h : r2F M M1) (h2 : r2F M1 M2) : r2F M M2 := ⟨fun a k q => (h2.1 a k q).trans (h.1 a k q), h2.2.trans h.2⟩
theorem r2F_refl {M : sg_M} : r2F M M := ⟨fun _ _ _ => rfl, rfl⟩
theorem r2F_1 {M M1 : sg_M} (h : r1F M M1) : r2F M M1 := ⟨fun a k q => h.1 a k (by omega), h.2⟩
theorem r2F_u {M : sg_M} {k : Nat} {x : Int32} (hk : 13 ≤ k ∧ k < 19) : r2F M (sg_uI M 0 k x) := ⟨fun a j h => by rw [uI_at, if_neg (by omega)], rfl⟩
theorem c_fail {k : Int32} {M : sg_M} : fX6_fail N 1 k M = some (0, sg_uI (sg_uI M 1 1 k) 1 2 (M.1 1 6)) := by
  unfold fX6_fail
  rw [e_m, e_m, uI_nb (show 6 ≠ 1 by decide)]
/-- stepped: the class has the token too -/
def sim2 (sz : Nat) (yb : Nat → Nat) (p : Nat) (Mc Mr : sg_M) : Prop := cTx sz yb Mc ∧ rTx sz yb Mr ∧ p ≤ sz ∧ ctok sz yb p Mc ∧ rtok sz yb p Mr ∧ Mr.1 0 17 = 0
theorem s_step {p : Nat} {Mc Mr : sg_M} (h : sim sz yb p Mc Mr) (hN : 1000 ≤ N) : ∃ Mc1, fX6_step N 1 Mc = some Mc1 ∧ sim2 sz yb p Mc1 Mr ∧ c1F Mc Mc1 := by
  obtain ⟨h1, h2, h3, h4, h5, h6⟩ := h
  obtain ⟨M1, e1, t1, F1⟩ := step_ok (N := N) h1 h4 h3 hN
  exact ⟨M1, e1, ⟨cTx_c h1 (fun a k ha => F1.1 a k (by omega)), h2, h3, t1, h5, h6⟩, F1⟩
theorem s_adv {p : Nat} {Mc Mr : sg_M} (h : sim2 sz yb p Mc Mr) (hN : 1000 ≤ N) : ∃ Mr1, fX11_advance N 0 Mr = some Mr1 ∧ sim sz yb (be sz yb p) Mc Mr1 ∧ r1F Mr Mr1 := by
  obtain ⟨h1, h2, h3, h4, h5, h6⟩ := h
  have bb := be_b (yb := yb) h3
  obtain ⟨M1, e1, t1, F1⟩ := adv_ok (N := N) h2 h5.2.1 bb.2.1 hN
  exact ⟨M1, e1, ⟨h1, rTx_c h2 (fun a k ha => F1.1 a k (by omega)), bb.2.1, h4.2.1, t1, by rw [F1.1 0 17 (by omega), h6]⟩, F1⟩
theorem s_fail {p : Nat} {k : Int32} {Mc Mr : sg_M} (h : sim2 sz yb p Mc Mr) (hk : ¬ k = 0) : ∃ Mc1 Mr1, fX6_fail N 1 k Mc = some (0, Mc1) ∧ fX11_errs N 0 k Mr = some Mr1 ∧ fl2 Mc1 Mr1 ∧ c2F Mc Mc1 ∧ r2F Mr Mr1 := by
  obtain ⟨h1, h2, h3, h4, h5, h6⟩ := h
  refine ⟨_, _, c_fail, r_errG h6, ⟨?_, ?_, ?_⟩, c2F_tr (c2F_u (by omega)) (c2F_u (by omega)), r2F_tr (r2F_u (by omega)) (r2F_u (by omega))⟩
  · rw [uI_nb (by omega), uI_eq, uI_nb (by omega), uI_eq]
  · rw [uI_eq, uI_eq, h4.1, h5.1]
  · rw [uI_nb (by omega), uI_eq]; exact hk
theorem kn_b {p : Nat} : kn sz yb p < 6 := by
  unfold kn
  split
  · exact (kk_b _).1
  · omega
/-- a number within bounds, both -/
theorem s_num {p lo hi : Nat} {Mc Mr : sg_M} (h : sim sz yb p Mc Mr) (h1 : hi < 1000) (hlo : lo < 1000) (hN : 1000 ≤ N) : (∃ v p2 Mc1 Mr1, fX6_needBounds N 1 (nI lo) (nI hi) Mc = some (1, Mc1) ∧ fX11_takes N 0 (nI lo) (nI hi) Mr = some (nI v, Mr1) ∧ sim sz yb p2 Mc1 Mr1 ∧ Mc1.1 1 8 = nI v ∧ (lo ≤ v ∧ v ≤ hi) ∧ c1F Mc Mc1 ∧ r1F Mr Mr1 ∧ kn sz yb p = 2 ∧ v = tv sz yb p ∧ p2 = be sz yb p ∧ Mc1.1 1 6 = nI (fi sz yb p)) ∨ (∃ Mc1 Mr1, fX6_needBounds N 1 (nI lo) (nI hi) Mc = some (0, Mc1) ∧ fX11_takes N 0 (nI lo) (nI hi) Mr = some (0, Mr1) ∧ fl2 Mc1 Mr1 ∧ c2F Mc Mc1 ∧ r2F Mr Mr1 ∧ ¬ (kn sz yb p = 2 ∧ lo ≤ tv sz yb p ∧ tv sz yb p ≤ hi)) := by
  obtain ⟨M1, e1, s2, F1⟩ := s_step (N := N) h hN
  obtain ⟨g1, g2, g3, g4, g5, g6⟩ := id s2
  have kb := kn_b (sz := sz) (yb := yb) (p := p)
  have m0 : ∀ k, k < 13 ∨ 17 ≤ k → True := fun _ _ => trivial
  unfold fX6_needBounds fX11_takes
  rw [e1, e_bv, g4.2.2.1, r_gd g6, e_b, if_neg q1, g5.2.2.1]
  by_cases k2 : kn sz yb p = 2
  case neg =>
    obtain ⟨Mc2, Mr2, x1, x2, x3, x4, x5⟩ := s_fail (N := N) (k := 1) s2 q1
    have n1 : ¬ nI (kn sz yb p) = 2 := fun z => k2 ((nI_eq (by omega) (show 2 < 2 ^ 31 by omega)).mp z)
    have n2 : ¬ nI (min (kn sz yb p) 4) = 2 := fun z => k2 (by have := (nI_eq (by omega) (show 2 < 2 ^ 31 by omega)).mp z; omega)
    rw [if_neg n1, if_neg n2, x1, x2, e_b, e_bv]
    unfold gX11_takes_20 gX11_takes_47
    rw [r_bd x3.2.2, e_b, if_pos q0, r_bd x3.2.2, e_b, if_pos q0]
    exact Or.inr ⟨Mc2, Mr2, rfl, rfl, x3, c2F_tr (c2F_1 F1) x4, x5, fun z => k2 z.1⟩
  have n1 : nI (kn sz yb p) = 2 := by rw [k2]; rfl
  have n2 : nI (min (kn sz yb p) 4) = 2 := by rw [k2]; rfl
  rw [if_pos n1, if_pos n2]
  obtain ⟨v1, v2⟩ := g4.2.2.2 k2
  have r16 := g5.2.2.2 k2
  have rin : fX11_in N (nI (min (tv sz yb p) 99999)).toInt64 (nI lo).toInt64 (nI hi).toInt64 Mr = some (if lo ≤ tv sz yb p ∧ tv sz yb p ≤ hi then 1 else 0, Mr) := by
    rw [show (nI lo).toInt64 = lI (lo : Int) from lI_nI (by omega), show (nI hi).toInt64 = lI (hi : Int) from lI_nI (by omega), r_inG (by omega) (by omega), nI_toInt (by omega)]
    by_cases w : lo ≤ tv sz yb p ∧ tv sz yb p ≤ hi
    · rw [if_pos w, if_pos (by omega)]
    · rw [if_neg w, if_neg (by omega)]
  unfold gX11_takes_20
  rw [r_gd g6, e_b, if_neg q1, r16, rin, e_b]
  by_cases w : lo ≤ tv sz yb p ∧ tv sz yb p ≤ hi
  · rw [if_pos w, if_neg q1]
    have ex : M1.1 1 8 = nI (tv sz yb p) := v1 (by omega)
    rw [ex, if_neg (nI_nlt w.1 (by omega)), if_pos (nI_le w.2 (by omega))]
    obtain ⟨Mr2, x1, x2, x3⟩ := s_adv (N := N) s2 hN
    unfold gX11_takes_47 gX6_needBounds_42
    rw [r_gd g6, e_b, if_neg q1, r16, e_m, x1, e_bv, Nat.min_eq_left (by omega)]
    exact Or.inl ⟨tv sz yb p, be sz yb p, M1, Mr2, rfl, rfl, x2, ex, w, F1, x3, k2, rfl, rfl, g4.1⟩
  · rw [if_neg w, if_pos q0]
    obtain ⟨Mc2, Mr2, x1, x2, x3, x4, x5⟩ := s_fail (N := N) (k := 2) s2 (by decide)
    have cls : (if M1.1 1 8 < nI lo then gX6_needBounds_34 N 1 M1 else if M1.1 1 8 ≤ nI hi then gX6_needBounds_42 N M1 else gX6_needBounds_34 N 1 M1) = some (0, Mc2) := by
      have e34 : gX6_needBounds_34 N 1 M1 = some (0, Mc2) := by
        unfold gX6_needBounds_34
        rw [x1, e_b, if_pos q0]
      rw [e34]
      by_cases t : tv sz yb p < 100000
      · rw [v1 t]
        by_cases u : tv sz yb p < lo
        · rw [if_pos (nI_lt u (by omega))]
        · rw [if_neg (nI_nlt (by omega) (by omega)), if_neg (nI_ge (by omega) (by omega))]
      · obtain ⟨u, u1, u2, u3⟩ := v2 (by omega)
        rw [u3, if_neg (nI_nlt (by omega) (by omega)), if_neg (nI_ge (by omega) (by omega))]
    rw [cls, x2, e_bv]
    unfold gX11_takes_47
    rw [r_bd x3.2.2, e_b, if_pos q0]
    exact Or.inr ⟨Mc2, Mr2, rfl, rfl, x3, c2F_tr (c2F_1 F1) x4, x5, fun z => w z.2⟩
theorem sim_1 {p : Nat} {Mc Mr Mc1 Mr1 : sg_M} (h : sim sz yb p Mc Mr) (c : ∀ a k, (a = 12 ∨ (a = 1 ∧ (k = 0 ∨ k = 7))) → Mc1.1 a k = Mc.1 a k) (r : ∀ a k, (a = 7 ∨ (a = 0 ∧ 12 ≤ k ∧ k < 18)) → Mr1.1 a k = Mr.1 a k) : sim sz yb p Mc1 Mr1 := by
  obtain ⟨h1, h2, h3, h4, h5, h6⟩ := h
  obtain ⟨t1, t2, t3, t4⟩ := h5
  exact ⟨cTx_c h1 (fun a k ha => c a k (by omega)), rTx_c h2 (fun a k ha => r a k (by omega)), h3, by rw [c 1 7 (by omega), h4], ⟨by rw [r 0 14 (by omega), t1], by rw [r 0 13 (by omega), t2], by rw [r 0 15 (by omega), t3], fun z => by rw [r 0 16 (by omega), t4 z]⟩, by rw [r 0 17 (by omega), h6]⟩
/-- a word, then a number -/
theorem s_told {w p lo hi : Nat} {Mc Mr : sg_M} (h : sim sz yb p Mc Mr) (hw : w < 16) (h1 : hi < 1000) (hlo : lo < 1000) (hN : 1000 ≤ N) : (∃ v p2 Mc1 Mr1, fX6_needNumber N 1 w (nI lo) (nI hi) Mc = some (1, Mc1) ∧ fX11_told N 0 w (nI lo) (nI hi) Mr = some (nI v, Mr1) ∧ sim sz yb p2 Mc1 Mr1 ∧ Mc1.1 1 8 = nI v ∧ (lo ≤ v ∧ v ≤ hi) ∧ c1F Mc Mc1 ∧ r1F Mr Mr1 ∧ p ≤ p2) ∨ (∃ Mc1 Mr1, fX6_needNumber N 1 w (nI lo) (nI hi) Mc = some (0, Mc1) ∧ fX11_told N 0 w (nI lo) (nI hi) Mr = some (0, Mr1) ∧ fl2 Mc1 Mr1 ∧ c2F Mc Mc1 ∧ r2F Mr Mr1) := by
  obtain ⟨M1, e1, s2, F1⟩ := s_step (N := N) h hN
  obtain ⟨g1, g2, g3, g4, g5, g6⟩ := id s2
  unfold fX6_needNumber fX11_told fX11_expects
  rw [e1, e_bv, c_word g1 g3 g4 hw (by omega), e_b, r_word g2 g3 g5 g6 hw (by omega), e_b]
  by_cases q : wd sz yb w p = true
  case neg =>
    obtain ⟨Mc2, Mr2, x1, x2, x3, x4, x5⟩ := s_fail (N := N) (k := 1) s2 q1
    rw [if_neg q, if_pos q0, if_pos q0, x1, e_b, x2, e_bv, e_bv, r_takB x3.2.2, e_b]
    exact Or.inr ⟨Mc2, Mr2, rfl, rfl, x3, c2F_tr (c2F_1 F1) x4, x5⟩
  rw [if_pos q, if_neg q1, if_neg q1]
  obtain ⟨Mr2, x1, x2, x3⟩ := s_adv (N := N) s2 hN
  rw [x1, e_bv, e_bv]
  rcases s_num (N := N) (lo := lo) x2 h1 hlo hN with ⟨v, p2, Mc3, Mr3, y1, y2, y3, y4, y5, y6, y7, -, -, y8, -⟩ | ⟨Mc3, Mr3, y1, y2, y3, y4, y5, -⟩
  · rw [y1, e_b, y2, e_b]
    have b1 := be_b (yb := yb) g3
    have b2 := fi_b (yb := yb) g3
    have b3 := be_b (yb := yb) b1.2.1
    have b4 := fi_b (yb := yb) b1.2.1
    exact Or.inl ⟨v, p2, Mc3, Mr3, rfl, rfl, y3, y4, y5, c1F_tr F1 y6, r1F_tr x3 y7, (by omega)⟩
  · rw [y1, e_b, y2, e_b]
    exact Or.inr ⟨Mc3, Mr3, rfl, rfl, y3, c2F_tr (c2F_1 F1) y4, r2F_tr (r2F_1 x3) y5⟩
end ND
