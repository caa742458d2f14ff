/-! drawn loads; room -/
def ldv (b d : Nat → Int32) : Prop := vb d ∧ ∀ k, (k < 6 ∨ 15 ≤ k) → d k = b k
def lcg (n : Nat) : Nat := (1103515245 * n + 12345) % 2147483648
def sd (n : Nat) : Nat → Nat
  | 0 => n
  | v + 1 => lcg (sd n v)
def dlo (b : Nat → Int32) (n v : Nat) : Nat := sd n (v + 1) / 65536 % (gL b v + 1)
def tl (b : Nat → Int32) (n : Nat) : Nat → Int32 := fun k => if 6 ≤ k ∧ k < 6 + gM b then nI (dlo b n (k - 6)) else b k
def sds (b : Nat → Int32) (n : Nat) : Nat → Nat
  | 0 => n
  | i + 1 => sd (sds b n i) (gM b)
def hel (b : Nat → Int32) (n : Nat) : Nat → Nat
  | 0 => 0
  | i + 1 => hel b n i + (if hold (tl b (sds b n i)) = true then 1 else 0)
def dee (b : Nat → Int32) (n : Nat) : Nat → Int × Int
  | 0 => (0, 1)
  | i + 1 => if (dee b n i).1 * bD (tl b (sds b n i)) < bMx (tl b (sds b n i)) * (dee b n i).2 then (bMx (tl b (sds b n i)), bD (tl b (sds b n i))) else dee b n i
theorem lcg_b (n : Nat) : lcg n < 2147483648 := Nat.mod_lt _ (by decide)
theorem sd_b {n : Nat} (h : n < 2147483648) : ∀ v, sd n v < 2147483648 := by
  intro v
  cases v with
  | zero => exact h
  | succ v => exact lcg_b _
theorem sds_b {b : Nat → Int32} {n : Nat} (h : n < 2147483648) : ∀ i, sds b n i < 2147483648 := by
  intro i
  induction i with
  | zero => exact h
  | succ i ih => exact sd_b ih _
theorem lcg_r {n : Nat} (h : n < 2147483648) : (1103515245 : Int64) * lI (n : Int) + 12345 = lI ((1103515245 * n + 12345 : Nat) : Int) := by
  rw [show (1103515245 : Int64) = lI 1103515245 from rfl, show (12345 : Int64) = lI 12345 from rfl, lI_mul, lI_add]
  congr 1
theorem and_m {a : Nat} (h : a < 2 ^ 62) : lI (a : Int) &&& 2147483647 = lI ((a % 2147483648 : Nat) : Int) := by
  apply Int64.toBitVec_inj.mp
  rw [Int64.toBitVec_and]
  have e : ∀ x : Nat, (lI (x : Int)).toBitVec = BitVec.ofNat 64 x := fun x => by
    show (Int64.ofInt (x : Int)).toBitVec = _
    rw [Int64.toBitVec_ofInt, BitVec.ofInt_natCast]
  rw [e, e, show (2147483647 : Int64).toBitVec = BitVec.ofNat 64 (2 ^ 31 - 1) from rfl]
  apply BitVec.eq_of_toNat_eq
  rw [BitVec.toNat_and, BitVec.toNat_ofNat, BitVec.toNat_ofNat, BitVec.toNat_ofNat, Nat.mod_eq_of_lt (show a < 2 ^ 64 by omega), Nat.mod_eq_of_lt (show 2 ^ 31 - 1 < 2 ^ 64 by decide), Nat.and_two_pow_sub_one_eq_mod, Nat.mod_eq_of_lt (show a % 2147483648 < 2 ^ 64 by omega)]
theorem l32 {k : Nat} : (lI (k : Int)).toInt32 = nI k := by
  show (Int64.ofInt (k : Int)).toInt32 = Int32.ofNat k
  rw [Int64.toInt32_ofInt]
  rfl
theorem mod_r {n L : Nat} (hn : n < 2147483648) (hL : L ≤ 99) : (lI (n : Int) / 65536 - lI (n : Int) / 65536 / (nI L + 1).toInt64 * (nI L + 1).toInt64).toInt32 = nI (n / 65536 % (L + 1)) := by
  have hq : n / 65536 ≤ n := Nat.div_le_self _ _
  rw [nI_1, lI_nI (by omega), show (65536 : Int64) = lI ((65536 : Nat) : Int) from rfl, lI_divN (by omega) (by omega), lI_remN (by omega) (by omega), l32]
section LD
variable {N : Nat} {b : Nat → Int32}
theorem tl_v (h : vb b) (n : Nat) : ldv b (tl b n) ∧ ∀ v, v < gM b → gL (tl b n) v = dlo b n v := by
  have hm := vb_m h
  have := vb_loa (d := tl b n) (x := fun v => if v < gM b then dlo b n v else gL b v) h (fun i hi => by unfold tl; rw [if_neg (by omega)]) (fun v hv => ?_)
  · refine ⟨⟨this.1, fun k hk => by unfold tl; rw [if_neg (by omega)]⟩, fun v hv => ?_⟩
    rw [this.2 v (by omega), if_pos hv]
  · have l9 := vb_l99 h hv
    have e : 6 + v - 6 = v := by omega
    unfold tl
    rw [e]
    by_cases q : v < gM b
    · rw [if_pos (by omega), if_pos q]
      have : dlo b n v < gL b v + 1 := Nat.mod_lt _ (by omega)
      exact ⟨rfl, (by omega), fun z => absurd q (by omega)⟩
    · rw [if_neg (by omega), if_neg q]
      exact ⟨vb_l h hv, l9, vb_l0 h hv⟩
theorem ldv_sm {d : Nat → Int32} (h : ldv b d) : sm b d := sm_of (fun i hi => h.2 i (by omega))
theorem settle_l {f ld : Nat} {d : Nat → Int32} {M : sg_M} (hf : sg_K Yc f 1) (hfq : 17 < f) (hl1 : ld < f) (hll : Yc.2.2.1 ld = 9) (hc : cNet 13 b M) (h : ldv b d) (hl : ∀ v, v < gM b → M.1 ld v = nI (gL d v)) (hN : 1000 ≤ N) : ok (fX1_settle N f 13 16 (b 5) ld M) (fun M1 => bsol d f M1 ∧ fr f (f + 16) M M1) := by
  have hs := ldv_sm h
  have hn := vb_n h.1
  rw [← h.2 5 (by omega)]
  refine ok_imp (settle_ok (N := N) hf (show sg_K Yc 13 4 from ⟨by decide, by decide⟩) h.1.1 (vb_W h.1) (vb_P h.1) (vb_L h.1) (by omega) (Or.inl (by omega)) yn_16 (Or.inl hl1) hll (sm_G hs (cNet_G hc)) (fun s hs2 => ?_) (fun v hv => ?_) hN) (fun M1 hM => ⟨hM.1, flowF_fr hM.2⟩)
  · have hs2 : s < gS d := hs2
    rw [hc.2.2.1 s (by omega), ← h.2 (28 + s) (by omega)]
    exact vb_w h.1 (by omega)
  · have hv : v < gM d := hv
    exact hl v (by rw [← hs.2.2.2.2.2]; exact hv)
theorem K251 : sg_K Yc 251 1 := ⟨by decide, by decide⟩
theorem y248_1 : Yc.2.2.2 248 1 = 249 := by decide
theorem y248_3 : Yc.2.2.2 248 3 = 250 := by decide
theorem y248_4 : Yc.2.2.2 248 4 = 251 := by decide
theorem y251_3 : Yc.2.2.2 251 3 = 253 := by decide
theorem yn_250 : Yc.2.2.1 250 = 9 := by decide
/-- changes in LoadTrials alone -/
def ltF (M M1 : sg_M) : Prop := ∀ a k, a < 248 → M1.1 a k = M.1 a k ∧ M1.2 a k = M.2 a k
theorem ltF_tr {M M1 M2 : sg_M} (h : ltF M M1) (h2 : ltF M1 M2) : ltF M M2 := fun a k ha => ⟨((h2 a k ha).1).trans (h a k ha).1, ((h2 a k ha).2).trans (h a k ha).2⟩
theorem ltF_c {M M1 : sg_M} (hc : cI b M) (hF : ltF M M1) : cI b M1 ∧ low M M1 := ⟨cI_tr hc (fun a k _ h2 => hF a k h2), fun a k h1 _ => (hF a k (by omega)).1⟩
theorem nextDraw_ok {n L : Nat} {M : sg_M} (h2 : M.2 248 2 = lI (n : Int)) (hn : n < 2147483648) (hL : L ≤ 99) : fX2_nextDraw N 248 (nI L) M = some (nI (lcg n / 65536 % (L + 1)), sg_uJ M 248 2 (lI (lcg n : Int))) := by
  have hb := lcg_b n
  unfold fX2_nextDraw
  rw [h2, lcg_r hn, and_m (by omega), e_m]
  show (if _ then some ((0 : Int32), sg_uJ M 248 2 (lI (lcg n : Int))) else _) = _
  by_cases q : L = 0
  · subst q
    rw [if_pos (show nI 0 ≤ 0 by decide), Nat.zero_add, Nat.mod_one]
    rfl
  · rw [if_neg (fun z => q ((nI_le0 (by omega)).mp z)), if_neg (by decide), if_neg (fun z => by rw [nI_1, lI_nI (by omega)] at z; have := (lN0 (b := L + 1) (by omega)).mp z; omega), uJ_eq]
    show some (((lI (lcg n : Int) / 65536 - lI (lcg n : Int) / 65536 / (nI L + 1).toInt64 * (nI L + 1).toInt64)).toInt32, _) = _
    rw [mod_r hb hL]
    rfl
theorem dee_b (h : vb b) {n : Nat} : ∀ i, (0 ≤ (dee b n i).1 ∧ (dee b n i).1 ≤ 18919194624) ∧ 0 < (dee b n i).2 ∧ (dee b n i).2 ≤ 169869312 := by
  intro i
  induction i with
  | zero => exact ⟨⟨show (0 : Int) ≤ 0 by omega, show (0 : Int) ≤ 18919194624 by omega⟩, show (0 : Int) < 1 by omega, show (1 : Int) ≤ 169869312 by omega⟩
  | succ i ih =>
    unfold dee
    have hv := (tl_v h (sds b n i)).1.1
    split
    · exact ⟨bMx_b hv, bD_b hv⟩
    · exact ih
theorem c_dpr2 {j1 j2 : Nat} {x y : Nat × Int × Int} {M : sg_M} (h1 : scoAt x j1 M) (h2 : M.2 j2 1 = lI y.2.1 ∧ M.2 j2 2 = lI y.2.2) (gx : (0 ≤ x.2.1 ∧ x.2.1 ≤ 18919194624) ∧ 0 < x.2.2 ∧ x.2.2 ≤ 169869312) (gy : (0 ≤ y.2.1 ∧ y.2.1 ≤ 18919194624) ∧ 0 < y.2.2 ∧ y.2.2 ≤ 169869312) : fX7_isDeeperThan N j1 j2 M = some (if y.2.1 * x.2.2 < x.2.1 * y.2.2 then 1 else 0, M) := by
  have m1 := mul_b gx.1 gy.2
  have m2 := mul_b gy.1 gx.2
  unfold fX7_isDeeperThan
  rw [h1.2.1, h1.2.2, h2.1, h2.2, lI_mul, lI_mul]
  by_cases q : y.2.1 * x.2.2 < x.2.1 * y.2.2
  · rw [if_neg (fun z => (lt_of (by omega) (by omega)).1.mp z q), if_pos q]
  · rw [if_pos ((lt_of (by omega) (by omega)).1.mpr q), if_neg q]
theorem hel_le {n : Nat} : ∀ i, hel b n i ≤ i := by
  intro i
  induction i with
  | zero => exact Nat.le_refl _
  | succ i ih => unfold hel; split <;> omega
set_option maxHeartbeats 1000000 in
theorem play_ok {n t : Nat} {M : sg_M} (hc : cI b M) (hn : n < 2147483648) (ht : t ≤ 100) (hN : 1000 ≤ N) : ok (fX2_play N 248 13 (nI n) (nI t) M) (fun M1 => ltF M M1 ∧ M1.1 248 0 = nI (hel b n t) ∧ M1.2 249 1 = lI (dee b n t).1 ∧ M1.2 249 2 = lI (dee b n t).2) := by
  have h := hc.1
  have hm := vb_m h
  unfold fX2_play
  rw [y248_1, lI_nI (by omega)]
  refine ok_m (ok_m (ok_m (ok_m (ok_m ?_))))
  unfold gX2_play_30
  refine ok_for 0 t (fun i s M1 => s = (248, 13, nI t, nI i) ∧ ltF M M1 ∧ M1.1 248 0 = nI (hel b n i) ∧ M1.2 249 1 = lI (dee b n i).1 ∧ M1.2 249 2 = lI (dee b n i).2 ∧ M1.2 248 2 = lI (sds b n i : Int)) (by omega) (by omega) ⟨rfl, fun a k ha => ⟨by rw [uJ_i, uJ_i, uJ_i, uI_na (by omega)], by rw [uJ_na (by omega), uJ_na (by omega), uJ_na (by omega)]; rfl⟩, by rw [uJ_i, uJ_i, uJ_i, uI_eq]; rfl, by rw [uJ_na (by omega), uJ_nb (by omega), uJ_eq]; rfl, by rw [uJ_na (by omega), uJ_eq]; rfl, uJ_eq⟩ ?_ ?_
  · rintro i s M1 back hi ⟨rfl, hF, h0, h1, h2, hS⟩ hb
    have hsd := sds_b (b := b) hn i
    have tv := tl_v h (sds b n i)
    unfold bX2_play_30
    dsimp only
    refine ok_f (nI_ge hi (by omega)) (ok_m ?_)
    unfold gX2_play_39
    refine ok_for 0 (gM b) (fun v s M2 => s = (248, 13, nI t, nI i, nI v) ∧ ltF M M2 ∧ M2.1 248 0 = nI (hel b n i) ∧ M2.2 249 1 = lI (dee b n i).1 ∧ M2.2 249 2 = lI (dee b n i).2 ∧ M2.2 248 2 = lI (sd (sds b n i) v : Int) ∧ ∀ u, u < v → M2.1 250 u = nI (dlo b (sds b n i) u)) (by omega) (by omega) ⟨rfl, hF, h0, h1, h2, hS, fun u hu => absurd hu (by omega)⟩ ?_ ?_
    · rintro v s M2 back2 hv ⟨rfl, hF2, a0, a1, a2, aS, aL⟩ hb2
      have l9 := vb_l99 h (show v < 9 by omega)
      unfold bX2_play_39
      dsimp only
      rw [(hF2 13 5 (by omega)).1, cf5 hc, y13_12, yn_17, y248_3, yn_250, nI_clamp (show v < 2 ^ 31 by omega), (hF2 17 v (by omega)).1, (cI_N hc).2.2.2.1 v (by omega), vb_l h (by omega), nextDraw_ok aS (sd_b hsd v) l9, nI_1]
      refine ok_f (nI_ge hv (by omega)) (ok_t (ib_nI (by omega) (by omega)) (ok_bs (ok_t (ib_nI (by omega) (by omega)) (ok_m (ok_m (hb2 _ _ ⟨rfl, fun a k ha => ⟨?_, ?_⟩, ?_, ?_, ?_, ?_, fun u hu => ?_⟩))))))
      · rw [uI_na (by omega), uJ_i]; exact (hF2 a k ha).1
      · rw [uI_l, uJ_na (by omega)]; exact (hF2 a k ha).2
      · rw [uI_na (by omega), uJ_i, a0]
      · rw [uI_l, uJ_na (by omega), a1]
      · rw [uI_l, uJ_na (by omega), a2]
      · rw [uI_l, uJ_eq]; rfl
      · by_cases e : u = v
        · subst e; rw [uI_eq]; rfl
        · rw [uI_nb e, uJ_i]; exact aL u (by omega)
    · rintro s M2 back2 ⟨rfl, hF2, a0, a1, a2, aS, aL⟩
      have cN2 : cNet 13 b M2 := cNet_c (cI_N hc) (fun a k g1 g2 _ => (hF2 a k (by omega)).1)
      unfold bX2_play_39
      dsimp only
      rw [(hF2 13 5 (by omega)).1, cf5 hc, y13_11, y248_3, y248_4, y251_3, cN2.1.2.2.2.2.2]
      refine ok_t (nI_le (Nat.le_refl _) (by omega)) (ok_bv (settle_l (N := N) (f := 251) (ld := 250) K251 (by omega) (by omega) yn_250 cN2 tv.1 (fun v hv => by rw [tv.2 v hv]; exact aL v hv) hN) (fun M3 h3 => ?_))
      obtain ⟨S3, F3⟩ := h3
      have sc : scoAt (sco (tl b (sds b n i))) 253 M3 := bsol_sco (f := 251) S3
      have n2 : M3.1 13 2 = nI (gT b) := by rw [(F3 13 2 (by omega)).1, cN2.1.2.2.1, vb_2 h]
      have db := dee_b h (n := n) i
      have hle := hel_le (b := b) (n := n) i
      have F4 : ltF M M3 := fun a k ha => by rw [(F3 a k (by omega)).1, (F3 a k (by omega)).2]; exact hF2 a k ha
      rw [n2, c_wT tv.1.1 sc (ldv_sm tv.1).2.2.1, e_b]
      have fin : ∀ M4 : sg_M, ltF M M4 → M4.1 248 0 = nI (hel b n (i + 1)) → M4.2 249 1 = lI (dee b n i).1 → M4.2 249 2 = lI (dee b n i).2 → M4.2 248 2 = lI (sds b n (i + 1) : Int) → scoAt (sco (tl b (sds b n i))) 253 M4 → ok (gX2_play_119 N back 248 13 (nI t) (nI i) M4) (fun M1 => ltF M M1 ∧ M1.1 248 0 = nI (hel b n t) ∧ M1.2 249 1 = lI (dee b n t).1 ∧ M1.2 249 2 = lI (dee b n t).2) := fun M4 p1 p2 p3 p4 p5 p6 => by
        unfold gX2_play_119
        have g := gsc_b tv.1.1
        rw [y248_1, y248_4, y251_3, c_dpr2 (y := (0, (dee b n i).1, (dee b n i).2)) p6 ⟨p3, p4⟩ g.2 db, e_b, nI_1]
        have ed : dee b n (i + 1) = if (dee b n i).1 * bD (tl b (sds b n i)) < bMx (tl b (sds b n i)) * (dee b n i).2 then (bMx (tl b (sds b n i)), bD (tl b (sds b n i))) else dee b n i := rfl
        show ok (if (if (dee b n i).1 * bD (tl b (sds b n i)) < bMx (tl b (sds b n i)) * (dee b n i).2 then (1 : Int32) else 0) = 0 then _ else _) _
        by_cases q : (dee b n i).1 * bD (tl b (sds b n i)) < bMx (tl b (sds b n i)) * (dee b n i).2
        · rw [if_pos q] at ed ⊢
          refine ok_f q1 (ok_bv (c_cpy (N := N) (j1 := 249) p6 (by omega)) (fun M5 h5 => ok_m (hb _ _ ⟨rfl, fun a k ha => ?_, ?_, ?_, ?_, ?_⟩)))
          · rw [(h5.2 a k (by omega)).1, (h5.2 a k (by omega)).2]; exact p1 a k ha
          · rw [(h5.2 248 0 (by omega)).1, p2]
          · rw [ed]; exact h5.1.2.1
          · rw [ed]; exact h5.1.2.2
          · rw [(h5.2 248 2 (by omega)).2, p5]
        · rw [if_neg q] at ed ⊢
          exact ok_t q0 (ok_m (hb _ _ ⟨rfl, p1, p2, by rw [ed]; exact p3, by rw [ed]; exact p4, p5⟩))
      have eh : hel b n (i + 1) = hel b n i + (if hold (tl b (sds b n i)) = true then 1 else 0) := rfl
      by_cases q : hold (tl b (sds b n i)) = true
      · rw [if_pos q] at eh ⊢
        refine ok_f q1 (ok_m (fin _ (fun a k ha => ⟨by rw [uI_na (by omega)]; exact (F4 a k ha).1, (F4 a k ha).2⟩) ?_ ?_ ?_ ?_ (scoAt_c sc (fun k => ⟨uI_na (by omega), rfl⟩))))
        · rw [uI_eq, (F3 248 0 (by omega)).1, a0, nI_1, eh]
        · rw [uI_l, (F3 249 1 (by omega)).2, a1]
        · rw [uI_l, (F3 249 2 (by omega)).2, a2]
        · rw [uI_l, (F3 248 2 (by omega)).2, aS]; rfl
      · rw [if_neg q] at eh ⊢
        refine ok_t q0 (fin M3 F4 ?_ ?_ ?_ ?_ sc)
        · rw [(F3 248 0 (by omega)).1, a0, eh]; rfl
        · rw [(F3 249 1 (by omega)).2, a1]
        · rw [(F3 249 2 (by omega)).2, a2]
        · rw [(F3 248 2 (by omega)).2, aS]; rfl
  · rintro s M1 back ⟨rfl, hF, h0, h1, h2, hS⟩
    unfold bX2_play_30
    dsimp only
    exact ok_t (nI_le (Nat.le_refl _) (by omega)) (ok_some ⟨hF, h0, h1, h2⟩)
end LD
