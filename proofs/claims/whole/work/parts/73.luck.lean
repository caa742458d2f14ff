/-! the reference's tries; chance, luck, room -/
section LU
variable {N : Nat} {b : Nat → Int32}
theorem draws1_ok {n L : Nat} {M : sg_M} (h2 : M.2 0 37 = lI (n : Int)) (hn : n < 2147483648) (hL : L ≤ 99) : fX11_draws1 N 0 (nI L) M = some (nI (lcg n / 65536 % (L + 1)), sg_uJ M 0 37 (lI (lcg n : Int))) := by
  have hb := lcg_b n
  unfold fX11_draws1
  rw [if_neg (by decide), h2, lcg_r hn, show (2147483648 : Int64) = lI ((2147483648 : Nat) : Int) from rfl, lI_remN (by omega) (by omega), e_m, if_neg (by decide), if_neg (fun z => by rw [nI_1, lI_nI (by omega)] at z; have := (lN0 (b := L + 1) (by omega)).mp z; omega), uJ_eq]
  show some (((lI (lcg n : Int) / 65536 - lI (lcg n : Int) / 65536 / (nI L + 1).toInt64 * (nI L + 1).toInt64)).toInt32, _) = _
  rw [mod_r hb hL]
  rfl
theorem cmpN_gz {x y : Nat} : 0 < cmpN x y ↔ y < x := by
  unfold cmpN
  by_cases h : x < y
  · rw [if_pos h]
    exact ⟨fun z => absurd z (by decide), fun z => absurd z (by omega)⟩
  · rw [if_neg h]
    by_cases q : y < x
    · rw [if_pos q]
      exact ⟨fun _ => q, fun _ => by decide⟩
    · rw [if_neg q]
      exact ⟨fun z => absurd z (by decide), fun z => absurd z q⟩
set_option maxHeartbeats 1000000 in
theorem tries_ok {n t : Nat} {M : sg_M} (h : vb b) (h1 : M.1 1 = b) (hn : n < 2147483648) (ht : t ≤ 100) (hN : 1000 ≤ N) : okA (fX11_tries N 0 (nI n) (nI t) M) (nI (hel b n t)) (fun M1 => rEq M M1 ∧ M1.2 0 32 = lI (dee b n t).1 ∧ M1.2 0 33 = lI (dee b n t).2) := by
  apply okA_of
  have hm := vb_m h
  unfold fX11_tries
  refine ok_bv (putC (N := N) rEq_refl h1 hN) (fun M0 g0 => ?_)
  obtain ⟨w0, s0, e0, -⟩ := g0
  rw [lI_nI (by omega)]
  refine ok_m (ok_m (ok_m (ok_m (ok_m ?_))))
  unfold gX11_tries_25
  refine ok_for 0 t (fun i s M1 => s = (0, nI t, nI (hel b n i), nI i) ∧ (∀ k, (k < 6 ∨ 6 + gM b ≤ k) → M1.1 1 k = b k) ∧ sv b M1 ∧ reW M M1 ∧ M1.2 0 32 = lI (dee b n i).1 ∧ M1.2 0 33 = lI (dee b n i).2 ∧ M1.2 0 37 = lI (sds b n i : Int)) (by omega) (by omega) ⟨rfl, fun k _ => by rw [uJ_i, uJ_i, uJ_i, w0], s0, e0, by rw [uJ_nb (by omega), uJ_eq]; rfl, by rw [uJ_eq]; rfl, by rw [uJ_nb (by omega), uJ_nb (by omega), uJ_eq]; rfl⟩ ?_ ?_
  · rintro i s M1 back hi ⟨rfl, w1, s1, r1, g1, g2, gS⟩ hb
    have hsd := sds_b (b := b) hn i
    have tv := tl_v h (sds b n i)
    unfold bX11_tries_25
    dsimp only
    refine ok_f (nI_ge hi (by omega)) (ok_m ?_)
    unfold gX11_tries_34
    refine ok_for 0 (gM b) (fun v s M2 => s = (0, nI t, nI (hel b n i), nI i, nI v) ∧ (∀ k, (k < 6 ∨ 6 + gM b ≤ k) → M2.1 1 k = b k) ∧ sv b M2 ∧ reW M M2 ∧ M2.2 0 32 = lI (dee b n i).1 ∧ M2.2 0 33 = lI (dee b n i).2 ∧ M2.2 0 37 = lI (sd (sds b n i) v : Int) ∧ ∀ u, u < v → M2.1 1 (6 + u) = nI (dlo b (sds b n i) u)) (by omega) (by omega) ⟨rfl, w1, s1, r1, g1, g2, gS, fun u hu => absurd hu (by omega)⟩ ?_ ?_
    · rintro v s M2 back2 hv ⟨rfl, w2, s2, r2, a1, a2, aS, aL⟩ hb2
      have l9 := vb_l99 h (show v < 9 by omega)
      have en : M2.1 1 0 * M2.1 1 1 = nI (gM b) := by rw [w2 0 (by omega), w2 1 (by omega)]; exact vb_01 h
      unfold bX11_tries_34
      dsimp only
      rw [r_nodesE en, e_b, yr_1, yl_1, yr_30, yl_15, k_6, nI_clamp (show 6 + v < 2 ^ 31 by omega), s2 (6 + v) (by omega), vb_l h (by omega), draws1_ok aS (sd_b hsd v) l9, nI_1]
      refine ok_f (nI_ge hv (by omega)) (ok_t (ib_nI (by omega) (by omega)) (ok_bs (ok_t (ib_nI (by omega) (by omega)) (ok_m (ok_m (hb2 _ _ ⟨rfl, fun k hk => ?_, fun k hk => ?_, ⟨fun a ha => ?_, fun k hk => ?_⟩, ?_, ?_, ?_, fun u hu => ?_⟩))))))
      · rw [uI_nb (by omega), uJ_i]; exact w2 k hk
      · rw [uI_na (by omega), uJ_i]; exact s2 k hk
      · funext k
        rw [uI_na (by omega), uJ_i, r2.1 a ha]
      · rw [uI_na (by omega), uJ_i, r2.2 k hk]
      · rw [uI_l, uJ_nb (by omega), a1]
      · rw [uI_l, uJ_nb (by omega), a2]
      · rw [uI_l, uJ_eq]; rfl
      · by_cases e : u = v
        · subst e; rw [uI_eq]; rfl
        · rw [uI_nb (by omega), uJ_i]; exact aL u (by omega)
    · rintro s M2 back2 ⟨rfl, w2, s2, r2, a1, a2, aS, aL⟩
      have en : M2.1 1 0 * M2.1 1 1 = nI (gM b) := by rw [w2 0 (by omega), w2 1 (by omega)]; exact vb_01 h
      have wt : M2.1 1 = tl b (sds b n i) := by
        funext k
        unfold tl
        by_cases q : 6 ≤ k ∧ k < 6 + gM b
        · rw [if_pos q]
          have := aL (k - 6) (by omega)
          rw [show 6 + (k - 6) = k by omega] at this
          exact this
        · rw [if_neg q]; exact w2 k (by omega)
      unfold bX11_tries_34
      dsimp only
      rw [r_nodesE en, e_b]
      refine ok_t (nI_le (Nat.le_refl _) (by omega)) (ok_a (r_hold (N := N) tv.1.1 wt hN) (fun M3 h3 => ?_))
      obtain ⟨S3, F3⟩ := h3
      have db := dee_b h (n := n) i
      have hle := hel_le (b := b) (n := n) i
      have k1 : M3.2 0 32 = lI (dee b n i).1 := by rw [F3.2 0 32 (by omega) (by omega), a1]
      have k2 : M3.2 0 33 = lI (dee b n i).2 := by rw [F3.2 0 33 (by omega) (by omega), a2]
      have kS : M3.2 0 37 = lI (sds b n (i + 1) : Int) := by rw [F3.2 0 37 (by omega) (by omega), aS]; rfl
      have r3 : reW M M3 := reW_tr r2 (reW_of (rsF_rEq F3))
      have s3 : sv b M3 := sv_B s2 (raB_s F3)
      have w3 : ∀ k, (k < 6 ∨ 6 + gM b ≤ k) → M3.1 1 k = b k := fun k hk => by rw [rsF_1 F3]; exact w2 k hk
      obtain ⟨m1, m2⟩ := bMx_b tv.1.1
      obtain ⟨m3, m4⟩ := bD_b tv.1.1
      obtain ⟨⟨p1, p2⟩, p3, p4⟩ := db
      have fin : ∀ y : Nat, hel b n (i + 1) = hel b n i + y → y ≤ 1 → ok (gX11_tries_86 N back 0 (nI t) (nI i) (nI (hel b n i)) (nI y) M3) (fun res => res.1 = nI (hel b n t) ∧ rEq M res.2 ∧ res.2.2 0 32 = lI (dee b n t).1 ∧ res.2.2 0 33 = lI (dee b n t).2) := fun y ey hy => by
        unfold gX11_tries_86
        refine ok_m ?_
        rw [r_mst tv.1.1 S3 (by omega), e_b, r_whole S3, k1, k2, lNn m1, lNn (show 0 ≤ bD (tl b (sds b n i)) by omega), lNn p1, lNn (show 0 ≤ (dee b n i).2 by omega), r_compares (by omega) (by omega) (by omega) (by omega) (by omega), e_b, nI_add, ← ey, nI_1]
        have c1 : (((bMx (tl b (sds b n i))).toNat * (dee b n i).2.toNat : Nat) : Int) = bMx (tl b (sds b n i)) * (dee b n i).2 := by rw [Int.natCast_mul, Int.toNat_of_nonneg m1, Int.toNat_of_nonneg (show 0 ≤ (dee b n i).2 by omega)]
        have c2 : (((dee b n i).1.toNat * (bD (tl b (sds b n i))).toNat : Nat) : Int) = (dee b n i).1 * bD (tl b (sds b n i)) := by rw [Int.natCast_mul, Int.toNat_of_nonneg p1, Int.toNat_of_nonneg (show 0 ≤ bD (tl b (sds b n i)) by omega)]
        have ed : dee b n (i + 1) = if (dee b n i).1 * bD (tl b (sds b n i)) < bMx (tl b (sds b n i)) * (dee b n i).2 then (bMx (tl b (sds b n i)), bD (tl b (sds b n i))) else dee b n i := rfl
        refine ok_if (fun z => ?_) (fun z => ?_)
        · have z := cmpN_gz.mp z
          rw [if_pos (show (dee b n i).1 * bD (tl b (sds b n i)) < bMx (tl b (sds b n i)) * (dee b n i).2 by omega)] at ed
          rw [r_mst tv.1.1 S3 (by omega), e_b]
          refine ok_m (ok_m (ok_m (hb _ _ ⟨rfl, w3, s3, r3, ?_, ?_, ?_⟩)))
          · rw [uJ_nb (by omega), uJ_eq, ed]
          · rw [uJ_eq, uJ_nb (by omega), r_whole S3, ed]
          · rw [uJ_nb (by omega), uJ_nb (by omega), kS]
        · have z : ¬ (dee b n i).1.toNat * (bD (tl b (sds b n i))).toNat < (bMx (tl b (sds b n i))).toNat * (dee b n i).2.toNat := fun w => z (cmpN_gz.mpr w)
          rw [if_neg (show ¬ (dee b n i).1 * bD (tl b (sds b n i)) < bMx (tl b (sds b n i)) * (dee b n i).2 by omega)] at ed
          exact ok_m (hb _ _ ⟨rfl, w3, s3, r3, by rw [ed]; exact k1, by rw [ed]; exact k2, kS⟩)
      have eh : hel b n (i + 1) = hel b n i + (if hold (tl b (sds b n i)) = true then 1 else 0) := rfl
      by_cases q : hold (tl b (sds b n i)) = true
      · rw [if_pos q] at eh ⊢
        exact ok_f q1 (fin 1 eh (by omega))
      · rw [if_neg q] at eh ⊢
        exact ok_t q0 (fin 0 eh (by omega))
  · rintro s M1 back ⟨rfl, w1, s1, r1, g1, g2, gS⟩
    unfold bX11_tries_25
    dsimp only
    refine ok_t (nI_le (Nat.le_refl _) (by omega)) (ok_bv (takesOut_ok (N := N) s1 (fun k hk => w1 k (by omega)) (by omega)) (fun M3 g3 => ok_some ⟨rfl, reW_to (reW_tr r1 ⟨fun a ha => funext fun k => g3.2.1 a k (by omega), fun k _ => g3.2.1 0 k (by omega)⟩) (g3.1.trans h1.symm), by rw [g3.2.2, g1], by rw [g3.2.2, g2]⟩))
theorem r_inG {x : Int32} {lo hi : Int} {M : sg_M} (h1 : -1000000 < lo ∧ lo < 1000000) (h2 : -1000000 < hi ∧ hi < 1000000) : fX11_in N x.toInt64 (lI lo) (lI hi) M = some (if lo ≤ x.toInt ∧ x.toInt ≤ hi then 1 else 0, M) := by
  have hx := i32_b x
  unfold fX11_in
  rw [i64]
  by_cases h1 : x.toInt < lo
  · rw [if_pos (lg_lt.mpr ((lI_lt (by omega) (by omega) (by omega) (by omega)).mpr h1)), if_neg (by omega)]
  · rw [if_neg (fun z => h1 ((lI_lt (by omega) (by omega) (by omega) (by omega)).mp (lg_lt.mp z)))]
    by_cases h2 : hi < x.toInt
    · rw [if_pos (lg_gt.mpr ((lI_lt (by omega) (by omega) (by omega) (by omega)).mpr h2)), if_neg (by omega)]
    · rw [if_neg (fun z => h2 ((lI_lt (by omega) (by omega) (by omega) (by omega)).mp (lg_gt.mp z))), if_pos (by omega)]
theorem lt_i {x y : Int32} : x < y ↔ x.toInt < y.toInt := Int32.lt_iff_toInt_lt
theorem le_i {x y : Int32} : x ≤ y ↔ x.toInt ≤ y.toInt := Int32.le_iff_toInt_le
theorem q_chance {x y : Int32} (hN : 1000 ≤ N) : bth b (fX10_chance N 0 x y) (fX11_chance N 0 x y) := by
  intro Mc Mr hc hr
  have h := hc.1
  unfold fX10_chance fX11_chance
  rw [c_ng hc, r_grd h hr, e_b, e_b, if_pos q0, if_neg q1, show (1 : Int64) = lI 1 from rfl, show (100 : Int64) = lI 100 from rfl, r_inG (by omega) (by omega), e_b]
  have i0 : Int32.toInt 0 = 0 := by decide
  have i1 : Int32.toInt 1 = 1 := by decide
  have i100 : Int32.toInt 100 = 100 := by decide
  by_cases hx : x < 0
  · rw [if_pos hx, if_pos hx]
    exact ⟨-2, ⟨_, rfl, hc, low_refl⟩, ⟨_, rfl, rEq_refl⟩⟩
  rw [if_neg hx, if_neg hx]
  by_cases hy : 1 ≤ y.toInt ∧ y.toInt ≤ 100
  case neg =>
    simp only [if_neg hy, if_pos q0]
    refine ⟨-2, ?_, ⟨_, rfl, rEq_refl⟩⟩
    by_cases l : y < 1
    · rw [if_pos l]; exact ⟨_, rfl, hc, low_refl⟩
    · rw [if_neg l, if_neg (fun z => hy (by rw [lt_i] at l; rw [le_i] at z; omega))]; exact ⟨_, rfl, hc, low_refl⟩
  simp only [if_pos hy, if_neg q1]
  rw [if_neg (fun z => by rw [lt_i] at z; omega), if_pos (by rw [le_i]; omega)]
  obtain ⟨n, hn, rfl⟩ := nn_ex (x := x) (by rw [le_i]; rw [lt_i] at hx; omega)
  obtain ⟨t, ht, rfl⟩ := nn_ex (x := y) (by rw [le_i]; omega)
  rw [nI_toInt ht] at hy
  obtain ⟨M2, e2, F2, k0, -⟩ := play_ok (N := N) (n := n) (t := t) hc (by omega) (by omega) hN
  obtain ⟨M1, e1, r1, -⟩ := tries_ok (N := N) (n := n) (t := t) h hr (by omega) (by omega) hN
  rw [y0_12, y0_1, e2, e_bv, e1, e_b, k0]
  exact ⟨_, ⟨_, rfl, ltF_c hc F2⟩, ⟨_, rfl, r1⟩⟩
theorem q_luck {x y z : Int32} (hN : 1000 ≤ N) : bth b (fX10_luck N 0 x y z) (fX11_luck N 0 x y z) := by
  intro Mc Mr hc hr
  have h := hc.1
  unfold fX10_luck fX11_luck
  rw [c_ng hc, r_grd h hr, e_b, e_b, if_pos q0, if_neg q1, show (1 : Int64) = lI 1 from rfl, show (100 : Int64) = lI 100 from rfl, r_inG (by omega) (by omega), e_b, c_isPart, r_isPart, e_b, e_b]
  have i0 : Int32.toInt 0 = 0 := by decide
  have i1 : Int32.toInt 1 = 1 := by decide
  have i100 : Int32.toInt 100 = 100 := by decide
  by_cases hx : x < 0
  · rw [if_pos hx, if_pos hx]
    exact ⟨-2, ⟨_, rfl, hc, low_refl⟩, ⟨_, rfl, rEq_refl⟩⟩
  rw [if_neg hx, if_neg hx]
  by_cases hy : 1 ≤ y.toInt ∧ y.toInt ≤ 100
  case neg =>
    simp only [if_neg hy, if_pos q0]
    refine ⟨-2, ?_, ⟨_, rfl, rEq_refl⟩⟩
    by_cases l : y < 1
    · rw [if_pos l]; exact ⟨_, rfl, hc, low_refl⟩
    · rw [if_neg l, if_pos (by rw [lt_i] at l; rw [lt_i]; omega)]; exact ⟨_, rfl, hc, low_refl⟩
  simp only [if_pos hy, if_neg q1]
  rw [if_neg (show ¬ y < 1 from fun z => by rw [lt_i] at z; omega), if_neg (show ¬ 100 < y by rw [lt_i]; omega)]
  by_cases hz : sg_ib z 2 = true
  case neg => simp only [if_neg hz, if_pos q0]; exact ⟨-2, ⟨_, rfl, hc, low_refl⟩, ⟨_, rfl, rEq_refl⟩⟩
  simp only [if_pos hz, if_neg q1]
  obtain ⟨n, hn, rfl⟩ := nn_ex (x := x) (by rw [le_i]; rw [lt_i] at hx; omega)
  obtain ⟨t, ht, rfl⟩ := nn_ex (x := y) (by rw [le_i]; omega)
  rw [nI_toInt ht] at hy
  obtain ⟨M2, e2, F2, -, k1, k2⟩ := play_ok (N := N) (n := n) (t := t) hc (by omega) (by omega) hN
  obtain ⟨M1, e1, r1, g1, g2⟩ := tries_ok (N := N) (n := n) (t := t) h hr (by omega) (by omega) hN
  have db := dee_b h (n := n) t
  rw [y0_12, y0_1, e2, e_bv, e1, e_b, y248_1, k1, k2, g1, g2, c_part (by omega) (by omega) (by omega), r_part (by omega) (by omega) (by omega)]
  exact ⟨_, ⟨_, rfl, ltF_c hc F2⟩, ⟨_, rfl, r1⟩⟩
/-! room -/
def lB (b : Nat → Int32) (v m : Nat) : Nat → Int32 := ub b (6 + v) (nI m)
theorem lB_v (h : vb b) {v m : Nat} (hv : v < gM b) (hm : m ≤ 99) : ldv b (lB b v m) ∧ ∀ u, u < 9 → gL (lB b v m) u = if u = v then m else gL b u := by
  have h9 := vb_m h
  have := vb_loa (d := lB b v m) (x := fun u => if u = v then m else gL b u) h (fun i hi => ub_ne (by omega)) (fun u hu => ?_)
  · exact ⟨⟨this.1, fun k hk => ub_ne (by omega)⟩, this.2⟩
  · by_cases e : u = v
    · subst e
      rw [if_pos rfl]
      exact ⟨ub_eq, hm, fun z => by omega⟩
    · rw [if_neg e]
      exact ⟨by show ub _ _ _ _ = _; rw [ub_ne (by omega)]; exact vb_l h hu, vb_l99 h hu, vb_l0 h hu⟩
theorem ld_eq {d : Nat → Int32} (h : ldv b d) : gC d = gC b ∧ gR d = gR b ∧ gW d = gW b ∧ d 5 = b 5 ∧ gM d = gM b ∧ gT d = gT b := by
  have hs := ldv_sm h
  exact ⟨hs.1, hs.2.1, funext fun s => by unfold gW; rw [h.2 _ (by omega)], h.2 5 (by omega), hs.2.2.2.2.2, hs.2.2.1⟩
theorem stC_mono {c r : Nat} {w : Nat → Nat} {P : Int32} {L L2 : Nat → Nat} : ∀ k, (∀ v, v < k → L v ≤ L2 v) → stC c r w P L k ≤ stC c r w P L2 k := by
  intro k
  induction k with
  | zero => intro _; exact Nat.le_refl _
  | succ k ih =>
    intro h
    have h1 := ih (fun v hv => h v (by omega))
    have h2 := h k (by omega)
    show stC c r w P L k + _ ≤ stC c r w P L2 k + _
    by_cases q : bt (dead c r w P) k = true ∧ 0 < L k
    · rw [if_pos q, if_pos ⟨q.1, (by omega)⟩]; omega
    · rw [if_neg q]; omega
theorem hold_mono {d e : Nat → Int32} (hd : ldv b d) (he : ldv b e) (hL : ∀ v, v < gM b → gL d v ≤ gL e v) (hh : hold e = true) : hold d = true := by
  obtain ⟨d1, d2, d3, d4, d5, d6⟩ := ld_eq hd
  obtain ⟨e1, e2, e3, e4, e5, e6⟩ := ld_eq he
  unfold hold at hh ⊢
  rw [Bool.and_eq_true, decide_eq_true_iff, decide_eq_true_iff] at hh ⊢
  have eD : bD d = bD e := by show dD _ _ _ _ = dD _ _ _ _; rw [d1, d2, d3, d4, e1, e2, e3, e4]
  have eV : ∀ u v, bV2 d u v = bV2 e u v := fun u v => by show mv _ _ _ _ _ _ = mv _ _ _ _ _ _; rw [d1, d2, d3, d4, e1, e2, e3, e4]
  have hX : ∀ u, u < gM b → bX d u ≤ bX e u := fun u hu => by
    rw [bX_sum hd.1 (by rw [d5]; exact hu), bX_sum he.1 (by rw [e5]; exact hu), d5, e5]
    refine fs_le (fun v hv => ?_)
    unfold shr
    rw [eV]
    have := mvb he.1 (u := v) (v := u) (by rw [e5]; exact hv) (by rw [e5]; exact hu)
    have hl := hL v hv
    exact Int.mul_le_mul_of_nonneg_right (by omega) this.1
  have hM : bMx d ≤ bMx e := by
    rcases mx_at hd.1 (gM d) (Nat.le_refl _) with z | ⟨u, hu, z⟩
    · have z : bMx d = 0 := z
      have := bMx_b he.1
      omega
    · have z : bX d u = bMx d := z
      rw [d5] at hu
      have h1 := hX u hu
      have h2 : bX e u ≤ bMx e := mx_le (gM e) u (by rw [e5]; exact hu)
      omega
  have hSt : bSt d ≤ bSt e := by
    show stC _ _ _ _ _ (gM d) ≤ stC _ _ _ _ _ (gM e)
    rw [d1, d2, d3, d4, d5, e1, e2, e3, e4, e5]
    exact stC_mono _ hL
  rw [eD, d6, ← e6]
  exact ⟨by omega, by omega⟩
abbrev pR (b : Nat → Int32) (v : Nat) : Nat → Bool := fun m => !hold (lB b v m)
def rmN (b : Nat → Int32) (v : Nat) : Nat := fst1 (pR b v) 100
theorem rm_lt (h : vb b) {v m : Nat} (hv : v < gM b) (hm : m < 100) : hold (lB b v m) = true ↔ m < rmN b v := by
  obtain ⟨h1, h2, h3⟩ := fst1_s (pR b v) 100
  constructor
  · intro z
    apply Classical.byContradiction
    intro hn
    have hc : rmN b v < 100 := by omega
    have := h2 hc
    have this : (!hold (lB b v (rmN b v))) = true := this
    rw [hold_mono (lB_v h hv (show rmN b v ≤ 99 by omega)).1 (lB_v h hv (show m ≤ 99 by omega)).1 (fun u hu => by
      have h9 := vb_m h
      rw [(lB_v h hv (show rmN b v ≤ 99 by omega)).2 u (by omega), (lB_v h hv (show m ≤ 99 by omega)).2 u (by omega)]
      by_cases e : u = v
      · rw [if_pos e, if_pos e]; omega
      · rw [if_neg e, if_neg e]; exact Nat.le_refl _) z] at this
    cases this
  · intro z
    have := h3 m z
    have this : (!hold (lB b v m)) = false := this
    simpa using this
theorem rm_100 {v : Nat} : rmN b v ≤ 100 := (fst1_s _ 100).1
theorem iM {n : Nat} (h : n ≤ 1000) : (nI n - 1).toInt = (n : Int) - 1 := by
  cases n with
  | zero => decide
  | succ n => rw [nI_dec (by omega), Nat.add_sub_cancel, nI_toInt (by omega)]; omega
theorem div2 : ∀ a, a < 200 → nI a / 2 = nI (a / 2) := by decide +kernel
def bd8 : Nat → Nat
  | 0 => 100
  | i + 1 => bd8 i / 2
set_option maxHeartbeats 1000000 in
theorem greatest_ok {v : Nat} {M : sg_M} (hc : cI b M) (hv : v < gM b) (hN : 1000 ≤ N) : okA (fX2_greatestDraw N 248 13 (nI v) M) (nI (rmN b v) - 1) (fun M1 => ltF M M1) := by
  apply okA_of
  have h := hc.1
  have hm := vb_m h
  have hr := rm_100 (b := b) (v := v)
  unfold fX2_greatestDraw
  rw [y13_12, yn_17, y248_3, yn_250, show ((0 : Int32)).toNatClampNeg = 0 by decide, show ((9 : Int32)).toNatClampNeg = 9 by decide]
  refine ok_t (by decide) (ok_m (ok_m (ok_m (ok_m ?_))))
  unfold gX2_greatestDraw_24
  refine ok_for 0 8 (fun i s M1 => ∃ l g, s = (248, 13, nI v, nI l - 1, nI g - 1, nI i) ∧ ltF M M1 ∧ (∀ u, u < 9 → u ≠ v → M1.1 250 u = b (6 + u)) ∧ l ≤ rmN b v ∧ rmN b v ≤ g ∧ g ≤ 100 ∧ g - l ≤ bd8 i) (by omega) (by omega) ⟨0, 100, rfl, fun a k ha => ⟨cpy_na (by omega), by rw [cpy_l]⟩, fun u hu _ => by rw [cpy_in hu]; exact (cI_N hc).2.2.2.1 u hu, Nat.zero_le _, hr, Nat.le_refl _, Nat.le_refl _⟩ ?_ ?_
  · rintro i s M1 back hi ⟨l, g, rfl, hF, hL, h1, h2, h3, h4⟩ hb
    have cN : cNet 13 b M1 := cNet_c (cI_N hc) (fun a k g1 g2 _ => (hF a k (by omega)).1)
    unfold bX2_greatestDraw_24
    dsimp only
    refine ok_f (show ¬ nI 8 ≤ nI i from nI_ge hi (by omega)) ?_
    refine ok_if (fun z => ?_) (fun z => ?_)
    · rw [le_i, iM (by omega), iM (by omega)] at z
      exact ok_some ⟨by rw [show l = rmN b v by omega], hF⟩
    · rw [le_i, iM (by omega), iM (by omega)] at z
      have hlg : l < g := by omega
      have em : nI l - 1 + (nI g - 1) + 1 = nI (l + g - 1) := by
        rw [nI_dec (show 1 ≤ l + g by omega) |>.symm, ← nI_add, Int32.sub_eq_add_neg, Int32.sub_eq_add_neg, Int32.sub_eq_add_neg]
        apply Int32.toBitVec_inj.mp
        rw [Int32.toBitVec_add, Int32.toBitVec_add, Int32.toBitVec_add, Int32.toBitVec_add, Int32.toBitVec_add, Int32.toBitVec_add]
        generalize (nI l).toBitVec = x
        generalize (nI g).toBitVec = y
        show x + (-1#32) + (y + (-1#32)) + 1#32 = x + y + (-1#32)
        bv_omega
      obtain ⟨m, hmd⟩ : ∃ m, m = (l + g - 1) / 2 := ⟨_, rfl⟩
      rw [em, div2 _ (by omega), ← hmd, y248_3, y248_4, y251_3, y13_11, yn_250, nI_clamp (show v < 2 ^ 31 by omega)]
      refine ok_f (by decide) (ok_m (ok_t (ib_nI (by omega) (by omega)) (ok_m ?_)))
      have lv := lB_v h hv (show m ≤ 99 by omega)
      have nt : ∀ a k, a ≠ 250 → (sg_uI M1 250 v (nI m)).1 a k = M1.1 a k := fun a k ha => uI_na ha
      rw [nt 13 7 (by omega), cN.1.2.2.2.2.2]
      refine ok_bv (settle_l (N := N) (f := 251) (ld := 250) K251 (by omega) (by omega) yn_250 (cNet_c cN (fun a k g1 g2 _ => nt a k (by omega))) lv.1 (fun u hu => ?_) hN) (fun M3 g3 => ?_)
      · rw [lv.2 u (by omega)]
        by_cases e : u = v
        · subst e; rw [uI_eq, if_pos rfl]
        · rw [uI_nb e, if_neg e, hL u (by omega) e]; exact vb_l h (by omega)
      obtain ⟨S3, F3⟩ := g3
      have n2 : M3.1 13 2 = nI (gT b) := by rw [(F3 13 2 (by omega)).1, nt 13 2 (by omega), cN.1.2.2.1, vb_2 h]
      rw [n2, c_wT lv.1.1 (bsol_sco (f := 251) S3) (ldv_sm lv.1).2.2.1, e_b]
      have F4 : ltF M M3 := fun a k ha => by rw [(F3 a k (by omega)).1, (F3 a k (by omega)).2, nt a k (by omega)]; exact hF a k ha
      have L4 : ∀ u, u < 9 → u ≠ v → M3.1 250 u = b (6 + u) := fun u hu e => by rw [(F3 250 u (by omega)).1, uI_nb e]; exact hL u hu e
      have hrm := rm_lt h hv (show m < 100 by omega)
      have eb : bd8 (i + 1) = bd8 i / 2 := rfl
      by_cases q : hold (lB b v m) = true
      · rw [if_pos q]
        have := hrm.mp q
        refine ok_f q1 (ok_m (ok_m (hb _ _ ⟨m + 1, g, ?_, F4, L4, (by omega), h2, h3, (by omega)⟩)))
        rw [nI_1, nI_dec (show 1 ≤ m + 1 by omega), Nat.add_sub_cancel]
      · rw [if_neg q]
        have : ¬ m < rmN b v := fun w => q (hrm.mpr w)
        refine ok_t q0 (ok_m (ok_m (hb _ _ ⟨l, m, by rw [nI_1], F4, L4, h1, (by omega), (by omega), (by omega)⟩)))
  · rintro s M1 back ⟨l, g, rfl, hF, hL, h1, h2, h3, h4⟩
    have : bd8 8 = 0 := by decide
    unfold bX2_greatestDraw_24
    dsimp only
    exact ok_t (by decide) (ok_some ⟨by rw [show l = rmN b v by omega], hF⟩)
theorem q_room {x : Int32} (hN : 1000 ≤ N) : bth b (fX10_room N 0 x) (fX11_room N 0 x) := by
  intro Mc Mr hc hr
  have h := hc.1
  have hm := vb_m h
  unfold fX10_room fX11_room
  rw [c_hn hc, r_nod h hr, e_b, e_b]
  by_cases hx : sg_ib x (gM b) = true
  case neg => simp only [if_neg hx, if_pos q0]; exact ⟨-2, ⟨_, rfl, hc, low_refl⟩, ⟨_, rfl, rEq_refl⟩⟩
  simp only [if_pos hx, if_neg q1]
  obtain ⟨v, hv, rfl⟩ := ib_ex hx
  have hrm := rm_100 (b := b) (v := v)
  obtain ⟨M2, e2, F2⟩ := greatest_ok (N := N) hc hv hN
  rw [y0_12, y0_1, e2, e_b, yr_1, yl_1, k_6, nI_clamp (show 6 + v < 2 ^ 31 by omega), hr]
  refine ⟨_, ⟨_, rfl, ltF_c hc F2⟩, okA_of ?_⟩
  refine ok_t (ib_nI (by omega) (by omega)) (ok_m (ok_m (ok_t (ib_nI (by omega) (by omega)) (ok_m ?_))))
  have bk : ∀ (y : Int32) (M : sg_M), M.1 1 = ub b (6 + v) y → reW Mr M → rEq Mr (sg_uI M 1 (6 + v) (b (6 + v))) := fun y M w r => reW_to (reW_tr r ⟨fun a ha => funext fun k => uI_na (by omega), fun k _ => uI_na (by omega)⟩) (by rw [uW w, ub_ub, ub_id, hr])
  unfold gX11_room_34
  refine ok_lp (fun m s M => ∃ j, rmN b v ≤ j ∧ j ≤ 100 ∧ m = j ∧ s = (0, nI v, b (6 + v), nI j - 1) ∧ M.1 1 = ub b (6 + v) (nI j - 1) ∧ reW Mr M) ?_ N 100 _ _ ⟨100, hrm, Nat.le_refl _, rfl, rfl, uW hr, ⟨fun a ha => funext fun k => uI_na (by omega), fun k _ => uI_na (by omega)⟩⟩ (by omega)
  rintro m s M back ⟨j, hj1, hj2, rfl, rfl, w1, r1⟩ hb
  unfold bX11_room_34
  dsimp only
  rw [yr_1, yl_1, k_6, nI_clamp (show 6 + v < 2 ^ 31 by omega)]
  cases m with
  | zero =>
    refine ok_t (by decide) (ok_t (ib_nI (by omega) (by omega)) (ok_m (ok_some ⟨?_, bk _ M w1 r1⟩)))
    rw [show rmN b v = 0 by omega]
  | succ j =>
    rw [nI_dec (show 1 ≤ j + 1 by omega), Nat.add_sub_cancel] at w1 ⊢
    have lv := lB_v h hv (show j ≤ 99 by omega)
    refine ok_f (fun q => by rw [nlt0 (by omega)] at q; exact q) (ok_a (r_hold (N := N) (b := lB b v j) lv.1.1 w1 hN) (fun M3 h3 => ?_))
    have r3 : reW Mr M3 := reW_tr r1 (reW_of (rsF_rEq h3.2))
    have hq := rm_lt h hv (show j < 100 by omega)
    by_cases q : hold (lB b v j) = true
    · rw [if_pos q]
      have := hq.mp q
      refine ok_f q1 (ok_t (ib_nI (by omega) (by omega)) (ok_m (ok_some ⟨?_, bk _ M3 h3.1.2 r3⟩)))
      rw [show rmN b v = j + 1 by omega, nI_dec (show 1 ≤ j + 1 by omega), Nat.add_sub_cancel]
    · rw [if_neg q]
      have : ¬ j < rmN b v := fun w => q (hq.mpr w)
      refine ok_t q0 (ok_m (ok_t (ib_nI (by omega) (by omega)) (ok_m (hb j _ _ (by omega) ⟨j, (by omega), (by omega), rfl, by rw [Int32.sub_eq_add_neg], ?_, reW_tr r3 ⟨fun a ha => funext fun k => uI_na (by omega), fun k _ => uI_na (by omega)⟩⟩))))
      rw [uW h3.1.2, Int32.sub_eq_add_neg]
      exact ub_ub
end LU
