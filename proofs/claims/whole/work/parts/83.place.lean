/-! where a number of a block lies in a Net; places read -/
def lo1 (j : Nat) : Nat := if j < 6 then 0 else if j < 15 then 4 else if j < 24 then 5 else if j < 28 then 6 else 3
def lo2 (j : Nat) : Nat := if j < 5 then j else if j = 5 then 7 else if j < 15 then j - 6 else if j < 24 then j - 15 else if j < 28 then j - 24 else j - 28
theorem lo_inj : ∀ i, i < 40 → ∀ j, j < 40 → (lo1 i = lo1 j ∧ lo2 i = lo2 j) → i = j := by decide
theorem lo_b : ∀ i, i < 40 → lo1 i < 7 ∧ lo1 i ≠ 1 ∧ lo1 i ≠ 2 ∧ (lo1 i = 0 → lo2 i ≠ 5 ∧ lo2 i ≠ 6 ∧ lo2 i ≠ 8) := by decide
theorem cNet_iff {q : Nat} {b : Nat → Int32} {M : sg_M} : cNet q b M ↔ ((∀ j, j < 40 → M.1 (q + lo1 j) (lo2 j) = b j) ∧ netG (gC b) (gR b) q M) := by
  constructor
  · rintro ⟨⟨h0, h1, h2, h3, h4, h7⟩, hG, hw, hl, hg, hb⟩
    refine ⟨fun j hj => ?_, hG⟩
    unfold lo1 lo2
    by_cases a1 : j < 6
    · rw [if_pos a1]
      obtain rfl | rfl | rfl | rfl | rfl | rfl : j = 0 ∨ j = 1 ∨ j = 2 ∨ j = 3 ∨ j = 4 ∨ j = 5 := by omega
      · exact h0
      · exact h1
      · exact h2
      · exact h3
      · exact h4
      · exact h7
    · rw [if_neg a1, if_neg (show ¬ j < 5 by omega), if_neg (show ¬ j = 5 by omega)]
      by_cases a2 : j < 15
      · rw [if_pos a2, if_pos a2, hl _ (by omega)]; congr 1; omega
      · rw [if_neg a2, if_neg a2]
        by_cases a3 : j < 24
        · rw [if_pos a3, if_pos a3, hg _ (by omega)]; congr 1; omega
        · rw [if_neg a3, if_neg a3]
          by_cases a4 : j < 28
          · rw [if_pos a4, if_pos a4, hb _ (by omega)]; congr 1; omega
          · rw [if_neg a4, if_neg a4, hw _ (by omega)]; congr 1; omega
  · rintro ⟨h, hG⟩
    have r1 : ∀ s, s < 12 → lo1 (28 + s) = 3 ∧ lo2 (28 + s) = s := by decide
    have r2 : ∀ s, s < 9 → lo1 (6 + s) = 4 ∧ lo2 (6 + s) = s := by decide
    have r3 : ∀ s, s < 9 → lo1 (15 + s) = 5 ∧ lo2 (15 + s) = s := by decide
    have r4 : ∀ s, s < 4 → lo1 (24 + s) = 6 ∧ lo2 (24 + s) = s := by decide
    refine ⟨⟨h 0 (by omega), h 1 (by omega), h 2 (by omega), h 3 (by omega), h 4 (by omega), h 5 (by omega)⟩, hG, fun s hs => ?_, fun s hs => ?_, fun s hs => ?_, fun s hs => ?_⟩
    · have := h (28 + s) (by omega)
      rw [(r1 s hs).1, (r1 s hs).2] at this
      exact this
    · have := h (6 + s) (by omega)
      rw [(r2 s hs).1, (r2 s hs).2] at this
      exact this
    · have := h (15 + s) (by omega)
      rw [(r3 s hs).1, (r3 s hs).2] at this
      exact this
    · have := h (24 + s) (by omega)
      rw [(r4 s hs).1, (r4 s hs).2] at this
      exact this
theorem cNet_up {q i : Nat} {x : Int32} {b : Nat → Int32} {M : sg_M} (h : cNet q b M) (h2 : 2 ≤ i) (hi : i < 40) : cNet q (ub b i x) (sg_uI M (q + lo1 i) (lo2 i) x) := by
  obtain ⟨g1, g2⟩ := cNet_iff.mp h
  have eC : gC (ub b i x) = gC b := by unfold gC; rw [ub_ne (by omega)]
  have eR : gR (ub b i x) = gR b := by unfold gR; rw [ub_ne (by omega)]
  obtain ⟨l1, l2, l3, l4⟩ := lo_b i hi
  refine cNet_iff.mpr ⟨fun j hj => ?_, ?_⟩
  · by_cases e : j = i
    · subst e; rw [uI_eq, ub_eq]
    · rw [uI_at, if_neg (fun z => e (lo_inj j hj i hi ⟨(by omega), z.2⟩)), ub_ne e, g1 j hj]
  · rw [eC, eR]
    obtain ⟨k5, k6, kA, kB⟩ := g2
    refine ⟨?_, ?_, fun s hs => ?_, fun s hs => ?_⟩
    · rw [uI_at, if_neg (fun z => by have := l4 (by omega); omega), k5]
    · rw [uI_at, if_neg (fun z => by have := l4 (by omega); omega), k6]
    · rw [uI_na (by omega), kA s hs]
    · rw [uI_na (by omega), kB s hs]
theorem cNet_s {q : Nat} {b : Nat → Int32} {M M1 : sg_M} (h : cNet q b M) (e : ∀ a k, q ≤ a → a < q + 7 → M1.1 a k = M.1 a k) : cNet q b M1 := cNet_c h (fun a k g1 g2 _ => e a k g1 g2)
def upG (i : Nat) (x : Int32) : Prop := (i = 4 → ¬ x ≤ 0) ∧ (15 ≤ i → i < 24 → ∃ n, n < 4 ∧ x = nI n) ∧ (24 ≤ i → ∃ n, n ≤ 999 ∧ x = nI n)
theorem vb_up {i : Nat} {x : Int32} {b : Nat → Int32} (h : vb b) (hi : i = 4 ∨ (15 ≤ i ∧ i < 28)) (hu : upG i x) : vb (ub b i x) := by
  have e : ∀ k, k ≠ i → ub b i x k = b k := fun k hk => ub_ne hk
  obtain ⟨eC, eR, eT, eE, eS, eM⟩ := sm_of (b := b) (d := ub b i x) (fun k hk => e k (by omega))
  have eW : ∀ v, gW (ub b i x) v = gW b v := fun v => by unfold gW; rw [e _ (by omega)]
  have eL : ∀ v, v < 9 → gL (ub b i x) v = gL b v := fun v hv => by unfold gL; rw [e _ (by omega)]
  obtain ⟨h1, ⟨h2, h3⟩, ⟨⟨h41, h5⟩, h6, h7⟩, h8, h9, h10, h11, h12, h13⟩ := h
  refine ⟨by rw [eC, eR]; exact h1, ⟨by rw [e 0 (by omega), eC]; exact h2, by rw [e 1 (by omega), eR]; exact h3⟩, ⟨⟨by rw [e 2 (by omega), eT]; exact h41, by rw [eT]; exact h5⟩, by rw [e 3 (by omega), eE]; exact h6, by rw [eE]; exact h7⟩, ?_, by rw [e 5 (by omega), eC, eR]; exact h9, fun s hs => ?_, fun v hv => ?_, fun v hv => ?_, fun g hg2 => ?_⟩
  · by_cases q : i = 4
    · subst q; rw [ub_eq]; exact hu.1 rfl
    · rw [e 4 (by omega)]; exact h8
  · rw [e _ (by omega), eW s, eS]; exact h10 s hs
  · rw [e _ (by omega), eL v hv, eM]; exact h11 v hv
  · by_cases q : 15 + v = i
    · obtain ⟨n, n1, n2⟩ := hu.2.1 (by omega) (by omega)
      unfold gG
      rw [q, ub_eq, n2, nI_clamp (by omega)]
      exact ⟨rfl, n1⟩
    · unfold gG
      rw [e _ q]; exact h12 v hv
  · by_cases q : 24 + g = i
    · obtain ⟨n, n1, n2⟩ := hu.2.2 (by omega)
      unfold gB
      rw [q, ub_eq, n2, nI_clamp (by omega)]
      exact ⟨rfl, n1⟩
    · unfold gB
      rw [e _ q]; exact h13 g hg2
section PL
variable {N sz : Nat} {yb : Nat → Nat}
def c3F (M M1 : sg_M) : Prop := (∀ a k, (a ≠ 1 ∨ k = 0 ∨ k = 3 ∨ k = 4 ∨ 12 ≤ k) → M1.1 a k = M.1 a k) ∧ M1.2 = M.2
theorem c3F_tr {M M1 M2 : sg_M} (h : c3F M M1) (h2 : c3F M1 M2) : c3F M M2 := ⟨fun a k q => (h2.1 a k q).trans (h.1 a k q), h2.2.trans h.2⟩
theorem c3F_2 {M M1 : sg_M} (h : c2F M M1) : c3F M M1 := ⟨fun a k q => h.1 a k (by omega), h.2⟩
theorem c3F_1 {M M1 : sg_M} (h : c1F M M1) : c3F M M1 := ⟨fun a k q => h.1 a k (by omega), h.2⟩
theorem c3F_u {M : sg_M} {k : Nat} {x : Int32} (hk : 9 ≤ k ∧ k < 12) : c3F M (sg_uI M 1 k x) := ⟨fun a j h => by rw [uI_at, if_neg (by omega)], rfl⟩
theorem r73_b {x : Int32} {M : sg_M} (hg : ¬ M.1 0 17 = 0) : ∃ z, gX11_readPlace_73 N 0 x M = some (z, M) := by
  unfold gX11_readPlace_73
  rw [yr_2, yl_2, if_pos (by decide), r_takB hg, e_b, e_m, if_pos (by decide)]
  exact ⟨_, rfl⟩
set_option maxHeartbeats 1000000 in
theorem s_place {p c r : Nat} {T : Int32} {Mc Mr : sg_M} (h : sim sz yb p Mc Mr) (hc0 : Mc.1 2 0 = nI c) (hc1 : Mc.1 2 1 = nI r) (hr0 : Mr.1 2 0 = nI c) (hr1 : Mr.1 2 1 = nI r) (hc : 1 ≤ c ∧ c ≤ 9) (hr : 1 ≤ r ∧ r ≤ 9) (hcr : c * r ≤ 9) (hN : 1000 ≤ N) :
    (∃ x y p2 Mc1 Mr1, fX6_needPlace N 1 Mc = some (1, Mc1) ∧ fX11_readPlace N 0 T Mr = some (nI (y * c + x), Mr1) ∧ sim sz yb p2 Mc1 Mr1 ∧ x < c ∧ y < r ∧ Mc1.1 1 9 = nI x ∧ Mc1.1 1 10 = nI y ∧ Mc1.1 1 11 = nI (y * c + x) ∧ bt T (y * c + x) = false ∧ c3F Mc Mc1 ∧ r1F Mr Mr1 ∧ p ≤ p2 ∧ Mc1.1 1 1 = Mc.1 1 1 ∧ Mc1.1 1 2 = Mc.1 1 2) ∨
    (∃ Mc1 z Mr1, fX6_needPlace N 1 Mc = some (0, Mc1) ∧ fX11_readPlace N 0 T Mr = some (z, Mr1) ∧ fl2 Mc1 Mr1 ∧ c3F Mc Mc1 ∧ r2F Mr Mr1) ∨
    (∃ x y Mc1 z Mr1, fX6_needPlace N 1 Mc = some (1, Mc1) ∧ fX11_readPlace N 0 T Mr = some (z, Mr1) ∧ Mr1.1 0 17 = 2 ∧ Mr1.1 0 18 = Mc1.1 1 6 ∧ x < c ∧ y < r ∧ Mc1.1 1 11 = nI (y * c + x) ∧ bt T (y * c + x) = true ∧ c3F Mc Mc1 ∧ r2F Mr Mr1) := by
  obtain ⟨M1, e1, s2, F1⟩ := s_step (N := N) h hN
  obtain ⟨g1, g2, g3, g4, g5, g6⟩ := id s2
  have b1 := be_b (yb := yb) g3
  have b2 := fi_b (yb := yb) g3
  unfold fX6_needPlace fX11_readPlace fX11_expects
  rw [e1, e_bv, c_word g1 g3 g4 (show 7 < 16 by omega) (by omega), e_b, r_word g2 g3 g5 g6 (show 7 < 16 by omega) (by omega), e_b, y1_3]
  by_cases q : wd sz yb 7 p = true
  case neg =>
    obtain ⟨Mc2, Mr2, x1, x2, x3, x4, x5⟩ := s_fail (N := N) (k := 1) s2 q1
    rw [if_neg q, if_pos q0, if_pos q0, x1, e_b, x2, e_bv, e_bv, yr_2, yl_2, if_pos (by decide), r_takB x3.2.2, e_b, e_m, r_bd x3.2.2, e_b, if_pos q0]
    obtain ⟨z, ez⟩ := r73_b (N := N) (x := 0) x3.2.2
    rw [ez]
    exact Or.inr (Or.inl ⟨Mc2, z, Mr2, rfl, rfl, x3, c3F_2 (c2F_tr (c2F_1 F1) x4), x5⟩)
  rw [if_pos q, if_neg q1, if_neg q1]
  obtain ⟨Mr2, x1, x2, x3⟩ := s_adv (N := N) s2 hN
  have f20 : M1.1 2 0 = nI c := by rw [F1.1 2 0 (by omega), hc0]
  have f21 : M1.1 2 1 = nI r := by rw [F1.1 2 1 (by omega), hc1]
  have k20 : Mr2.1 2 0 = nI c := by rw [x3.1 2 0 (by omega), hr0]
  have k21 : Mr2.1 2 1 = nI r := by rw [x3.1 2 1 (by omega), hr1]
  rw [x1, e_bv, e_bv, f20, nI_dec (by omega), yr_2, yl_2, if_pos (by decide), c_0, k20, nI_dec (by omega)]
  rcases s_num (N := N) (lo := 0) (hi := c - 1) x2 (by omega) (by omega) hN with ⟨x, p1, Mc3, Mr3, y1, y2, y3, y4, y5, y6, y7, -, -, y8, -⟩ | ⟨Mc3, Mr3, y1, y2, y3, y4, y5, -⟩
  case inr =>
    have y1 : fX6_needBounds N 1 0 (nI (c - 1)) M1 = some (0, Mc3) := y1
    have y2 : fX11_takes N 0 0 (nI (c - 1)) Mr2 = some (0, Mr3) := y2
    rw [y1, y2, e_b, e_b, if_pos q0, e_m, r_bd y3.2.2, e_b, if_pos q0]
    obtain ⟨z, ez⟩ := r73_b (N := N) (x := 0) y3.2.2
    rw [ez]
    exact Or.inr (Or.inl ⟨Mc3, z, Mr3, rfl, rfl, y3, c3F_2 (c2F_tr (c2F_1 F1) y4), r2F_tr (r2F_1 x3) y5⟩)
  have y1 : fX6_needBounds N 1 0 (nI (c - 1)) M1 = some (1, Mc3) := y1
  have y2 : fX11_takes N 0 0 (nI (c - 1)) Mr2 = some (nI x, Mr3) := y2
  rw [y1, y2, e_b, e_b, if_neg q1, y4, e_m, e_m]
  obtain ⟨w1, w2, w3, w4, w5, w6⟩ := id y3
  have b3 := be_b (yb := yb) b1.2.1
  have b4 := fi_b (yb := yb) b1.2.1
  have F4 : c3F Mc (sg_uI Mc3 1 9 (nI x)) := c3F_tr (c3F_1 (c1F_tr F1 y6)) (c3F_u (by omega))
  have s4 : sim sz yb p1 (sg_uI Mc3 1 9 (nI x)) Mr3 := sim_1 y3 (fun a k ha => by rw [uI_at, if_neg (by omega)]) (fun _ _ _ => rfl)
  have f31 : (sg_uI Mc3 1 9 (nI x)).1 2 1 = nI r := by rw [F4.1 2 1 (by omega), hc1]
  have l20 : Mr3.1 2 0 = nI c := by rw [y7.1 2 0 (by omega), k20]
  have l21 : Mr3.1 2 1 = nI r := by rw [y7.1 2 1 (by omega), k21]
  have kb := kn_b (sz := sz) (yb := yb) (p := p1)
  rw [f31, nI_dec (by omega), r_gd w6, e_b, if_neg q1, w5.2.2.1, c_1, l20, l21]
  have h73 : ∀ Mr4 : sg_M, r2F Mr3 Mr4 → Mr4.1 2 1 = nI r ∧ Mr4.1 2 0 = nI c := fun Mr4 F => ⟨by rw [F.1 2 1 (by omega), l21], by rw [F.1 2 0 (by omega), l20]⟩
  rcases s_num (N := N) (lo := 0) (hi := r - 1) s4 (by omega) (by omega) hN with ⟨y, p2, Mc5, Mr5, z1, z2, z3, z4, z5, z6, z7, z8, z9, z10, z11⟩ | ⟨Mc5, Mr5, z1, z2, z3, z4, z5, z6⟩
  case inr =>
    have z1 : fX6_needBounds N 1 0 (nI (r - 1)) (sg_uI Mc3 1 9 (nI x)) = some (0, Mc5) := z1
    have z2 : fX11_takes N 0 0 (nI (r - 1)) Mr3 = some (0, Mr5) := z2
    have r73 : gX11_readPlace_73 N 0 (nI x) Mr3 = some (nI c * 0 + nI x, Mr5) := by
      unfold gX11_readPlace_73
      rw [yr_2, yl_2, if_pos (by decide), c_1, l21, nI_dec (by omega), z2, e_b, e_m, if_pos (by decide), c_0, (h73 Mr5 z5).2]
    have outs : (if nI (min (kn sz yb p1) 4) = 2 then (if sg_ib (1 : Int32) 40 = true then (if nI r ≤ Mr3.1 0 16 then gX11_readPlace_73 N 0 (nI x) Mr3 else if sg_ib (0 : Int32) 40 = true then sg_b (fX11_isOf N T (nI c * Mr3.1 0 16 + nI x) Mr3) (fun (x11 : Int32) (M10 : sg_M) => if x11 = 0 then gX11_readPlace_73 N 0 (nI x) M10 else sg_bv (fX11_errs N 0 2 M10) (fun M12 : sg_M => gX11_readPlace_73 N 0 (nI x) M12)) else none) else none) else gX11_readPlace_73 N 0 (nI x) Mr3) = some (nI c * 0 + nI x, Mr5) := by
      by_cases k2 : kn sz yb p1 = 2
      · rw [if_pos (show nI (min (kn sz yb p1) 4) = 2 by rw [k2]; rfl), if_pos (by decide), w5.2.2.2 k2, if_pos (nI_le (by omega) (by omega)), r73]
      · rw [if_neg (show ¬ nI (min (kn sz yb p1) 4) = 2 from fun z => k2 (by have := (nI_eq (by omega) (show 2 < 2 ^ 31 by omega)).mp z; omega)), r73]
    rw [z1, e_b, if_pos q0]
    refine Or.inr (Or.inl ⟨Mc5, _, Mr5, rfl, outs, z3, c3F_tr F4 (c3F_2 z4), r2F_tr (r2F_1 (r1F_tr x3 y7)) z5⟩)
  have z1 : fX6_needBounds N 1 0 (nI (r - 1)) (sg_uI Mc3 1 9 (nI x)) = some (1, Mc5) := z1
  have z2 : fX11_takes N 0 0 (nI (r - 1)) Mr3 = some (nI y, Mr5) := z2
  have hv : y * c + x < c * r := by
    have h1 : (y + 1) * c ≤ r * c := Nat.mul_le_mul_right c (by omega)
    rw [Nat.add_mul, Nat.one_mul] at h1
    rw [Nat.mul_comm c r]
    omega
  have ev : nI c * nI y + nI x = nI (y * c + x) := by rw [nI_mul, nI_add, Nat.mul_comm c y]
  have ev2 : nI y * nI c + nI x = nI (y * c + x) := by rw [nI_mul, nI_add]
  rw [z1, e_b, if_neg q1, z4, e_m]
  have Fy : c3F Mc Mc5 := c3F_tr F4 (c3F_1 z6)
  have m20 : Mc5.1 2 0 = nI c := by rw [Fy.1 2 0 (by omega), hc0]
  have m9 : Mc5.1 1 9 = nI x := by rw [z6.1 1 9 (by omega), uI_eq]
  rw [uI_na (show 2 ≠ 1 by decide), m20, uI_eq, uI_nb (show 9 ≠ 10 by decide), m9, ev2, e_m]
  rw [if_pos (show nI (min (kn sz yb p1) 4) = 2 by rw [z8]; rfl), if_pos (by decide), w5.2.2.2 z8, Nat.min_eq_left (by omega), ← z9, if_neg (nI_ge (by omega) (by omega)), if_pos (by decide), ev, r_isOf (by omega), e_b]
  have Fz : c3F Mc (sg_uI (sg_uI Mc5 1 10 (nI y)) 1 11 (nI (y * c + x))) := c3F_tr Fy (c3F_tr (c3F_u (by omega)) (c3F_u (by omega)))
  have b5 := be_b (yb := yb) w3
  have b6 := fi_b (yb := yb) w3
  by_cases bz : bt T (y * c + x) = true
  · rw [if_pos bz, if_neg q1, r_errG w6, e_bv]
    have ng : ¬ (sg_uI (sg_uI Mr3 0 17 2) 0 18 (Mr3.1 0 14)).1 0 17 = 0 := by rw [uI_nb (by omega), uI_eq]; decide
    obtain ⟨z, ez⟩ := r73_b (N := N) (x := nI x) ng
    rw [ez]
    refine Or.inr (Or.inr ⟨x, y, _, z, _, rfl, rfl, by rw [uI_nb (by omega), uI_eq], ?_, (by omega), (by omega), uI_eq, bz, Fz, r2F_tr (r2F_1 (r1F_tr x3 y7)) (r2F_tr (r2F_u (by omega)) (r2F_u (by omega)))⟩)
    rw [uI_eq, uI_nb (by omega), uI_nb (by omega), z11, w5.1]
  · rw [if_neg bz, if_pos q0]
    have r73 : gX11_readPlace_73 N 0 (nI x) Mr3 = some (nI (y * c + x), Mr5) := by
      unfold gX11_readPlace_73
      rw [yr_2, yl_2, if_pos (by decide), c_1, l21, nI_dec (by omega), z2, e_b, e_m, if_pos (by decide), c_0, (h73 Mr5 (r2F_1 z7)).2, ev]
    rw [r73]
    refine Or.inl ⟨x, y, p2, _, Mr5, rfl, rfl, sim_1 z3 (fun a k ha => by rw [uI_at, if_neg (by omega), uI_at, if_neg (by omega)]) (fun _ _ _ => rfl), (by omega), (by omega), ?_, ?_, uI_eq, by simpa using bz, Fz, r1F_tr x3 (r1F_tr y7 z7), (by omega), ?_, ?_⟩
    · rw [uI_nb (by omega), uI_nb (by omega), m9]
    · rw [uI_nb (by omega), uI_eq]
    · rw [uI_nb (by omega), uI_nb (by omega), z6.1 1 1 (by omega), uI_nb (by omega), y6.1 1 1 (by omega), F1.1 1 1 (by omega)]
    · rw [uI_nb (by omega), uI_nb (by omega), z6.1 1 2 (by omega), uI_nb (by omega), y6.1 1 2 (by omega), F1.1 1 2 (by omega)]
end PL
