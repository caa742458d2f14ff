/-! the line of a strap -/
section ST
variable {N sz : Nat} {yb : Nat → Nat}
theorem nI_div9 : ∀ v, v < 9 → ∀ c, c < 10 → (c ≠ 0 → nI v / nI c = nI (v / c)) := by decide +kernel
theorem stp_e {c r x y : Nat} (hx : x + 1 < c) (hy : y < r) : (y * c + x, y * c + x + 1) ∈ stp c r := by
  unfold stp
  refine List.mem_flatMap.mpr ⟨y * c + x, List.mem_range.mpr (in_v (by omega) hy), ?_⟩
  rw [if_pos (show (y * c + x) % c + 1 < c by rw [Nat.mul_comm, Nat.mul_add_mod, Nat.mod_eq_of_lt (by omega)]; exact hx)]
  exact List.mem_append_left _ (List.mem_singleton.mpr rfl)
theorem stp_s {c r x y : Nat} (hx : x < c) (hy : y + 1 < r) : (y * c + x, y * c + x + c) ∈ stp c r := by
  unfold stp
  refine List.mem_flatMap.mpr ⟨y * c + x, List.mem_range.mpr (in_v hx (by omega)), ?_⟩
  rw [if_pos (show (y * c + x) / c + 1 < r by rw [Nat.mul_comm, Nat.mul_add_div (by omega), Nat.div_eq_of_lt hx]; exact hy)]
  exact List.mem_append_right _ (List.mem_singleton.mpr rfl)
theorem joins_of {f : Nat → Int32} {v u : Nat} (h : (v, u) ∈ stp (gC f) (gR f)) : ∃ s, s < gS f ∧ joins f v u = nI s := by
  obtain ⟨s, hs, e⟩ := List.getElem_of_mem h
  have ed : (stp (gC f) (gR f)).getD s (0, 0) = (v, u) := by rw [List.getD_eq_getElem?_getD, List.getElem?_eq_getElem hs, e]; rfl
  have hs : s < gS f := hs
  have hj : stJ f v u s = true := by
    unfold stJ bA bB sA sB
    rw [ed]
    exact decide_eq_true (Or.inl ⟨rfl, rfl⟩)
  obtain ⟨k1, k2, k3⟩ := fst1_s (stJ f v u) (gS f)
  have lt : fst1 (stJ f v u) (gS f) < gS f := by
    apply Classical.byContradiction
    intro n
    have := k3 s (by omega)
    rw [hj] at this
    cases this
  exact ⟨_, lt, by unfold joins; rw [if_pos lt]⟩
theorem nI_nm1 {s : Nat} (h : s < 100) : ¬ nI s = -1 := fun z => by
  have := congrArg Int32.toInt z
  rw [nI_toInt (by omega)] at this
  have e : (-1 : Int32).toInt = -1 := by decide
  rw [e] at this
  omega
theorem r142B {x y : Int32} {M : sg_M} (hg : ¬ M.1 0 17 = 0) (hN : 0 < N) : gX11_readStrap_142 N 0 x y M = some M := by
  unfold gX11_readStrap_142
  rw [r_tolB hg hN, e_b, e_m, r_bd hg, e_b, if_pos q0]
theorem r131B {x y : Int32} {M : sg_M} (hg : ¬ M.1 0 17 = 0) (hN : 0 < N) : gX11_readStrap_131 N 0 x y M = some M := by
  unfold gX11_readStrap_131
  rw [r_bd hg, e_b, if_pos q0, r142B hg hN]
theorem r112B {x y z : Int32} {M : sg_M} (hg : ¬ M.1 0 17 = 0) (hN : 0 < N) : gX11_readStrap_112 N 0 x y z M = some M := by
  unfold gX11_readStrap_112
  rw [e_m, r_bd hg, e_b, if_pos q0, r131B hg hN]
theorem r38B {x y : Int32} {M : sg_M} (hg : ¬ M.1 0 17 = 0) (h0 : ¬ M.1 2 0 = 0) (hN : 0 < N) : gX11_readStrap_38 N 0 x y M = some M := by
  unfold gX11_readStrap_38 gX11_readStrap_56
  have i0 : sg_ib (0 : Int32) 40 = true := by decide
  have i1 : sg_ib (1 : Int32) 40 = true := by decide
  rw [yr_2, yl_2, c_0, c_1]
  by_cases q : y = 0
  · rw [if_pos q, if_pos i0, e_m, if_pos q, if_pos i0, if_neg h0, if_pos i1, r112B hg hN, r112B hg hN]; split <;> rfl
  · rw [if_neg q, e_m, if_neg q, if_pos i0, if_neg h0, if_pos i0, r112B hg hN, r112B hg hN]; split <;> rfl
/-- at the edge -/
theorem st_edge {p : Nat} {x y : Int32} {Mc0 Mr0 Mc Mr : sg_M} {p0 : Nat} (h : sim2 sz yb p Mc Mr) (cF : c4F Mc0 Mc) (rF : r4F Mr0 Mr) (hN : 1000 ≤ N) : lo3 sz yb p0 Mc0 Mr0 (gX6_readStrap_133 N 1 (-1) Mc) (sg_bv (gX11_readStrap_112 N 0 x y 0 Mr) (fun M => gX11_readText_20 N 0 M)) := by
  obtain ⟨Mc2, Mr2, x1, x2, x3, x4, x5⟩ := s_fail (N := N) (k := 2) h (by decide)
  unfold gX6_readStrap_133 gX11_readStrap_112
  rw [e_m, if_pos rfl, x1, e_b, if_pos (by decide), e_m, r_gd h.2.2.2.2.2, e_b, if_neg q1, if_pos q0, x2, e_bv, r131B x3.2.2 (by omega), e_bv]
  exact lo3_f x3 (c4F_tr cF (c4F_2 x4)) (r4F_tr rF (r4F_2 x5))
theorem K2 : sg_K Yc 2 4 := ⟨by decide, by decide⟩
/-- within -/
theorem st_in {p v u : Nat} {Mc0 Mr0 Mc Mr : sg_M} {p0 : Nat} (h : sim2 sz yb p Mc Mr) (hp : p0 ≤ p) (hd : drf (Mr0.1 2) Mc Mr) (m2 : Mr.1 2 = Mr0.1 2) (cF : c4F Mc0 Mc) (rF : r4F Mr0 Mr) (e1 : Mc.1 1 1 = Mc0.1 1 1 ∧ Mc.1 1 2 = Mc0.1 1 2 ∧ Mr.1 0 18 = Mr0.1 0 18) (hv : v < 9) (hu : u < 9) (hj : (v, u) ∈ stp (gC (Mr0.1 2)) (gR (Mr0.1 2))) (hN : 1000 ≤ N) : lo3 sz yb p0 Mc0 Mr0 (gX6_readStrap_126 N 1 2 (nI v) (nI u) Mc) (sg_bv (gX11_readStrap_112 N 0 (nI v) (nI u) 1 Mr) (fun M => gX11_readText_20 N 0 M)) := by
  obtain ⟨s, hs, ej⟩ := joins_of hj
  have hn := vb_n hd.1
  have y211 : Yc.2.2.2 2 11 = 5 := by decide
  have yn5 : Yc.2.2.1 5 = 12 := by decide
  unfold gX6_readStrap_126 gX11_readStrap_112
  rw [c_joins hd.1 K2 hd.2.1.2.1 hv hu (by omega), ej, e_b, e_m, r_gd h.2.2.2.2.2, e_b, if_neg q1, if_neg q1]
  unfold gX6_readStrap_133 gX11_readStrap_131
  obtain ⟨Mr2, x1, x2, x3⟩ := s_adv (N := N) h hN
  have k1 := be_b (yb := yb) h.2.2.1
  have k2 := fi_b (yb := yb) h.2.2.1
  rw [e_m, if_neg (nI_nm1 (s := s) (by omega)), r_gd h.2.2.2.2.2, e_b, if_neg q1, x1, e_bv, y1_3, y211, yn5]
  unfold gX11_readStrap_142
  rcases s_told (N := N) (w := 3) (lo := 0) (hi := 4) x2 (by omega) (by omega) (by omega) hN with ⟨a, p3, Mc2, Mr3, b1, b2, b3, b4, b5, b6, b7, b8⟩ | ⟨Mc2, Mr3, b1, b2, b3, b4, b5⟩
  case inr =>
    have b1 : fX6_needNumber N 1 3 0 4 Mc = some (0, Mc2) := b1
    have b2 : fX11_told N 0 3 0 4 Mr2 = some (0, Mr3) := b2
    rw [b1, b2, e_b, if_pos q0, e_b, e_m, r_bd b3.2.2, e_b, if_pos q0, e_bv]
    exact lo3_f b3 (c4F_tr cF (c4F_2 b4)) (r4F_tr rF (r4F_2 (r2F_tr (r2F_1 x3) b5)))
  have b1 : fX6_needNumber N 1 3 0 4 Mc = some (1, Mc2) := b1
  have b2 : fX11_told N 0 3 0 4 Mr2 = some (nI a, Mr3) := b2
  have Fr : r1F Mr Mr3 := r1F_tr x3 b7
  have d2 : drf (Mr0.1 2) Mc2 Mr3 := drf_c hd (fun i k hi => b6.1 i k (by omega)) (fun i k hi => Fr.1 i k (by omega))
  rw [b1, b2, e_b, if_neg q1, if_pos (show sg_ib (nI s) 12 = true from (ib_nI (by omega) (by omega))), nI_clamp (show s < 2 ^ 31 by omega), b4, e_m, e_b, e_m, r_gd b3.2.2.2.2.2, e_b, if_neg q1, r_joins d2.1 d2.2.2.2.1 hv hu (by omega), ej, e_b, yr_2, yl_2, k_28, if_pos (show sg_ib (nI (28 + s)) 40 = true from (ib_nI (by omega) (by omega))), nI_clamp (show 28 + s < 2 ^ 31 by omega), e_m, e_bv]
  have m3 : Mr3.1 2 = Mr0.1 2 := by rw [← m2]; exact funext fun k => Fr.1 2 k (by omega)
  have lk : lo1 (28 + s) = 3 ∧ lo2 (28 + s) = s := (show ∀ s, s < 12 → lo1 (28 + s) = 3 ∧ lo2 (28 + s) = s by decide) s (by omega)
  have n1 := cNet_up (i := 28 + s) (x := nI a) d2.2.1 (by omega) (by omega)
  rw [lk.1, lk.2] at n1
  have eL : ∀ u, u < 9 → gL (ub (Mr0.1 2) (28 + s) (nI a)) u = gL (Mr0.1 2) u := fun u hu => by unfold gL; rw [ub_ne (by omega)]
  refine s_end (p := p3) (f := Mr0.1 2) (g := ub (Mr0.1 2) (28 + s) (nI a)) (sim_1 b3 (fun i j ha => by rw [uI_na (by omega)]) (fun i k ha => by rw [uI_na (by omega)])) (by omega) ⟨(vb_wB hd.1 hs b5.2).1, n1, ?_, ?_, ?_, fun u hu => ?_, fun u hu z => ?_⟩ (ub_ne (by omega)) ?_ (c4F_tr cF (c4F_tr (c4F_1 b6) (c4F_u (by omega)))) (r4F_tr rF (r4F_tr (r4F_1 Fr) (r4F_u (by omega)))) ⟨?_, ?_, ?_⟩ hN
  · rw [uI_na (by omega)]; exact d2.2.2.1
  · have e0 : gC (ub (Mr0.1 2) (28 + s) (nI a)) = gC (Mr0.1 2) := by unfold gC; rw [ub_ne (by omega)]
    have e2 : gR (ub (Mr0.1 2) (28 + s) (nI a)) = gR (Mr0.1 2) := by unfold gR; rw [ub_ne (by omega)]
    rw [e0, e2]
    exact ⟨by rw [uI_na (by omega)]; exact d2.2.2.2.1.1, fun s hs => by rw [uI_na (by omega), uI_na (by omega)]; exact d2.2.2.2.1.2 s hs⟩
  · rw [uI_na (by omega), uI_na (by omega)]; exact d2.2.2.2.2.1
  · rw [uI_na (by omega), eL u hu]; exact d2.2.2.2.2.2.1 u hu
  · rw [eL u hu] at z; rw [ub_ne (by omega)]; exact d2.2.2.2.2.2.2 u hu z
  · funext j
    rw [uI_at, m3]
    unfold ub
    by_cases e : j = 28 + s
    · rw [if_pos ⟨rfl, e⟩, if_pos e]
    · rw [if_neg (fun z => e z.2), if_neg e]
  · rw [uI_na (by omega), b6.1 1 1 (by omega), e1.1]
  · rw [uI_na (by omega), b6.1 1 2 (by omega), e1.2.1]
  · rw [uI_na (by omega), Fr.1 0 18 (by omega), e1.2.2]
theorem l_strap {p : Nat} {Mc Mr : sg_M} (h : sim sz yb p Mc Mr) (hd : drf (Mr.1 2) Mc Mr) (hN : 1000 ≤ N) : lo3 sz yb p Mc Mr (fX6_readStrap N 1 Mc) (sg_bv (fX11_readStrap N 0 Mr) (fun M => gX11_readText_20 N 0 M)) := by
  obtain ⟨hc, hr, hcr⟩ := vb_cr hd.1
  obtain ⟨d0, d1, d2, d3⟩ := drf_01 hd
  have n0 : ∀ M : sg_M, r2F Mr M → ¬ M.1 2 0 = 0 := fun M F => by
    rw [F.1 2 0 (by omega), d2]
    exact fun z => by have := (nI_eq (by omega) (show 0 < 2 ^ 31 by omega)).mp z; omega
  unfold fX6_readStrap fX11_readStrap
  rcases s_place (N := N) (T := 0) h d0 d1 d2 d3 hc hr hcr hN with ⟨x, y, p2, Mc1, Mr1, a1, a2, a3, a4, a5, a6, a7, a8, a9, a10, a11, a12, a13, a14⟩ | ⟨Mc1, z, Mr1, a1, a2, a3, a4, a5⟩ | ⟨x, y, Mc1, z, Mr1, a1, a2, a3, a4, a5, a6, a7, a8, a9, a10⟩
  · have hv := in_v a4 a5
    obtain ⟨Mc3, f1, f2, f3⟩ := s_step (N := N) a3 hN
    obtain ⟨g1, g2, g3, g4, g5, g6⟩ := id f2
    have Fc : c4F Mc Mc3 := c4F_tr (c4F_3 a10) (c4F_1 f3)
    have Fr : r4F Mr Mr1 := r4F_1 a11
    rw [a1, e_b, if_neg q1, a2, e_b, f1, e_bv, c_word g1 g3 g4 (show 8 < 16 by omega) (by omega), e_b, e_m, e_m, r_word g2 g3 g5 g6 (show 8 < 16 by omega) (by omega), e_b, e_m, r_gd g6, e_b, if_neg q1, c_word g1 g3 g4 (show 9 < 16 by omega) (by omega), e_b, r_word g2 g3 g5 g6 (show 9 < 16 by omega) (by omega), e_b]
    have dd : drf (Mr.1 2) Mc3 Mr1 := drf_c hd (fun i k hi => by rw [f3.1 i k (by omega), a10.1 i k (by omega)]) (fun i k hi => a11.1 i k (by omega))
    have m2 : Mr1.1 2 = Mr.1 2 := funext fun k => a11.1 2 k (by omega)
    have e1 : Mc3.1 1 1 = Mc.1 1 1 ∧ Mc3.1 1 2 = Mc.1 1 2 ∧ Mr1.1 0 18 = Mr.1 0 18 := ⟨by rw [f3.1 1 1 (by omega), a13], by rw [f3.1 1 2 (by omega), a14], a11.1 0 18 (by omega)⟩
    have c9 : Mc3.1 1 9 = nI x := by rw [f3.1 1 9 (by omega), a6]
    have c10 : Mc3.1 1 10 = nI y := by rw [f3.1 1 10 (by omega), a7]
    have c11 : Mc3.1 1 11 = nI (y * gC (Mr.1 2) + x) := by rw [f3.1 1 11 (by omega), a8]
    have c20 : Mc3.1 2 0 = nI (gC (Mr.1 2)) := by rw [f3.1 2 0 (by omega), a10.1 2 0 (by omega), d0]
    have c21 : Mc3.1 2 1 = nI (gR (Mr.1 2)) := by rw [f3.1 2 1 (by omega), a10.1 2 1 (by omega), d1]
    have r20 : Mr1.1 2 0 = nI (gC (Mr.1 2)) := by rw [m2, d2]
    have r21 : Mr1.1 2 1 = nI (gR (Mr.1 2)) := by rw [m2, d3]
    have nz : ¬ nI (gC (Mr.1 2)) = 0 := fun z => by have := (nI_eq (by omega) (show 0 < 2 ^ 31 by omega)).mp z; omega
    have ey : (y * gC (Mr.1 2) + x) / gC (Mr.1 2) = y := by rw [Nat.mul_comm, Nat.mul_add_div (by omega), Nat.div_eq_of_lt a4]; rfl
    have dv : nI (y * gC (Mr.1 2) + x) / nI (gC (Mr.1 2)) = nI y := by rw [nI_div9 _ (by omega) _ (by omega) (by omega), ey]
    have i0 : sg_ib (0 : Int32) 40 = true := by decide
    have i1 : sg_ib (1 : Int32) 40 = true := by decide
    by_cases q8 : wd sz yb 8 p2 = true
    · rw [if_pos q8, if_neg q1, if_neg q1]
      unfold gX6_readStrap_39 gX11_readStrap_38
      rw [if_neg q1, if_neg q1, y1_3, c20, c9, nI_1]
      unfold gX11_readStrap_56
      rw [e_m, if_neg q1, yr_2, yl_2, if_pos i0, c_0, r20, if_neg nz, if_pos i0, dv, nI_mul, nI_sub (by omega), nI_dec (by omega), show y * gC (Mr.1 2) + x - y * gC (Mr.1 2) = x by omega]
      by_cases ed : x + 1 < gC (Mr.1 2)
      · rw [if_neg (nI_ge ed (by omega)), if_neg (nI_ge (by omega) (by omega))]
        unfold gX6_readStrap_88
        rw [e_m, if_neg q1, if_neg q1, y1_3, c11, nI_1]
        have := in_v ed a5
        exact st_in f2 a12 dd m2 Fc Fr e1 (by omega) (by omega) (stp_e ed a5) hN
      · rw [if_pos (nI_le (by omega) (by omega)), if_pos (nI_le (by omega) (by omega))]
        unfold gX6_readStrap_88
        rw [e_m, if_pos q0]
        exact st_edge f2 Fc Fr hN
    rw [if_neg q8, if_pos q0, if_pos q0]
    by_cases q9 : wd sz yb 9 p2 = true
    · rw [if_pos q9, if_neg q1, if_neg q1]
      unfold gX6_readStrap_39 gX11_readStrap_38
      rw [if_pos q0, if_pos q0, y1_3, c21, c10, nI_1]
      unfold gX11_readStrap_56
      rw [yr_2, yl_2, if_pos i0, c_0, r20, e_m, if_pos q0, if_pos i0, if_neg nz, if_pos i1, c_1, r21, dv, nI_dec (by omega)]
      by_cases ed : y + 1 < gR (Mr.1 2)
      · rw [if_neg (nI_ge ed (by omega)), if_neg (nI_ge (by omega) (by omega))]
        unfold gX6_readStrap_88
        rw [e_m, if_neg q1, if_pos q0, y1_3, c11, c20, nI_add]
        have hw := in_v a4 ed
        rw [Nat.add_mul, Nat.one_mul] at hw
        exact st_in f2 a12 dd m2 Fc Fr e1 (by omega) (by omega) (stp_s a4 ed) hN
      · rw [if_pos (nI_le (by omega) (by omega)), if_pos (nI_le (by omega) (by omega))]
        unfold gX6_readStrap_88
        rw [e_m, if_pos q0]
        exact st_edge f2 Fc Fr hN
    obtain ⟨Mc4, Mr4, x1, x2, x3, x4, x5⟩ := s_fail (N := N) (k := 1) f2 q1
    rw [if_neg q9, if_pos q0, if_pos q0, x1, e_b, if_pos (by decide), x2, e_bv, r38B x3.2.2 (n0 _ (r2F_tr (r2F_1 a11) x5)) (by omega), e_bv]
    exact lo3_f x3 (c4F_tr Fc (c4F_2 x4)) (r4F_tr Fr (r4F_2 x5))
  · rw [a1, e_b, if_pos q0, a2, e_b, e_m, r_wordB a3.2.2 (by omega), e_b, e_m, r_bd a3.2.2, e_b, if_pos q0, r38B a3.2.2 (n0 _ a5) (by omega), e_bv]
    exact lo3_f a3 (c4F_3 a4) (r4F_2 a5)
  · rw [b_0] at a8
    cases a8
end ST
