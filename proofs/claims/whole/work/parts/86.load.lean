/-! the line of a load -/
section LO
variable {N sz : Nat} {yb : Nat → Nat}
theorem sim2_r {p : Nat} {Mc Mr Mr1 : sg_M} (h : sim2 sz yb p Mc Mr) (r : ∀ a k, (a = 7 ∨ (a = 0 ∧ 12 ≤ k ∧ k < 18)) → Mr1.1 a k = Mr.1 a k) : sim2 sz yb p Mc Mr1 := by
  obtain ⟨h1, h2, h3, h4, h5, h6⟩ := h
  obtain ⟨t1, t2, t3, t4⟩ := h5
  exact ⟨h1, rTx_c h2 (fun a k ha => r a k (by omega)), h3, h4, ⟨by rw [r 0 14 (by omega), t1], by rw [r 0 13 (by omega), t2], by rw [r 0 15 (by omega), t3], fun z => by rw [r 0 16 (by omega), t4 z]⟩, by rw [r 0 17 (by omega), h6]⟩
theorem s_end2 {p : Nat} {g : Nat → Int32} {Mc0 Mr0 Mc Mr : sg_M} {p0 : Nat} (h : sim2 sz yb p Mc Mr) (hp : p0 ≤ p) (hd : drf g Mc Mr) (hg : g 4 = Mr0.1 2 4) (w2 : Mr.1 2 = g) (cF : c4F Mc0 Mc) (rF : r4F Mr0 Mr) (e1 : Mc.1 1 1 = Mc0.1 1 1 ∧ Mc.1 1 2 = Mc0.1 1 2 ∧ Mr.1 0 18 = Mr0.1 0 18) (hN : 1000 ≤ N) : lo3 sz yb p0 Mc0 Mr0 (gX6_readLoad_104 N 1 Mc) (gX11_readText_20 N 0 Mr) := by
  obtain ⟨g1, g2, g3, g4, g5, g6⟩ := id h
  have kb := kn_b (sz := sz) (yb := yb) (p := p)
  unfold gX6_readLoad_104
  rw [g4.2.2.1]
  rcases s_sign2 (N := N) h hN with ⟨Mr2, k3, y1, y2, y3, y4, y5, y6, y7⟩ | ⟨Mc2, Mr2, k3, y1, y2, y3, y4, y5⟩
  · rw [if_pos (show nI (kn sz yb p) = 3 by rw [k3]; rfl), y1]
    unfold gX6_readLoad_120
    exact Or.inl ⟨be sz yb p, g, Mc, Mr2, rfl, rfl, y2, (by omega), drf_c hd (fun _ _ _ => rfl) y6, hg, by rw [y4, w2], cF, r4F_tr rF y5, e1.1, e1.2.1, by rw [y7, e1.2.2]⟩
  · rw [if_neg (show ¬ nI (kn sz yb p) = 3 from fun z => k3 ((nI_eq (by omega) (show 3 < 2 ^ 31 by omega)).mp z)), y1, y2, e_b, if_pos q0]
    exact Or.inr ⟨Mc2, Mr2, rfl, rfl, y3, c4F_tr cF (c4F_2 y4), r4F_tr rF y5⟩
def lg (f : Nat → Int32) (v a e : Nat) : Nat → Int32 := ub (ub f (6 + v) (nI a)) (15 + v) (nI e)
theorem lg_vb {f : Nat → Int32} {v a e : Nat} (h : vb f) (hv : v < gM f) (ha : a ≤ 99) (he : e < 4) : vb (lg f v a e) ∧ ∀ u, u < 9 → gL (lg f v a e) u = if u = v then a else gL f u := by
  have hm := vb_m h
  obtain ⟨k1, k2⟩ := vb_loa (d := ub f (6 + v) (nI a)) (x := fun u => if u = v then a else gL f u) h (fun i hi => ub_ne (by omega)) (fun u hu => by
    by_cases q : u = v
    · subst q; rw [ub_eq, if_pos rfl]; exact ⟨rfl, ha, fun z => by omega⟩
    · rw [ub_ne (by omega), if_neg q]; exact ⟨vb_l h hu, vb_l99 h hu, vb_l0 h hu⟩)
  refine ⟨vb_up k1 (by omega) ⟨fun z => by omega, fun _ _ => ⟨e, he, rfl⟩, fun z => by omega⟩, fun u hu => ?_⟩
  rw [← k2 u hu]
  unfold lg gL
  rw [ub_ne (by omega)]
theorem drf_ld {f : Nat → Int32} {v a e : Nat} {Mc Mr Mc1 Mr1 : sg_M} (h : drf f Mc Mr) (hv : v < gM f) (ha : 1 ≤ a ∧ a ≤ 99) (he : e < 4) (c6 : Mc1.1 6 v = nI a) (c7 : Mc1.1 7 v = nI e) (c : ∀ a k, ((2 ≤ a ∧ a < 9) ∨ (a = 1 ∧ k = 12)) → ¬ (a = 6 ∧ k = v) → ¬ (a = 7 ∧ k = v) → Mc1.1 a k = Mc.1 a k) (r : ∀ a k, (a = 6 ∨ (a = 0 ∧ (k = 8 ∨ k = 19))) → Mr1.1 a k = Mr.1 a k) (r20 : Mr1.1 0 20 = Mr.1 0 20 ||| bi v) : drf (lg f v a e) Mc1 Mr1 := by
  have hm := vb_m h.1
  obtain ⟨k1, k2⟩ := lg_vb (a := a) (e := e) h.1 hv ha.2 he
  have l1 : lo1 (6 + v) = 4 ∧ lo2 (6 + v) = v := (show ∀ s, s < 9 → lo1 (6 + s) = 4 ∧ lo2 (6 + s) = s by decide) v (by omega)
  have l2 : lo1 (15 + v) = 5 ∧ lo2 (15 + v) = v := (show ∀ s, s < 9 → lo1 (15 + s) = 5 ∧ lo2 (15 + s) = s by decide) v (by omega)
  have n1 := cNet_up (i := 15 + v) (x := nI e) (cNet_up (i := 6 + v) (x := nI a) h.2.1 (by omega) (by omega)) (by omega) (by omega)
  rw [l1.1, l1.2, l2.1, l2.2] at n1
  have e0 : gC (lg f v a e) = gC f := by unfold gC lg; rw [ub_ne (by omega), ub_ne (by omega)]
  have e2 : gR (lg f v a e) = gR f := by unfold gR lg; rw [ub_ne (by omega), ub_ne (by omega)]
  refine ⟨k1, cNet_s n1 (fun i k g1 g2 => ?_), ?_, ?_, ?_, fun u hu => ?_, fun u hu z => ?_⟩
  · by_cases q : i = 7 ∧ k = v
    · obtain ⟨rfl, rfl⟩ := q; rw [c7]; exact uI_eq.symm
    · by_cases q2 : i = 6 ∧ k = v
      · obtain ⟨rfl, rfl⟩ := q2; rw [c6, uI_at, if_neg (by omega)]; exact uI_eq.symm
      · rw [uI_at, if_neg (show ¬ (i = 2 + 5 ∧ k = v) by omega), uI_at, if_neg (show ¬ (i = 2 + 4 ∧ k = v) by omega)]
        exact c i k (by omega) q2 q
  · rw [c 2 8 (by omega) (by omega) (by omega)]; exact h.2.2.1
  · rw [e0, e2]
    exact ⟨by rw [r 0 8 (by omega)]; exact h.2.2.2.1.1, fun s hs => by rw [r 6 _ (by omega), r 6 _ (by omega)]; exact h.2.2.2.1.2 s hs⟩
  · rw [c 1 12 (by omega) (by omega) (by omega), r 0 19 (by omega)]; exact h.2.2.2.2.1
  · rw [r20, b_or, bt_bi (by omega) (by omega), h.2.2.2.2.2.1 u hu, k2 u hu]
    by_cases q : u = v
    · rw [if_pos q, decide_eq_true (show 0 < a by omega), decide_eq_true q, Bool.or_true]
    · rw [if_neg q, decide_eq_false q, Bool.or_false]
  · rw [k2 u hu] at z
    have nu : u ≠ v := fun q => by rw [if_pos q] at z; omega
    rw [if_neg nu] at z
    unfold lg
    rw [ub_ne (by omega), ub_ne (by omega)]
    exact h.2.2.2.2.2.2 u hu z
theorem r41B {x y z : Int32} {M : sg_M} (hg : ¬ M.1 0 17 = 0) : gX11_readLoad_41 N 0 x y z M = some M := by
  unfold gX11_readLoad_41
  rw [r_bd hg, e_b, if_pos q0]
theorem r41G {v a e : Nat} {M : sg_M} (hg : M.1 0 17 = 0) (hv : v < 9) : gX11_readLoad_41 N 0 (nI v) (nI a) (nI e) M = some (sg_uI (sg_uI (sg_uI M 2 (6 + v) (nI a)) 2 (15 + v) (nI e)) 0 20 (M.1 0 20 ||| bi v)) := by
  unfold gX11_readLoad_41
  rw [r_gd hg, e_b, if_neg q1, yr_2, yl_2, k_6, k_15, if_pos (show sg_ib (nI (6 + v)) 40 = true from (ib_nI (by omega) (by omega))), nI_clamp (show 6 + v < 2 ^ 31 by omega), e_m, if_pos (show sg_ib (nI (15 + v)) 40 = true from (ib_nI (by omega) (by omega))), nI_clamp (show 15 + v < 2 ^ 31 by omega), e_m, e_m, uI_na (show 0 ≠ 2 by decide), uI_na (show 0 ≠ 2 by decide)]
  rfl
def rLd (N : Nat) (x8 : Int32) (M6 : sg_M) : Option sg_M := sg_b (fX11_told N 0 12 (1 : Int32) (99 : Int32) M6) (fun (x10 : Int32) (M9 : sg_M) => sg_m x10 (fun x11 : Int32 => sg_m (0 : Int32) (fun x12 : Int32 => sg_b (fX11_is N 0 13 M9) (fun (x14 : Int32) (M13 : sg_M) => if x14 = 0 then gX11_readLoad_41 N 0 x8 x11 x12 M13 else sg_bv (fX11_advance N 0 M13) (fun M15 : sg_M => sg_b (fX11_takes N 0 (1 : Int32) (3 : Int32) M15) (fun (x17 : Int32) (M16 : sg_M) => sg_m x17 (fun x18 : Int32 => gX11_readLoad_41 N 0 x8 x11 x18 M16)))))))
theorem rLd_b {x : Int32} {M : sg_M} (hg : ¬ M.1 0 17 = 0) (hN : 0 < N) : rLd N x M = some M := by
  unfold rLd
  rw [r_tolB hg hN, e_b, e_m, e_m, r_wordB hg hN, e_b, if_pos q0, r41B hg]
/-- the block behind the writes -/
theorem lg_w {f : Nat → Int32} {v a e : Nat} {x : Int32} {M : sg_M} (h : M.1 2 = f) : (sg_uI (sg_uI (sg_uI M 2 (6 + v) (nI a)) 2 (15 + v) (nI e)) 0 20 x).1 2 = lg f v a e := by
  funext k
  rw [uI_na (by omega), uI_at, uI_at, h]
  unfold lg ub
  by_cases q : k = 15 + v
  · rw [if_pos ⟨rfl, q⟩, if_pos q]
  · rw [if_neg (fun z => q z.2), if_neg q]
    by_cases q2 : k = 6 + v
    · rw [if_pos ⟨rfl, q2⟩, if_pos q2]
    · rw [if_neg (fun z => q2 z.2), if_neg q2]
theorem lg_r4 {v a e : Nat} {x : Int32} {M : sg_M} : r4F M (sg_uI (sg_uI (sg_uI M 2 (6 + v) (nI a)) 2 (15 + v) (nI e)) 0 20 x) := r4F_tr (r4F_u (by omega)) (r4F_tr (r4F_u (by omega)) (r4F_u (by omega)))
theorem l_load {p : Nat} {Mc Mr : sg_M} (h : sim sz yb p Mc Mr) (hd : drf (Mr.1 2) Mc Mr) (hN : 1000 ≤ N) : lo3 sz yb p Mc Mr (fX6_readLoad N 1 Mc) (sg_bv (fX11_readLoad N 0 Mr) (fun M => gX11_readText_20 N 0 M)) := by
  obtain ⟨hc, hr, hcr⟩ := vb_cr hd.1
  obtain ⟨d0, d1, d2, d3⟩ := drf_01 hd
  have y212 : Yc.2.2.2 2 12 = 6 := by decide
  have y213 : Yc.2.2.2 2 13 = 7 := by decide
  have yn6 : Yc.2.2.1 6 = 9 := by decide
  have yn7 : Yc.2.2.1 7 = 9 := by decide
  have er : fX11_readLoad N 0 Mr = sg_b (fX11_readPlace N 0 (Mr.1 0 20) Mr) (fun (x7 : Int32) (M6 : sg_M) => sg_m x7 (fun x8 : Int32 => rLd N x8 M6)) := rfl
  unfold fX6_readLoad
  rw [er, y1_3, y212, y213, yn6, yn7]
  have mc : ∀ v, v < 9 → Mc.1 6 v = nI (gL (Mr.1 2) v) := fun v hv => by rw [← vb_l hd.1 hv]; exact hd.2.1.2.2.2.1 v hv
  rcases s_place (N := N) (T := Mr.1 0 20) h d0 d1 d2 d3 hc hr hcr hN with ⟨x, y, p2, Mc1, Mr1, a1, a2, a3, a4, a5, a6, a7, a8, a9, a10, a11, a12, a13, a14⟩ | ⟨Mc1, z, Mr1, a1, a2, a3, a4, a5⟩ | ⟨x, y, Mc1, z, Mr1, a1, a2, a3, a4, a5, a6, a7, a8, a9, a10⟩
  · have hv := in_v a4 a5
    generalize hvv : y * gC (Mr.1 2) + x = v at *
    have v9 : v < 9 := (by omega)
    have l0 : gL (Mr.1 2) v = 0 := by
      have := hd.2.2.2.2.2.1 v v9
      rw [a9] at this
      have := of_decide_eq_false this.symm
      omega
    have c6 : Mc1.1 6 v = 0 := by rw [a10.1 6 v (by omega), mc v v9, l0]; rfl
    rw [a1, e_b, if_neg q1, a2, e_b, e_m, a8, if_pos (show sg_ib (nI v) 9 = true from (ib_nI (by omega) (by omega))), nI_clamp (show v < 2 ^ 31 by omega), c6, if_pos (by decide)]
    unfold rLd
    rcases s_told (N := N) (w := 12) (lo := 1) (hi := 99) a3 (by omega) (by omega) (by omega) hN with ⟨a, p3, Mc2, Mr2, b1, b2, b3, b4, b5, b6, b7, b8⟩ | ⟨Mc2, Mr2, b1, b2, b3, b4, b5⟩
    case inr =>
      have b1 : fX6_needNumber N 1 12 1 99 Mc1 = some (0, Mc2) := b1
      have b2 : fX11_told N 0 12 1 99 Mr1 = some (0, Mr2) := b2
      rw [b1, b2, e_b, if_pos q0, e_b, e_m, e_m, r_wordB b3.2.2 (by omega), e_b, if_pos q0, r41B b3.2.2, e_bv]
      exact lo3_f b3 (c4F_tr (c4F_3 a10) (c4F_2 b4)) (r4F_2 (r2F_tr (r2F_1 a11) b5))
    have b1 : fX6_needNumber N 1 12 1 99 Mc1 = some (1, Mc2) := b1
    have b2 : fX11_told N 0 12 1 99 Mr1 = some (nI a, Mr2) := b2
    have m11 : Mc2.1 1 11 = nI v := by rw [b6.1 1 11 (by omega), a8]
    rw [b1, b2, e_b, if_neg q1, e_b, e_m, e_m, m11, if_pos (show sg_ib (nI v) 9 = true from (ib_nI (by omega) (by omega))), nI_clamp (show v < 2 ^ 31 by omega), b4, e_m]
    have s3 : sim sz yb p3 (sg_uI Mc2 6 v (nI a)) Mr2 := sim_1 b3 (fun a j ha => by rw [uI_na (by omega)]) (fun _ _ _ => rfl)
    obtain ⟨Mc3, f1, f2, f3⟩ := s_step (N := N) s3 hN
    obtain ⟨g1, g2, g3, g4, g5, g6⟩ := id f2
    rw [f1, e_bv, c_word g1 g3 g4 (show 13 < 16 by omega) (by omega), e_b, r_word g2 g3 g5 g6 (show 13 < 16 by omega) (by omega), e_b]
    have Fc : c4F Mc Mc3 := c4F_tr (c4F_3 a10) (c4F_tr (c4F_1 b6) (c4F_tr (c4F_u (by omega)) (c4F_1 f3)))
    have Fr : r1F Mr Mr2 := r1F_tr a11 b7
    have cc : ∀ i k, ((2 ≤ i ∧ i < 9) ∨ (i = 1 ∧ k = 12)) → ¬ (i = 6 ∧ k = v) → Mc3.1 i k = Mc.1 i k := fun i k q1 q2 => by rw [f3.1 i k (by omega), uI_at, if_neg q2, b6.1 i k (by omega), a10.1 i k (by omega)]
    have cv : Mc3.1 6 v = nI a := by rw [f3.1 6 v (by omega), uI_eq]
    have w11 : Mc3.1 1 1 = Mc.1 1 1 := by rw [f3.1 1 1 (by omega), uI_na (by omega), b6.1 1 1 (by omega), a13]
    have w12 : Mc3.1 1 2 = Mc.1 1 2 := by rw [f3.1 1 2 (by omega), uI_na (by omega), b6.1 1 2 (by omega), a14]
    have m2 : Mr2.1 2 = Mr.1 2 := funext fun k => Fr.1 2 k (by omega)
    have lg4 : ∀ e, lg (Mr.1 2) v a e 4 = Mr.1 2 4 := fun e => by unfold lg; rw [ub_ne (by omega), ub_ne (by omega)]
    by_cases q : wd sz yb 13 p3 = true
    case neg =>
      rw [if_neg q, if_pos q0, if_pos q0, show (0 : Int32) = nI 0 from rfl, r41G g6 v9, e_bv]
      refine s_end2 (g := lg (Mr.1 2) v a 0) (sim2_r f2 (fun a k ha => by rw [uI_at, if_neg (by omega), uI_na (by omega), uI_na (by omega)])) (by omega) ?_ (lg4 0) (lg_w m2) Fc (r4F_tr (r4F_1 Fr) lg_r4) ⟨w11, w12, by rw [uI_nb (by omega), uI_na (by omega), uI_na (by omega), Fr.1 0 18 (by omega)]⟩ hN
      refine drf_ld hd hv b5 (by omega) cv ?_ (fun i k q1 q2 q3 => cc i k q1 q2) (fun i k q1 => ?_) ?_
      · rw [cc 7 v (by omega) (by omega), show Mc.1 7 v = Mr.1 2 (15 + v) from hd.2.1.2.2.2.2.1 v v9, hd.2.2.2.2.2.2 v v9 l0]; rfl
      · rw [uI_at, if_neg (by omega), uI_na (by omega), uI_na (by omega), Fr.1 i k (by omega)]
      · rw [uI_eq, Fr.1 0 20 (by omega)]
    rw [if_pos q, if_neg q1, if_neg q1]
    obtain ⟨Mr3, i1, i2, i3⟩ := s_adv (N := N) f2 hN
    have k1 := be_b (yb := yb) g3
    have k2 := fi_b (yb := yb) g3
    rw [i1, e_bv]
    rcases s_num (N := N) (lo := 1) (hi := 3) i2 (by omega) (by omega) hN with ⟨e, p4, Mc4, Mr4, j1, j2, j3, j4, j5, j6, j7, -, -, j8, -⟩ | ⟨Mc4, Mr4, j1, j2, j3, j4, j5, -⟩
    case inr =>
      have j1 : fX6_needBounds N 1 1 3 Mc3 = some (0, Mc4) := j1
      have j2 : fX11_takes N 0 1 3 Mr3 = some (0, Mr4) := j2
      rw [j1, j2, e_b, if_pos q0, e_b, e_m, r41B j3.2.2, e_bv]
      exact lo3_f j3 (c4F_tr Fc (c4F_2 j4)) (r4F_2 (r2F_tr (r2F_1 (r1F_tr Fr i3)) j5))
    have j1 : fX6_needBounds N 1 1 3 Mc3 = some (1, Mc4) := j1
    have j2 : fX11_takes N 0 1 3 Mr3 = some (nI e, Mr4) := j2
    have n11 : Mc4.1 1 11 = nI v := by rw [j6.1 1 11 (by omega), f3.1 1 11 (by omega), uI_na (by omega), m11]
    have k3 := be_b (yb := yb) k1.2.1
    have k4 := fi_b (yb := yb) k1.2.1
    rw [j1, j2, e_b, if_neg q1, e_b, e_m, e_m, r41G j3.2.2.2.2.2 v9, e_bv, n11, if_pos (show sg_ib (nI v) 9 = true from (ib_nI (by omega) (by omega))), nI_clamp (show v < 2 ^ 31 by omega), j4]
    have Fr4 : r1F Mr Mr4 := r1F_tr Fr (r1F_tr i3 j7)
    have m4 : Mr4.1 2 = Mr.1 2 := funext fun k => Fr4.1 2 k (by omega)
    have s5 : sim sz yb p4 (sg_uI Mc4 7 v (nI e)) (sg_uI (sg_uI (sg_uI Mr4 2 (6 + v) (nI a)) 2 (15 + v) (nI e)) 0 20 (Mr4.1 0 20 ||| bi v)) := sim_1 j3 (fun a j ha => by rw [uI_na (by omega)]) (fun a k ha => by rw [uI_at, if_neg (by omega), uI_na (by omega), uI_na (by omega)])
    obtain ⟨Mc5, t1, t2, t3⟩ := s_step (N := N) s5 hN
    rw [t1, e_bv]
    refine s_end2 (g := lg (Mr.1 2) v a e) t2 (by omega) ?_ (lg4 e) (lg_w m4) (c4F_tr Fc (c4F_tr (c4F_1 j6) (c4F_tr (c4F_u (by omega)) (c4F_1 t3)))) (r4F_tr (r4F_1 Fr4) lg_r4) ⟨?_, ?_, by rw [uI_nb (by omega), uI_na (by omega), uI_na (by omega), Fr4.1 0 18 (by omega)]⟩ hN
    · refine drf_ld hd hv b5 (by omega) ?_ ?_ (fun i k q1 q2 q3 => ?_) (fun i k q1 => ?_) ?_
      · rw [t3.1 6 v (by omega), uI_na (by omega), j6.1 6 v (by omega), cv]
      · rw [t3.1 7 v (by omega), uI_eq]
      · rw [t3.1 i k (by omega), uI_at, if_neg q3, j6.1 i k (by omega), cc i k q1 q2]
      · rw [uI_at, if_neg (by omega), uI_na (by omega), uI_na (by omega), Fr4.1 i k (by omega)]
      · rw [uI_eq, Fr4.1 0 20 (by omega)]
    · rw [t3.1 1 1 (by omega), uI_na (by omega), j6.1 1 1 (by omega), w11]
    · rw [t3.1 1 2 (by omega), uI_na (by omega), j6.1 1 2 (by omega), w12]
  · rw [a1, e_b, if_pos q0, a2, e_b, e_m, rLd_b a3.2.2 (by omega), e_bv]
    exact lo3_f a3 (c4F_3 a4) (r4F_2 a5)
  · have hv := in_v a5 a6
    generalize hvv : y * gC (Mr.1 2) + x = v at *
    have v9 : v < 9 := (by omega)
    have l0 : 0 < gL (Mr.1 2) v := by
      have := hd.2.2.2.2.2.1 v v9
      rw [a8] at this
      exact of_decide_eq_true this.symm
    have l9 := vb_l99 hd.1 v9
    have ng : ¬ Mr1.1 0 17 = 0 := by rw [a3]; decide
    rw [a1, e_b, if_neg q1, a2, e_b, e_m, rLd_b ng (by omega), e_bv, a7, if_pos (show sg_ib (nI v) 9 = true from (ib_nI (by omega) (by omega))), nI_clamp (show v < 2 ^ 31 by omega), a9.1 6 v (by omega), mc v v9, if_neg (show ¬ nI (gL (Mr.1 2) v) ≤ 0 from (show ¬ nI (gL (Mr.1 2) v) ≤ nI 0 from nI_ge l0 (by omega))), c_fail, e_b, if_pos (by decide)]
    exact lo3_f (fl_of (by decide) a3 a4) (c4F_tr (c4F_3 a9) (c4F_2 (c2F_tr (c2F_u (by omega)) (c2F_u (by omega))))) (r4F_2 a10)
end LO
