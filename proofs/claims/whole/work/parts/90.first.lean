/-! the first line -/
section FI
variable {N sz : Nat} {yb : Nat → Nat}
def rF4 (N : Nat) (x11 : Int32) (M14 : sg_M) : Option sg_M := sg_b (fX11_told N 0 5 (1 : Int32) (999 : Int32) M14) (fun (x16 : Int32) (M15 : sg_M) => if sg_ib (3 : Int32) (Yr.2.2.1 (Yr.2.2.2 0 2)) = true then sg_m (sg_uI M15 (Yr.2.2.2 0 2) ((3 : Int32)).toNatClampNeg x16) (fun M17 : sg_M => sg_b (fX11_good N 0 M17) (fun (x19 : Int32) (M18 : sg_M) => if x19 = 0 then some M18 else rF5 N x11 M18)) else none)
def rF3 (N : Nat) (x11 : Int32) (M9 : sg_M) : Option sg_M := sg_b (fX11_told N 0 4 (0 : Int32) (999 : Int32) M9) (fun (x13 : Int32) (M12 : sg_M) => if sg_ib (2 : Int32) (Yr.2.2.1 (Yr.2.2.2 0 2)) = true then sg_m (sg_uI M12 (Yr.2.2.2 0 2) ((2 : Int32)).toNatClampNeg x13) (fun M14 : sg_M => rF4 N x11 M14) else none)
def rF2 (N : Nat) (M8 : sg_M) : Option sg_M := sg_b (fX11_told N 0 3 (0 : Int32) (4 : Int32) M8) (fun (x10 : Int32) (M9 : sg_M) => sg_m x10 (fun x11 : Int32 => rF3 N x11 M9))
theorem r78_eq {M : sg_M} : gX11_readFirst_78 N 0 M = sg_b (fX11_takes N 0 (1 : Int32) (9 : Int32) M) (fun (x7 : Int32) (M6 : sg_M) => if sg_ib (1 : Int32) (Yr.2.2.1 (Yr.2.2.2 0 2)) = true then sg_m (sg_uI M6 (Yr.2.2.2 0 2) ((1 : Int32)).toNatClampNeg x7) (fun M8 : sg_M => rF2 N M8) else none) := rfl
/-- nothing more happens in a bad state -/
def bdR (M : sg_M) (o : Option sg_M) : Prop := ∃ M1, o = some M1 ∧ M1.1 0 17 = M.1 0 17 ∧ M1.1 0 18 = M.1 0 18 ∧ r4F M M1
theorem bdR_u {M : sg_M} {k : Nat} {x : Int32} {o : Option sg_M} (h : bdR (sg_uI M 2 k x) o) : bdR M o := by
  obtain ⟨M1, e, a, b, F⟩ := h
  exact ⟨M1, e, by rw [a, uI_na (by omega)], by rw [b, uI_na (by omega)], r4F_tr (r4F_u (by omega)) F⟩
theorem ng_u {M : sg_M} {k : Nat} {x : Int32} (h : ¬ M.1 0 17 = 0) : ¬ (sg_uI M 2 k x).1 0 17 = 0 := by rw [uI_na (by omega)]; exact h
theorem rF4_b {x : Int32} {M : sg_M} (hg : ¬ M.1 0 17 = 0) (hN : 0 < N) : bdR M (rF4 N x M) := by
  unfold rF4
  rw [r_tolB hg hN, e_b, yr_2, yl_2, if_pos (by decide), c_3, e_m, r_bd (ng_u hg), e_b, if_pos q0]
  exact ⟨_, rfl, uI_na (by omega), uI_na (by omega), r4F_u (by omega)⟩
theorem rF3_b {x : Int32} {M : sg_M} (hg : ¬ M.1 0 17 = 0) (hN : 0 < N) : bdR M (rF3 N x M) := by
  unfold rF3
  rw [r_tolB hg hN, e_b, yr_2, yl_2, if_pos (by decide), c_2, e_m]
  exact bdR_u (rF4_b (ng_u hg) hN)
theorem rF2_b {M : sg_M} (hg : ¬ M.1 0 17 = 0) (hN : 0 < N) : bdR M (rF2 N M) := by
  unfold rF2
  rw [r_tolB hg hN, e_b, e_m]
  exact rF3_b hg hN
theorem r78_b {M : sg_M} (hg : ¬ M.1 0 17 = 0) (hN : 0 < N) : bdR M (gX11_readFirst_78 N 0 M) := by
  rw [r78_eq, r_takB hg, e_b, yr_2, yl_2, if_pos (by decide), c_1, e_m]
  exact bdR_u (rF2_b (ng_u hg) hN)
/-- how the first line comes out -/
def lo4 (sz : Nat) (yb : Nat → Nat) (p : Nat) (Mc Mr : sg_M) (rc : Option (Int32 × sg_M)) (rr : Option sg_M) : Prop := (∃ p2 Mc1 Mr1, rc = some (1, Mc1) ∧ rr = some Mr1 ∧ sim sz yb p2 Mc1 Mr1 ∧ p < p2 ∧ drf (Mr1.1 2) (sg_uI Mc1 2 4 (Mc1.1 2 4 + 1)) Mr1 ∧ Mr1.1 2 4 = Mr.1 2 4 + 1 ∧ c4F Mc Mc1 ∧ r4F Mr Mr1 ∧ Mc1.1 1 1 = Mc.1 1 1 ∧ Mc1.1 1 2 = Mc.1 1 2 ∧ Mr1.1 0 18 = Mr.1 0 18) ∨ (∃ Mc1 Mr1, rc = some (0, Mc1) ∧ rr = some Mr1 ∧ fl2 Mc1 Mr1 ∧ c4F Mc Mc1 ∧ r4F Mr Mr1)
theorem lo4_f {p : Nat} {o : Option sg_M} {Mc Mr Mc1 Mr1 : sg_M} (h : fl2 Mc1 Mr1) (b : bdR Mr1 o) (cF : c4F Mc Mc1) (rF : r4F Mr Mr1) : lo4 sz yb p Mc Mr (some (0, Mc1)) (sg_bv o (fun M => gX11_readText_20 N 0 M)) := by
  obtain ⟨M2, e, b1, b2, F⟩ := b
  obtain ⟨M3, e3, a1, a2, F3⟩ := rt_bad (N := N) (M := M2) (by rw [b1]; exact h.2.2)
  rw [e, e_bv, e3]
  exact Or.inr ⟨Mc1, M3, rfl, rfl, ⟨by rw [a1, b1]; exact h.1, by rw [a2, b2]; exact h.2.1, by rw [a1, b1]; exact h.2.2⟩, cF, r4F_tr rF (r4F_tr F F3)⟩
theorem lo4_3 {p L : Nat} {rc : Option (Int32 × sg_M)} {rr : Option sg_M} {Mc Mr : sg_M} (h : lo3 sz yb p Mc Mr rc rr) (h4 : Mr.1 2 4 = nI L) (hL : L < 1000) : lo4 sz yb p Mc Mr rc rr := by
  rcases h with ⟨p2, g, Mc1, Mr1, a1, a2, a3, a4, a5, a6, a7, a8, a9, a10, a11, a12⟩ | z
  · refine Or.inl ⟨p2, Mc1, Mr1, a1, a2, a3, a4, ?_, by rw [a7, ub_eq, a6], a8, a9, a10, a11, a12⟩
    have c4 : Mc1.1 2 4 = g 4 := a5.2.1.1.2.2.2.2.1
    have g4 : g 4 = nI L := by rw [a6, h4]
    rw [a7, c4, g4, nI_1]
    have eL : ∀ u, gL (ub g 4 (nI (L + 1))) u = gL g u := fun u => by unfold gL; rw [ub_ne (by omega)]
    refine ⟨vb_up a5.1 (by omega) ⟨fun _ => (show ¬ nI (L + 1) ≤ nI 0 from nI_ge (by omega) (by omega)), fun z => by omega, fun z => by omega⟩, cNet_up (i := 4) a5.2.1 (by omega) (by omega), ?_, ?_, ?_, fun u hu => ?_, fun u hu z => ?_⟩
    · rw [uI_nb (by omega)]; exact a5.2.2.1
    · have e0 : gC (ub g 4 (nI (L + 1))) = gC g := by unfold gC; rw [ub_ne (by omega)]
      have e2 : gR (ub g 4 (nI (L + 1))) = gR g := by unfold gR; rw [ub_ne (by omega)]
      rw [e0, e2]; exact a5.2.2.2.1
    · rw [uI_na (by omega)]; exact a5.2.2.2.2.1
    · rw [eL]; exact a5.2.2.2.2.2.1 u hu
    · rw [eL] at z; rw [ub_ne (by omega)]; exact a5.2.2.2.2.2.2 u hu z
  · exact Or.inr z
def frs (Mc Mr : sg_M) : Prop := (∀ k, k < 9 → Mc.1 2 k = 0) ∧ (∀ s, s < 12 → Mc.1 5 s = 0) ∧ (∀ v, v < 9 → Mc.1 6 v = 0) ∧ (∀ v, v < 9 → Mc.1 7 v = 0) ∧ (∀ g, g < 4 → Mc.1 8 g = 999) ∧ Mc.1 1 12 = 0 ∧ (∀ k, k < 40 → Mr.1 2 k = 0) ∧ Mr.1 0 19 = 0 ∧ Mr.1 0 20 = 0
theorem l_first0 {p : Nat} {Mc Mr : sg_M} (h : sim2 sz yb p Mc Mr) (q : ¬ wd sz yb 0 p = true) (hN : 1000 ≤ N) : lo4 sz yb p Mc Mr (fX6_fail N 1 1 Mc) (sg_bv (fX11_readFirst N 0 Mr) (fun M => gX11_readText_20 N 0 M)) := by
  obtain ⟨g1, g2, g3, g4, g5, g6⟩ := id h
  obtain ⟨Mc2, Mr2, x1, x2, x3, x4, x5⟩ := s_fail (N := N) (k := 1) h q1
  have i0 : sg_ib (0 : Int32) 40 = true := by decide
  unfold fX11_readFirst fX11_expects
  rw [r_word g2 g3 g5 g6 (show 0 < 16 by omega) (by omega), e_b, if_neg q, if_pos q0, x1, x2, e_bv, e_bv, r_tolB x3.2.2 (by omega), e_b, yr_2, yl_2, if_pos i0, c_0, e_m, r_wordB (ng_u x3.2.2) (by omega), e_b, if_pos q0, r_errB (ng_u x3.2.2), e_bv, e_bv, r_bd (ng_u x3.2.2), e_b, if_pos q0]
  exact lo4_f x3 (bdR_u (r78_b (ng_u x3.2.2) (by omega))) (c4F_2 x4) (r4F_2 x5)
set_option maxHeartbeats 1000000 in
theorem l_first1 {p : Nat} {Mc Mr : sg_M} (h : sim2 sz yb p Mc Mr) (hf : frs Mc Mr) (q : wd sz yb 0 p = true) (hN : 1000 ≤ N) : lo4 sz yb p Mc Mr (fX6_readGrid N 1 Mc) (sg_bv (fX11_readFirst N 0 Mr) (fun M => gX11_readText_20 N 0 M)) := by
  obtain ⟨fc2, fc5, fc6, fc7, fc8, fc12, fr2, fr19, fr20⟩ := hf
  obtain ⟨g1, g2, g3, g4, g5, g6⟩ := id h
  have t1 := be_b (yb := yb) g3
  have t2 := fi_b (yb := yb) g3
  have i0 : sg_ib (0 : Int32) 40 = true := by decide
  have i1 : sg_ib (1 : Int32) 40 = true := by decide
  have i2 : sg_ib (2 : Int32) 40 = true := by decide
  have i3 : sg_ib (3 : Int32) 40 = true := by decide
  obtain ⟨Mr1, x1, x2, x3⟩ := s_adv (N := N) h hN
  unfold fX6_readGrid fX11_readFirst
  rw [show fX11_expects N 0 0 Mr = some Mr1 by unfold fX11_expects; rw [r_word g2 g3 g5 g6 (show 0 < 16 by omega) (by omega), e_b, if_pos q, if_neg q1, x1, e_bv], e_bv, yr_2, yl_2, c_0, y1_3]
  rcases s_told (N := N) (w := 1) (lo := 1) (hi := 9) x2 (by omega) (by omega) (by omega) hN with ⟨c, p2, Mc2, Mr2, a1, a2, a3, a4, a5, a6, a7, a8⟩ | ⟨Mc2, Mr2, a1, a2, a3, a4, a5⟩
  case inr =>
    have a1 : fX6_needNumber N 1 1 1 9 Mc = some (0, Mc2) := a1
    have a2 : fX11_told N 0 1 1 9 Mr1 = some (0, Mr2) := a2
    rw [a1, a2, e_b, if_pos q0, e_b, if_pos i0, e_m, r_expB (ng_u a3.2.2) (by omega), e_bv, r_bd (ng_u a3.2.2), e_b, if_pos q0]
    exact lo4_f a3 (bdR_u (r78_b (ng_u a3.2.2) (by omega))) (c4F_2 a4) (r4F_2 (r2F_tr (r2F_1 x3) a5))
  have a1 : fX6_needNumber N 1 1 1 9 Mc = some (1, Mc2) := a1
  have a2 : fX11_told N 0 1 1 9 Mr1 = some (nI c, Mr2) := a2
  rw [a1, a2, e_b, if_neg q1, a4, e_m, e_b, if_pos i0, e_m]
  have s2 : sim sz yb p2 Mc2 (sg_uI Mr2 2 0 (nI c)) := sim_1 a3 (fun _ _ _ => rfl) (fun a k ha => by rw [uI_na (by omega)])
  obtain ⟨Mc3, f1, f2, f3⟩ := s_step (N := N) s2 hN
  obtain ⟨k1, k2, k3, k4, k5, k6⟩ := id f2
  have u1 := be_b (yb := yb) k3
  have u2 := fi_b (yb := yb) k3
  have Fr2 : r4F Mr (sg_uI Mr2 2 0 (nI c)) := r4F_tr (r4F_1 (r1F_tr x3 a7)) (r4F_u (by omega))
  have Fc3 : c1F Mc Mc3 := c1F_tr a6 f3
  by_cases w2 : wd sz yb 2 p2 = true
  case neg =>
    obtain ⟨Mc4, Mr4, y1, y2, y3, y4, y5⟩ := s_fail (N := N) (k := 1) f2 q1
    have en : fX6_needNumber N 1 2 1 9 Mc2 = some (0, Mc4) := by
      unfold fX6_needNumber
      rw [f1, e_bv, c_word k1 k3 k4 (show 2 < 16 by omega) (by omega), e_b, if_neg w2, if_pos q0, y1, e_b, if_pos (by decide)]
    have ee : fX11_expects N 0 2 (sg_uI Mr2 2 0 (nI c)) = some Mr4 := by
      unfold fX11_expects
      rw [r_word k2 k3 k5 k6 (show 2 < 16 by omega) (by omega), e_b, if_neg w2, if_pos q0, y2, e_bv]
    rw [en, ee, e_b, if_pos q0, e_bv, r_bd y3.2.2, e_b, if_pos q0]
    exact lo4_f y3 (r78_b y3.2.2 (by omega)) (c4F_tr (c4F_1 Fc3) (c4F_2 y4)) (r4F_tr Fr2 (r4F_2 y5))
  obtain ⟨Mr3, y1, y2, y3⟩ := s_adv (N := N) f2 hN
  have ee : fX11_expects N 0 2 (sg_uI Mr2 2 0 (nI c)) = some Mr3 := by
    unfold fX11_expects
    rw [r_word k2 k3 k5 k6 (show 2 < 16 by omega) (by omega), e_b, if_pos w2, if_neg q1, y1, e_bv]
  obtain ⟨m1, m2, m3, m4, m5, m6⟩ := id y2
  have Fr3 : r4F Mr Mr3 := r4F_tr Fr2 (r4F_1 y3)
  have kb := kn_b (sz := sz) (yb := yb) (p := be sz yb p2)
  have v1 := be_b (yb := yb) m3
  have v2 := fi_b (yb := yb) m3
  have r30 : Mr3.1 2 0 = nI c := by rw [y3.1 2 0 (by omega), uI_eq]
  rw [ee, e_bv, r_gd m6, e_b, if_neg q1, m5.2.2.1]
  rcases s_num (N := N) (lo := 1) (hi := 9) y2 (by omega) (by omega) hN with ⟨r, p4, Mc4, Mr4, z1, z2, z3, z4, z5, z6, z7, z8, z9, z10, z11⟩ | ⟨Mc4, Mr4, z1, z2, z3, z4, z5, z6⟩
  case inr =>
    have z1 : fX6_needBounds N 1 1 9 Mc3 = some (0, Mc4) := z1
    have z2 : fX11_takes N 0 1 9 Mr3 = some (0, Mr4) := z2
    have en : fX6_needNumber N 1 2 1 9 Mc2 = some (0, Mc4) := by
      unfold fX6_needNumber
      rw [f1, e_bv, c_word k1 k3 k4 (show 2 < 16 by omega) (by omega), e_b, if_pos w2, if_neg q1, z1, e_b, if_pos (by decide)]
    have b78 : bdR Mr4 (gX11_readFirst_78 N 0 Mr3) := by
      rw [r78_eq, z2, e_b, yr_2, yl_2, if_pos i1, c_1, e_m]
      exact bdR_u (rF2_b (ng_u z3.2.2) (by omega))
    rw [en, e_b, if_pos q0]
    have fin := lo4_f (N := N) (sz := sz) (yb := yb) (p := p) z3 b78 (c4F_tr (c4F_1 Fc3) (c4F_2 z4)) (r4F_tr Fr3 (r4F_2 z5))
    by_cases kk2 : kn sz yb (be sz yb p2) = 2
    · rw [if_pos (show nI (min (kn sz yb (be sz yb p2)) 4) = 2 by rw [kk2]; rfl), m5.2.2.2 kk2]
      have rin : fX11_in N (nI (min (tv sz yb (be sz yb p2)) 99999)).toInt64 1 9 Mr3 = some (0, Mr3) := by
        rw [show (1 : Int64) = lI ((1 : Nat) : Int) from rfl, show (9 : Int64) = lI ((9 : Nat) : Int) from rfl, r_inG (by omega) (by omega), nI_toInt (by omega), if_neg (by omega)]
      rw [rin, e_b, if_pos q0]
      exact fin
    · rw [if_neg (show ¬ nI (min (kn sz yb (be sz yb p2)) 4) = 2 from fun z => kk2 (by have := (nI_eq (by omega) (show 2 < 2 ^ 31 by omega)).mp z; omega))]
      exact fin
  have z1 : fX6_needBounds N 1 1 9 Mc3 = some (1, Mc4) := z1
  have z2 : fX11_takes N 0 1 9 Mr3 = some (nI r, Mr4) := z2
  have en : fX6_needNumber N 1 2 1 9 Mc2 = some (1, Mc4) := by
    unfold fX6_needNumber
    rw [f1, e_bv, c_word k1 k3 k4 (show 2 < 16 by omega) (by omega), e_b, if_pos w2, if_neg q1, z1, e_b, if_pos (by decide)]
  have rin : fX11_in N (nI r).toInt64 1 9 Mr3 = some (1, Mr3) := by
    rw [show (1 : Int64) = lI ((1 : Nat) : Int) from rfl, show (9 : Int64) = lI ((9 : Nat) : Int) from rfl, r_inG (by omega) (by omega), nI_toInt (by omega), if_pos (by omega)]
  have cr81 : c * r ≤ 81 := by have := Nat.mul_le_mul a5.2 z5.2; omega
  rw [en, e_b, if_neg q1, z4, e_m, if_pos (show nI (min (kn sz yb (be sz yb p2)) 4) = 2 by rw [z8]; rfl), m5.2.2.2 z8, Nat.min_eq_left (by omega), ← z9, rin, e_b, if_neg q1, if_pos i0, m5.2.2.2 z8, Nat.min_eq_left (by omega), ← z9, r30, nI_mul]
  have Fc4 : c1F Mc Mc4 := c1F_tr Fc3 z6
  by_cases big : c * r ≤ 9
  case neg =>
    have nb : ¬ nI (c * r) ≤ (9 : Int32) := (show ¬ nI (c * r) ≤ nI 9 from nI_ge (by omega) (by omega))
    rw [if_neg nb, if_neg nb, c_fail, e_b, if_pos (by decide), r_errG m6, e_bv]
    have ng : ¬ (sg_uI (sg_uI Mr3 0 17 2) 0 18 (Mr3.1 0 14)).1 0 17 = 0 := by rw [uI_nb (by omega), uI_eq]; decide
    exact lo4_f (fl_of (by decide) (by rw [uI_nb (by omega), uI_eq]) (by rw [uI_eq, z11, m5.1])) (r78_b ng (by omega)) (c4F_tr (c4F_1 Fc4) (c4F_2 (c2F_tr (c2F_u (by omega)) (c2F_u (by omega))))) (r4F_tr Fr3 (r4F_2 (r2F_tr (r2F_u (by omega)) (r2F_u (by omega)))))
  have hsp : shp c r := ⟨a5.1, z5.1, big⟩
  have nb : nI (c * r) ≤ (9 : Int32) := (show nI (c * r) ≤ nI 9 from nI_le (by omega) (by omega))
  rw [if_pos nb, if_pos nb, r78_eq, z2, e_b, yr_2, yl_2, if_pos i1, c_1, e_m]
  unfold rF2
  have s5 : sim sz yb p4 Mc4 (sg_uI Mr4 2 1 (nI r)) := sim_1 z3 (fun _ _ _ => rfl) (fun a k ha => by rw [uI_na (by omega)])
  have Fr5 : r4F Mr (sg_uI Mr4 2 1 (nI r)) := r4F_tr Fr3 (r4F_tr (r4F_1 z7) (r4F_u (by omega)))
  rcases s_told (N := N) (w := 3) (lo := 0) (hi := 4) s5 (by omega) (by omega) (by omega) hN with ⟨W, p5, Mc5, Mr5, b1, b2, b3, b4, b5, b6, b7, b8⟩ | ⟨Mc5, Mr5, b1, b2, b3, b4, b5⟩
  case inr =>
    have b1 : fX6_needNumber N 1 3 0 4 Mc4 = some (0, Mc5) := b1
    have b2 : fX11_told N 0 3 0 4 (sg_uI Mr4 2 1 (nI r)) = some (0, Mr5) := b2
    rw [b1, b2, e_b, if_pos q0, e_b, e_m]
    exact lo4_f b3 (rF3_b b3.2.2 (by omega)) (c4F_tr (c4F_1 Fc4) (c4F_2 b4)) (r4F_tr Fr5 (r4F_2 b5))
  have b1 : fX6_needNumber N 1 3 0 4 Mc4 = some (1, Mc5) := b1
  have b2 : fX11_told N 0 3 0 4 (sg_uI Mr4 2 1 (nI r)) = some (nI W, Mr5) := b2
  have Fc5 : c1F Mc Mc5 := c1F_tr Fc4 b6
  obtain ⟨Mc6, e6, l0, l1, lG, lw, lw0, lJ, lF⟩ := layOut_ok (N := N) (W := nI W) (M := Mc5) hsp (by omega)
  rw [b1, b2, e_b, if_neg q1, b4, e6, e_bv, e_b, e_m]
  unfold rF3
  have s6 : sim sz yb p5 Mc6 Mr5 := sim_1 b3 (fun a k ha => lF a k (by omega)) (fun _ _ _ => rfl)
  have Fc6 : c4F Mc Mc6 := c4F_tr (c4F_1 Fc5) ⟨fun a k ha => lF a k (by omega), lJ⟩
  rcases s_told (N := N) (w := 4) (lo := 0) (hi := 999) s6 (by omega) (by omega) (by omega) hN with ⟨T, p6, Mc7, Mr6, d1, d2, d3, d4, d5, d6, d7, d8⟩ | ⟨Mc7, Mr6, d1, d2, d3, d4, d5⟩
  case inr =>
    have d1 : fX6_needNumber N 1 4 0 999 Mc6 = some (0, Mc7) := d1
    have d2 : fX11_told N 0 4 0 999 Mr5 = some (0, Mr6) := d2
    rw [d1, d2, e_b, if_pos q0, e_b, yr_2, yl_2, if_pos i2, c_2, e_m]
    exact lo4_f d3 (bdR_u (rF4_b (ng_u d3.2.2) (by omega))) (c4F_tr Fc6 (c4F_2 d4)) (r4F_tr Fr5 (r4F_2 (r2F_tr (r2F_1 b7) d5)))
  have d1 : fX6_needNumber N 1 4 0 999 Mc6 = some (1, Mc7) := d1
  have d2 : fX11_told N 0 4 0 999 Mr5 = some (nI T, Mr6) := d2
  rw [d1, d2, e_b, if_neg q1, d4, e_m, e_b, yr_2, yl_2, if_pos i2, c_2, e_m]
  unfold rF4
  have s7 : sim sz yb p6 (sg_uI Mc7 2 2 (nI T)) (sg_uI Mr6 2 2 (nI T)) := sim_1 d3 (fun a k ha => by rw [uI_na (by omega)]) (fun a k ha => by rw [uI_na (by omega)])
  have Fc7 : c4F Mc (sg_uI Mc7 2 2 (nI T)) := c4F_tr Fc6 (c4F_tr (c4F_1 d6) (c4F_u (by omega)))
  have Fr7 : r4F Mr (sg_uI Mr6 2 2 (nI T)) := r4F_tr Fr5 (r4F_tr (r4F_1 (r1F_tr b7 d7)) (r4F_u (by omega)))
  rcases s_told (N := N) (w := 5) (lo := 1) (hi := 999) s7 (by omega) (by omega) (by omega) hN with ⟨E, p7, Mc8, Mr7, j1, j2, j3, j4, j5, j6, j7, j8⟩ | ⟨Mc8, Mr7, j1, j2, j3, j4, j5⟩
  case inr =>
    have j1 : fX6_needNumber N 1 5 1 999 (sg_uI Mc7 2 2 (nI T)) = some (0, Mc8) := j1
    have j2 : fX11_told N 0 5 1 999 (sg_uI Mr6 2 2 (nI T)) = some (0, Mr7) := j2
    rw [j1, j2, e_b, if_pos q0, e_b, yr_2, yl_2, if_pos i3, c_3, e_m, r_bd (ng_u j3.2.2), e_b, if_pos q0]
    exact lo4_f j3 ⟨_, rfl, uI_na (by omega), uI_na (by omega), r4F_u (by omega)⟩ (c4F_tr Fc7 (c4F_2 j4)) (r4F_tr Fr7 (r4F_2 j5))
  have j1 : fX6_needNumber N 1 5 1 999 (sg_uI Mc7 2 2 (nI T)) = some (1, Mc8) := j1
  have j2 : fX11_told N 0 5 1 999 (sg_uI Mr6 2 2 (nI T)) = some (nI E, Mr7) := j2
  have gd7 : (sg_uI Mr7 2 3 (nI E)).1 0 17 = 0 := by rw [uI_na (by omega)]; exact j3.2.2.2.2.2
  rw [j1, j2, e_b, if_neg q1, j4, e_m, e_b, yr_2, yl_2, if_pos i3, c_3, e_m, r_gd gd7, e_b, if_neg q1]
  have o0 : (sg_uI Mr7 2 3 (nI E)).1 2 0 = nI c := by rw [uI_nb (by omega), j7.1 2 0 (by omega), uI_nb (by omega), d7.1 2 0 (by omega), b7.1 2 0 (by omega), uI_nb (by omega), z7.1 2 0 (by omega), r30]
  have o1 : (sg_uI Mr7 2 3 (nI E)).1 2 1 = nI r := by rw [uI_nb (by omega), j7.1 2 1 (by omega), uI_nb (by omega), d7.1 2 1 (by omega), b7.1 2 1 (by omega), uI_eq]
  have o2 : (sg_uI Mr7 2 3 (nI E)).1 2 2 = nI T := by rw [uI_nb (by omega), j7.1 2 2 (by omega), uI_eq]
  have o3 : (sg_uI Mr7 2 3 (nI E)).1 2 3 = nI E := uI_eq
  have ok4 : ∀ k, 4 ≤ k → (sg_uI Mr7 2 3 (nI E)).1 2 k = Mr.1 2 k := fun k hk => by rw [uI_nb (by omega), j7.1 2 k (by omega), uI_nb (by omega), d7.1 2 k (by omega), b7.1 2 k (by omega), uI_nb (by omega), z7.1 2 k (by omega), y3.1 2 k (by omega), uI_nb (by omega), a7.1 2 k (by omega), x3.1 2 k (by omega)]
  have oz : ∀ k, 17 < k → (sg_uI Mr7 2 3 (nI E)).1 0 k = Mr.1 0 k := fun k hk => by rw [uI_na (by omega), j7.1 0 k (by omega), uI_na (by omega), d7.1 0 k (by omega), b7.1 0 k (by omega), uI_na (by omega), z7.1 0 k (by omega), y3.1 0 k (by omega), uI_na (by omega), a7.1 0 k (by omega), x3.1 0 k (by omega)]
  have Fr8 : r4F Mr (sg_uI Mr7 2 3 (nI E)) := r4F_tr Fr7 (r4F_tr (r4F_1 j7) (r4F_u (by omega)))
  have s8 : sim sz yb p7 (sg_uI Mc8 2 3 (nI E)) (sg_uI Mr7 2 3 (nI E)) := sim_1 j3 (fun a k ha => by rw [uI_na (by omega)]) (fun a k ha => by rw [uI_na (by omega)])
  generalize sg_uI Mr7 2 3 (nI E) = A at *
  obtain ⟨B, eB, n1, n2, n3, n4, n5⟩ := rF5_ok (N := N) (W := nI W) hsp o0 o1 hN
  have s9 : sim sz yb p7 (sg_uI Mc8 2 3 (nI E)) B := sim_1 s8 (fun _ _ _ => rfl) (fun a k ha => n4 a k (by omega) (by omega) (by omega))
  obtain ⟨Z, h1, h2, h3⟩ := s_step (N := N) s9 hN
  obtain ⟨h41, h42, h43, h44, h45, h46⟩ := id h2
  rw [eB, e_bv]
  unfold fX6_needSign
  rw [h1, e_bv, h44.2.2.1]
  have kb2 := kn_b (sz := sz) (yb := yb) (p := p7)
  have cz : ∀ a k, (a ≠ 1 ∨ k < 5 ∨ 9 ≤ k) → (a ≠ 2 ∨ (k ≠ 2 ∧ k ≠ 3)) → Z.1 a k = Mc6.1 a k := fun a k q1 q2 => by rw [h3.1 a k q1, uI_at, if_neg (by omega), j6.1 a k q1, uI_at, if_neg (by omega), d6.1 a k q1]
  have cm : ∀ a k, (a ≠ 1 ∨ k < 5 ∨ 9 ≤ k) → (a ≠ 3 ∧ a ≠ 4 ∧ a ≠ 5 ∧ (a ≠ 2 ∨ (k ≠ 0 ∧ k ≠ 1 ∧ k ≠ 5 ∧ k ≠ 6))) → Mc6.1 a k = Mc.1 a k := fun a k q1 q2 => by rw [lF a k q2, Fc5.1 a k q1]
  have Fz : c4F Mc Z := c4F_tr Fc7 (c4F_tr (c4F_1 j6) (c4F_tr (c4F_u (by omega)) (c4F_1 h3)))
  have FB : r4F Mr B := r4F_tr Fr8 ⟨fun a k ha => n4 a k (by omega) (by omega) (by omega), n5⟩
  have w11 : Z.1 1 1 = Mc.1 1 1 := by rw [cz 1 1 (by omega) (by omega), cm 1 1 (by omega) (by omega)]
  have w12 : Z.1 1 2 = Mc.1 1 2 := by rw [cz 1 2 (by omega) (by omega), cm 1 2 (by omega) (by omega)]
  have hnew : newC c r T E W Z := by
    refine ⟨⟨?_, ?_, ?_, ?_, ?_, ?_, ?_⟩, ⟨?_, ?_, fun s hs => ?_, fun s hs => ?_⟩, fun s hs => ?_, fun v hv => ?_, fun v hv => ?_, fun g hg => ?_, ?_⟩
    · rw [cz 2 0 (by omega) (by omega), l0]
    · rw [cz 2 1 (by omega) (by omega), l1]
    · rw [h3.1 2 2 (by omega), uI_nb (by omega), j6.1 2 2 (by omega), uI_eq]
    · rw [h3.1 2 3 (by omega), uI_eq]
    · rw [cz 2 4 (by omega) (by omega), cm 2 4 (by omega) (by omega), fc2 4 (by omega)]
    · rw [cz 2 7 (by omega) (by omega), cm 2 7 (by omega) (by omega), fc2 7 (by omega)]
    · rw [cz 2 8 (by omega) (by omega), cm 2 8 (by omega) (by omega), fc2 8 (by omega)]
    · rw [cz 2 5 (by omega) (by omega)]; exact lG.1
    · rw [cz 2 6 (by omega) (by omega)]; exact lG.2.1
    · rw [cz _ s (by omega) (by omega)]; exact lG.2.2.1 s hs
    · rw [cz _ s (by omega) (by omega)]; exact lG.2.2.2 s hs
    · rw [cz 5 s (by omega) (by omega)]
      by_cases q : s < ns c r
      · rw [if_pos q]; exact lw s q
      · rw [if_neg q, lw0 s (by omega), Fc5.1 5 s (by omega), fc5 s hs]
    · rw [cz 6 v (by omega) (by omega), cm 6 v (by omega) (by omega), fc6 v hv]
    · rw [cz 7 v (by omega) (by omega), cm 7 v (by omega) (by omega), fc7 v hv]
    · rw [cz 8 g (by omega) (by omega), cm 8 g (by omega) (by omega), fc8 g hg]
    · rw [cz 1 12 (by omega) (by omega), cm 1 12 (by omega) (by omega), fc12]
  rcases s_sign2 (N := N) h2 hN with ⟨Mr9, k3, i4, i5, i6, i7, i8, i9, i10⟩ | ⟨Mc9, Mr9, k3, i4, i5, i6, i7, i8⟩
  · rw [if_pos (show nI (kn sz yb p7) = 3 by rw [k3]; rfl), i4]
    unfold gX6_needSign_20
    rw [e_b, if_pos (by decide)]
    have B4 : B.1 2 4 = 0 := by rw [n4 2 4 (by omega) (by omega) (by omega), ok4 4 (by omega), fr2 4 (by omega)]
    have m2k : ∀ k, k ≠ 4 → Mr9.1 2 k = B.1 2 k := fun k hk => by rw [i7, ub_ne hk]
    have m24 : Mr9.1 2 4 = 1 := by rw [i7, ub_eq, B4]; decide
    have hR : newR c r T E W (Mr9.1 2) := by
      refine ⟨⟨?_, ?_, ?_, ?_, m24, ?_⟩, fun v hv => ?_, fun v hv => ?_, fun g hg => ?_, fun s hs => ?_⟩
      · rw [m2k 0 (by omega), n4 2 0 (by omega) (by omega) (by omega), o0]
      · rw [m2k 1 (by omega), n4 2 1 (by omega) (by omega) (by omega), o1]
      · rw [m2k 2 (by omega), n4 2 2 (by omega) (by omega) (by omega), o2]
      · rw [m2k 3 (by omega), n4 2 3 (by omega) (by omega) (by omega), o3]
      · rw [m2k 5 (by omega), n4 2 5 (by omega) (by omega) (by omega), ok4 5 (by omega), fr2 5 (by omega)]
      · rw [m2k _ (by omega), n4 2 _ (by omega) (by omega) (by omega), ok4 _ (by omega), fr2 _ (by omega)]
      · rw [m2k _ (by omega), n4 2 _ (by omega) (by omega) (by omega), ok4 _ (by omega), fr2 _ (by omega)]
      · rw [m2k _ (by omega), n2 g hg]
      · rw [m2k _ (by omega)]
        by_cases q : s < ns c r
        · rw [if_pos q, n3 s q]
        · rw [if_neg q, n4 2 _ (by omega) (by omega) (by omega), ok4 _ (by omega), fr2 _ (by omega)]
    have dz := new_drf (Mr := Mr9) hsp d5.2 j5 b5.2 hnew hR ⟨by rw [i9 0 8 (by omega)]; exact n1.1, fun s hs => by rw [i9 6 _ (by omega), i9 6 _ (by omega)]; exact n1.2 s hs⟩ (by rw [i9 0 19 (by omega), n4 0 19 (by omega) (by omega) (by omega), oz 19 (by omega), fr19]) (by rw [i9 0 20 (by omega), n4 0 20 (by omega) (by omega) (by omega), oz 20 (by omega), fr20])
    refine Or.inl ⟨be sz yb p7, Z, Mr9, rfl, rfl, i5, (by omega), ?_, by rw [m24, fr2 4 (by omega)]; decide, Fz, r4F_tr FB i8, w11, w12, by rw [i10, n4 0 18 (by omega) (by omega) (by omega), oz 18 (by omega)]⟩
    rw [hnew.1.2.2.2.2.1]
    exact dz
  · rw [if_neg (show ¬ nI (kn sz yb p7) = 3 from fun z => k3 ((nI_eq (by omega) (show 3 < 2 ^ 31 by omega)).mp z)), i4, i5, e_b, if_pos q0, e_b, if_pos (by decide)]
    exact Or.inr ⟨Mc9, Mr9, rfl, rfl, i6, c4F_tr Fz (c4F_2 i7), r4F_tr FB i8⟩
end FI
