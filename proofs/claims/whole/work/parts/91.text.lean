/-! the text, line by line -/
section TX
variable {N sz : Nat} {yb : Nat → Nat}
theorem bv_id {o : Option sg_M} : sg_bv o (fun M => some M) = o := by cases o <;> rfl
theorem frs_c {Mc Mr Mc1 Mr1 : sg_M} (h : frs Mc Mr) (c : ∀ a k, ((2 ≤ a ∧ a < 9) ∨ (a = 1 ∧ k = 12)) → Mc1.1 a k = Mc.1 a k) (r : ∀ a k, (a = 2 ∨ (a = 0 ∧ 19 ≤ k)) → Mr1.1 a k = Mr.1 a k) : frs Mc1 Mr1 := by
  obtain ⟨fc2, fc5, fc6, fc7, fc8, fc12, fr2, fr19, fr20⟩ := h
  exact ⟨fun k hk => by rw [c 2 k (by omega), fc2 k hk], fun k hk => by rw [c 5 k (by omega), fc5 k hk], fun k hk => by rw [c 6 k (by omega), fc6 k hk], fun k hk => by rw [c 7 k (by omega), fc7 k hk], fun k hk => by rw [c 8 k (by omega), fc8 k hk], by rw [c 1 12 (by omega), fc12], fun k hk => by rw [r 2 k (by omega), fr2 k hk], by rw [r 0 19 (by omega), fr19], by rw [r 0 20 (by omega), fr20]⟩
theorem body_ok {p L : Nat} {Mc Mr : sg_M} (h : sim sz yb p Mc Mr) (h4 : Mr.1 2 4 = nI L) (hL : L ≤ p) (hd : (L = 0 ∧ frs Mc Mr) ∨ (1 ≤ L ∧ drf (Mr.1 2) Mc Mr)) (hN : 1000 ≤ N) : ∃ Mc0, c1F Mc Mc0 ∧ ((kn sz yb p = 0 ∧ ∀ back, bX6_readText_31 N back (1, 1, nI L) Mc = some (1, Mc0)) ∨ (¬ kn sz yb p = 0 ∧ ∃ pm Mrm rc rr, p ≤ pm ∧ r1F Mr Mrm ∧ lo4 sz yb pm Mc0 Mrm rc rr ∧ (∀ back, bX6_readText_31 N back (1, 1, nI L) Mc = sg_b rc (fun x M => gX6_readText_157 N back 1 x (nI L) M)) ∧ fX11_readText N 0 Mr = rr)) := by
  obtain ⟨Mc0, e1, s2, F1⟩ := s_step (N := N) h hN
  obtain ⟨g1, g2, g3, g4, g5, g6⟩ := id s2
  have s7 : sz ≤ 700 := g2.1
  have kb := kn_b (sz := sz) (yb := yb) (p := p)
  have b1 := be_b (yb := yb) g3
  have b2 := fi_b (yb := yb) g3
  have n7 : ¬ (700 : Int32) < nI L := (show ¬ nI 700 < nI L from nI_nlt (by omega) (by omega))
  have i4 : sg_ib (4 : Int32) 40 = true := by decide
  have head : ∀ back, bX6_readText_31 N back (1, 1, nI L) Mc = if Mc0.1 1 5 = 0 then some (1, Mc0) else if nI L = 0 then sg_b (fX6_isWord N 1 0 Mc0) (fun (x6 : Int32) (M5 : sg_M) => if x6 = 0 then sg_b (fX6_fail N 1 (1 : Int32) M5) (fun (x8 : Int32) (M7 : sg_M) => gX6_readText_80 N back 1 (nI L) x8 M7) else sg_b (fX6_readGrid N 1 M5) (fun (x10 : Int32) (M9 : sg_M) => gX6_readText_80 N back 1 (nI L) x10 M9)) else sg_b (fX6_isWord N 1 6 Mc0) (fun (x12 : Int32) (M11 : sg_M) => if x12 = 0 then sg_b (fX6_isWord N 1 10 M11) (fun (x14 : Int32) (M13 : sg_M) => if x14 = 0 then sg_b (fX6_isWord N 1 11 M13) (fun (x16 : Int32) (M15 : sg_M) => if x16 = 0 then sg_b (fX6_isWord N 1 14 M15) (fun (x18 : Int32) (M17 : sg_M) => if x18 = 0 then sg_b (fX6_fail N 1 (1 : Int32) M17) (fun (x20 : Int32) (M19 : sg_M) => gX6_readText_157 N back 1 x20 (nI L) M19) else sg_b (fX6_readBudget N 1 M17) (fun (x23 : Int32) (M22 : sg_M) => gX6_readText_157 N back 1 x23 (nI L) M22)) else sg_b (fX6_readLoad N 1 M15) (fun (x26 : Int32) (M25 : sg_M) => gX6_readText_157 N back 1 x26 (nI L) M25)) else sg_b (fX6_readPad N 1 M13) (fun (x29 : Int32) (M28 : sg_M) => gX6_readText_157 N back 1 x29 (nI L) M28)) else sg_b (fX6_readStrap N 1 M11) (fun (x32 : Int32) (M31 : sg_M) => gX6_readText_157 N back 1 x32 (nI L) M31)) := fun back => by
    unfold bX6_readText_31
    dsimp only
    rw [if_neg n7, if_neg q1, e1, e_bv]
    rfl
  refine ⟨Mc0, F1, ?_⟩
  by_cases k0 : kn sz yb p = 0
  · refine Or.inl ⟨k0, fun back => ?_⟩
    rw [head, g4.2.2.1, if_pos (show nI (kn sz yb p) = 0 by rw [k0]; rfl)]
  refine Or.inr ⟨k0, ?_⟩
  have hk : ¬ Mc0.1 1 5 = 0 := by rw [g4.2.2.1]; exact fun z => k0 ((nI_eq (by omega) (show 0 < 2 ^ 31 by omega)).mp z)
  have rt : fX11_readText N 0 Mr = if nI L = 0 then sg_bv (fX11_readFirst N 0 Mr) (fun M => gX11_readText_20 N 0 M) else sg_bv (fX11_readLine N 0 Mr) (fun M => gX11_readText_20 N 0 M) := by
    unfold fX11_readText
    rw [yr_2, yl_2, if_pos i4, c_4, h4]
  rcases hd with ⟨rfl, hf⟩ | ⟨hL1, hd⟩
  · have z0 : nI 0 = 0 := rfl
    have hf0 : frs Mc0 Mr := frs_c hf (fun a k ha => F1.1 a k (by omega)) (fun _ _ _ => rfl)
    by_cases w0 : wd sz yb 0 p = true
    · refine ⟨p, Mr, _, _, Nat.le_refl _, ⟨fun _ _ _ => rfl, rfl⟩, l_first1 s2 hf0 w0 hN, fun back => ?_, ?_⟩
      · rw [head, if_neg hk, if_pos z0, c_word g1 g3 g4 (show 0 < 16 by omega) (by omega), e_b, if_pos w0, if_neg q1]
        rfl
      · rw [rt, if_pos z0]
    · refine ⟨p, Mr, _, _, Nat.le_refl _, ⟨fun _ _ _ => rfl, rfl⟩, l_first0 s2 w0 hN, fun back => ?_, ?_⟩
      · rw [head, if_neg hk, if_pos z0, c_word g1 g3 g4 (show 0 < 16 by omega) (by omega), e_b, if_neg w0, if_pos q0]
        rfl
      · rw [rt, if_pos z0]
  have zn : ¬ nI L = 0 := fun z => by have := (nI_eq (by omega) (show 0 < 2 ^ 31 by omega)).mp z; omega
  obtain ⟨Mr2, x1, x2, x3⟩ := s_adv (N := N) s2 hN
  have m2 : Mr2.1 2 = Mr.1 2 := funext fun k => x3.1 2 k (by omega)
  have m4 : Mr2.1 2 4 = nI L := by rw [m2, h4]
  have dd : drf (Mr2.1 2) Mc0 Mr2 := by
    rw [m2]
    exact drf_c hd (fun i k hi => F1.1 i k (by omega)) (fun i k hi => x3.1 i k (by omega))
  have c6 := c_word (N := N) g1 g3 g4 (show 6 < 16 by omega) (by omega)
  have c10 := c_word (N := N) g1 g3 g4 (show 10 < 16 by omega) (by omega)
  have c11 := c_word (N := N) g1 g3 g4 (show 11 < 16 by omega) (by omega)
  have c14 := c_word (N := N) g1 g3 g4 (show 14 < 16 by omega) (by omega)
  have r6 := r_word (N := N) g2 g3 g5 g6 (show 6 < 16 by omega) (by omega)
  have r10 := r_word (N := N) g2 g3 g5 g6 (show 10 < 16 by omega) (by omega)
  have r11 := r_word (N := N) g2 g3 g5 g6 (show 11 < 16 by omega) (by omega)
  have r14 := r_word (N := N) g2 g3 g5 g6 (show 14 < 16 by omega) (by omega)
  by_cases w6 : wd sz yb 6 p = true
  · refine ⟨be sz yb p, Mr2, _, _, (by omega), x3, lo4_3 (l_strap x2 dd hN) m4 (by omega), fun back => ?_, ?_⟩
    · rw [head, if_neg hk, if_neg zn, c6, e_b, if_pos w6, if_neg q1]
    · rw [rt, if_neg zn]
      unfold fX11_readLine
      rw [r6, e_b, if_pos w6, if_neg q1, x1, e_bv, bv_id]
  by_cases w10 : wd sz yb 10 p = true
  · refine ⟨be sz yb p, Mr2, _, _, (by omega), x3, lo4_3 (l_pad x2 dd hN) m4 (by omega), fun back => ?_, ?_⟩
    · rw [head, if_neg hk, if_neg zn, c6, e_b, if_neg w6, if_pos q0, c10, e_b, if_pos w10, if_neg q1]
    · rw [rt, if_neg zn]
      unfold fX11_readLine
      rw [r6, e_b, if_neg w6, if_pos q0, r10, e_b, if_pos w10, if_neg q1, x1, e_bv, yr_2, yl_2, if_pos (show sg_ib (5 : Int32) 40 = true by decide), c_5]
      unfold rPad
      rfl
  by_cases w11 : wd sz yb 11 p = true
  · refine ⟨be sz yb p, Mr2, _, _, (by omega), x3, lo4_3 (l_load x2 dd hN) m4 (by omega), fun back => ?_, ?_⟩
    · rw [head, if_neg hk, if_neg zn, c6, e_b, if_neg w6, if_pos q0, c10, e_b, if_neg w10, if_pos q0, c11, e_b, if_pos w11, if_neg q1]
    · rw [rt, if_neg zn]
      unfold fX11_readLine
      rw [r6, e_b, if_neg w6, if_pos q0, r10, e_b, if_neg w10, if_pos q0, r11, e_b, if_pos w11, if_neg q1, x1, e_bv, bv_id]
  by_cases w14 : wd sz yb 14 p = true
  · refine ⟨be sz yb p, Mr2, _, _, (by omega), x3, lo4_3 (l_budget x2 dd hN) m4 (by omega), fun back => ?_, ?_⟩
    · rw [head, if_neg hk, if_neg zn, c6, e_b, if_neg w6, if_pos q0, c10, e_b, if_neg w10, if_pos q0, c11, e_b, if_neg w11, if_pos q0, c14, e_b, if_pos w14, if_neg q1]
    · rw [rt, if_neg zn]
      unfold fX11_readLine
      rw [r6, e_b, if_neg w6, if_pos q0, r10, e_b, if_neg w10, if_pos q0, r11, e_b, if_neg w11, if_pos q0, r14, e_b, if_pos w14, if_neg q1, x1, e_bv, bv_id]
  obtain ⟨Mc3, Mr3, y1, y2, y3, y4, y5⟩ := s_fail (N := N) (k := 1) s2 q1
  have lf : lo4 sz yb p Mc0 Mr (some (0, Mc3)) (gX11_readText_20 N 0 Mr3) := lo4_3 (lo3_f y3 (c4F_2 y4) (r4F_2 y5)) h4 (by omega)
  refine ⟨p, Mr, _, _, Nat.le_refl _, ⟨fun _ _ _ => rfl, rfl⟩, lf, fun back => ?_, ?_⟩
  · rw [head, if_neg hk, if_neg zn, c6, e_b, if_neg w6, if_pos q0, c10, e_b, if_neg w10, if_pos q0, c11, e_b, if_neg w11, if_pos q0, c14, e_b, if_neg w14, if_pos q0, y1]
  · rw [rt, if_neg zn]
    unfold fX11_readLine
    rw [r6, e_b, if_neg w6, if_pos q0, r10, e_b, if_neg w10, if_pos q0, r11, e_b, if_neg w11, if_pos q0, r14, e_b, if_neg w14, if_pos q0, y2, e_bv, e_bv]
/-- how a text comes out -/
def txo (Mc Mr : sg_M) (x : Int32) (Mc1 Mr1 : sg_M) : Prop := c4F Mc Mc1 ∧ r4F Mr Mr1 ∧ ((x = 1 ∧ Mr1.1 0 17 = 0 ∧ Mc1.1 1 1 = Mc.1 1 1 ∧ Mc1.1 1 2 = Mc.1 1 2 ∧ Mr1.1 0 18 = Mr.1 0 18 ∧ (frs Mc1 Mr1 ∨ drf (Mr1.1 2) Mc1 Mr1)) ∨ (x = 0 ∧ fl2 Mc1 Mr1))
theorem text_ok (hN : 1000 ≤ N) : ∀ (d n m p L : Nat) (Mc Mr : sg_M), sz - p ≤ d → d + 2 ≤ n → d + 2 ≤ m → sim sz yb p Mc Mr → Mr.1 2 4 = nI L → L ≤ p → ((L = 0 ∧ frs Mc Mr) ∨ (1 ≤ L ∧ drf (Mr.1 2) Mc Mr)) → ∃ x Mc1 Mr1, sg_lp (bX6_readText_31 N) n (1, 1, nI L) Mc = some (x, Mc1) ∧ sg_lp (bX11_grid_63 N) m 0 Mr = gX11_grid_84 N 0 Mr1 ∧ txo Mc Mr x Mc1 Mr1 := by
  intro d
  induction d with
  | zero => ?_
  | succ d ih => ?_
  all_goals
    intro n m p L Mc Mr hp hn hm h h4 hL hd
    obtain ⟨n, rfl⟩ : ∃ k, n = k + 1 := ⟨n - 1, (by omega)⟩
    obtain ⟨m, rfl⟩ : ∃ k, m = k + 1 := ⟨m - 1, (by omega)⟩
    obtain ⟨w1, w2, w3, w4, w5, w6⟩ := id h
    have kb := kn_b (sz := sz) (yb := yb) (p := p)
    have ek : nI (min (kn sz yb p) 4) = 0 ↔ kn sz yb p = 0 := ⟨fun z => by have := (nI_eq (by omega) (show 0 < 2 ^ 31 by omega)).mp z; omega, fun z => by rw [z]; rfl⟩
    have rd : sg_lp (bX11_grid_63 N) (m + 1) 0 Mr = if kn sz yb p = 0 then gX11_grid_84 N 0 Mr else sg_bv (fX11_readText N 0 Mr) (fun M9 : sg_M => sg_lp (bX11_grid_63 N) m 0 M9) := by
      show bX11_grid_63 N (sg_lp (bX11_grid_63 N) m) 0 Mr = _
      unfold bX11_grid_63
      rw [r_gd w6, e_b, if_neg q1, w5.2.2.1]
      by_cases z : kn sz yb p = 0
      · rw [if_pos (ek.mpr z), if_pos z]
      · rw [if_neg (fun q => z (ek.mp q)), if_neg z]
    obtain ⟨Mc0, F1, q⟩ := body_ok (N := N) h h4 hL hd hN
    have hc : sg_lp (bX6_readText_31 N) (n + 1) (1, 1, nI L) Mc = bX6_readText_31 N (sg_lp (bX6_readText_31 N) n) (1, 1, nI L) Mc := rfl
    rcases q with ⟨k0, hb⟩ | ⟨k0, pm, Mrm, rc, rr, hpm, Fm, lo, hb, ht⟩
    · refine ⟨1, Mc0, Mr, by rw [hc, hb], by rw [rd, if_pos k0], c4F_1 F1, ⟨fun _ _ _ => rfl, rfl⟩, Or.inl ⟨rfl, w6, F1.1 1 1 (by omega), F1.1 1 2 (by omega), rfl, ?_⟩⟩
      rcases hd with ⟨_, hf⟩ | ⟨_, hd⟩
      · exact Or.inl (frs_c hf (fun a k ha => F1.1 a k (by omega)) (fun _ _ _ => rfl))
      · exact Or.inr (drf_c hd (fun i k hi => F1.1 i k (by omega)) (fun _ _ _ => rfl))
    · rw [hc, hb, rd, if_neg k0, ht]
      rcases lo with ⟨p2, Mc1, Mr1, a1, a2, a3, a4, a5, a6, a7, a8, a9, a10, a11⟩ | ⟨Mc1, Mr1, a1, a2, a3, a4, a5⟩
      · have p2s : p2 ≤ sz := a3.2.2.1
        first
        | (exfalso; omega)
        | (rw [a1, a2, e_b, e_bv]
           unfold gX6_readText_157
           rw [y1_3, e_m, e_m, nI_1]
           obtain ⟨x, Mc2, Mr2, z1, z2, z3, z4, z5⟩ := ih n m p2 (L + 1) (sg_uI Mc1 2 4 (Mc1.1 2 4 + 1)) Mr1 (by omega) (by omega) (by omega) (sim_1 a3 (fun a k ha => by rw [uI_na (by omega)]) (fun _ _ _ => rfl)) (by rw [a6, Fm.1 2 4 (by omega), h4, nI_1]) (by omega) (Or.inr ⟨(by omega), a5⟩)
           refine ⟨x, Mc2, Mr2, z1, z2, c4F_tr (c4F_1 F1) (c4F_tr a7 (c4F_tr (c4F_u (by omega)) z3)), r4F_tr (r4F_1 Fm) (r4F_tr a8 z4), ?_⟩
           rcases z5 with ⟨y1, y2, y3, y4, y5, y6⟩ | z5
           · exact Or.inl ⟨y1, y2, by rw [y3, uI_na (by omega), a9, F1.1 1 1 (by omega)], by rw [y4, uI_na (by omega), a10, F1.1 1 2 (by omega)], by rw [y5, a11, Fm.1 0 18 (by omega)], y6⟩
           · exact Or.inr z5)
      · rw [a1, a2, e_b, e_bv]
        unfold gX6_readText_157
        rw [y1_3, e_m, e_m, nI_1]
        obtain ⟨n, rfl⟩ : ∃ k, n = k + 1 := ⟨n - 1, (by omega)⟩
        obtain ⟨m, rfl⟩ : ∃ k, m = k + 1 := ⟨m - 1, (by omega)⟩
        refine ⟨0, sg_uI Mc1 2 4 (Mc1.1 2 4 + 1), Mr1, ?_, ?_, c4F_tr (c4F_1 F1) (c4F_tr a4 (c4F_u (by omega))), r4F_tr (r4F_1 Fm) a5, Or.inr ⟨rfl, by rw [uI_na (by omega)]; exact a3.1, by rw [uI_na (by omega)]; exact a3.2.1, a3.2.2⟩⟩
        · show bX6_readText_31 N (sg_lp (bX6_readText_31 N) n) (1, 0, nI (L + 1)) _ = _
          unfold bX6_readText_31
          dsimp only
          have bz : sg_bz (0 : Int32) = true := by decide
          by_cases w : (700 : Int32) < nI (L + 1)
          · rw [if_pos w, if_pos bz]
          · rw [if_neg w, if_pos q0, if_pos bz]
        · show bX11_grid_63 N (sg_lp (bX11_grid_63 N) m) 0 Mr1 = _
          unfold bX11_grid_63
          rw [r_bd a3.2.2, e_b, if_pos q0]
end TX
