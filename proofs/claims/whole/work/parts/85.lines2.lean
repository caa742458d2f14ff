/-! the four lines -/
section L2
variable {N sz : Nat} {yb : Nat → Nat}
theorem y2_7 : (2 : Nat) = 2 := rfl
theorem lg8 : ∀ x y : Nat, True := fun _ _ => trivial
/-- a line that failed in the reference too -/
theorem lo3_f {p : Nat} {Mc Mr Mc1 Mr1 : sg_M} (h : fl2 Mc1 Mr1) (cF : c4F Mc Mc1) (rF : r4F Mr Mr1) : lo3 sz yb p Mc Mr (some (0, Mc1)) (gX11_readText_20 N 0 Mr1) := by
  obtain ⟨M2, e2, a1, a2, F2⟩ := rt_bad (N := N) h.2.2
  exact Or.inr ⟨Mc1, M2, rfl, e2, ⟨by rw [a1]; exact h.1, by rw [a2]; exact h.2.1, by rw [a1]; exact h.2.2⟩, cF, r4F_tr rF F2⟩
theorem fl_of {k : Int32} {Mc Mr : sg_M} (hk : ¬ k = 0) (h17 : Mr.1 0 17 = k) (h18 : Mr.1 0 18 = Mc.1 1 6) : fl2 (sg_uI (sg_uI Mc 1 1 k) 1 2 (Mc.1 1 6)) Mr := ⟨by rw [uI_nb (by omega), uI_eq, h17], by rw [uI_eq, h18], by rw [h17]; exact hk⟩
theorem vb_cr {f : Nat → Int32} (h : vb f) : (1 ≤ gC f ∧ gC f ≤ 9) ∧ (1 ≤ gR f ∧ gR f ≤ 9) ∧ gC f * gR f ≤ 9 := by
  have h1 := h.1.1
  have h2 := h.1.2.1
  have h3 := h.1.2.2
  have h4 : gC f * 1 ≤ gC f * gR f := Nat.mul_le_mul_left _ h2
  have h5 : 1 * gR f ≤ gC f * gR f := Nat.mul_le_mul_right _ h1
  omega
theorem drf_01 {f : Nat → Int32} {Mc Mr : sg_M} (h : drf f Mc Mr) : Mc.1 2 0 = nI (gC f) ∧ Mc.1 2 1 = nI (gR f) ∧ f 0 = nI (gC f) ∧ f 1 = nI (gR f) := ⟨by rw [h.2.1.1.1, vb_0 h.1], by rw [h.2.1.1.2.1, vb_1 h.1], vb_0 h.1, vb_1 h.1⟩
theorem in_v {c r x y : Nat} (hx : x < c) (hy : y < r) : y * c + x < c * r := by
  have h1 : (y + 1) * c ≤ r * c := Nat.mul_le_mul_right c (by omega)
  rw [Nat.add_mul, Nat.one_mul] at h1
  rw [Nat.mul_comm c r]
  omega
/-- what the reference does behind 'pad' -/
def rPad (N : Nat) (M14 : sg_M) : Option sg_M := sg_b (fX11_readPlace N 0 (M14.1 2 5) M14) (fun (x16 : Int32) (M15 : sg_M) => sg_m x16 (fun x17 : Int32 => sg_b (fX11_good N 0 M15) (fun (x19 : Int32) (M18 : sg_M) => if x19 = 0 then gX11_readLine_63 N M18 else sg_m (sg_uI M18 2 5 ((M18.1 2 5) ||| ((1 : Int32) <<< (x17 &&& 31)))) (fun M20 : sg_M => gX11_readLine_63 N M20))))
theorem l_pad {p : Nat} {Mc Mr : sg_M} (h : sim sz yb p Mc Mr) (hd : drf (Mr.1 2) Mc Mr) (hN : 1000 ≤ N) : lo3 sz yb p Mc Mr (fX6_readPad N 1 Mc) (sg_bv (rPad N Mr) (fun M => gX11_readText_20 N 0 M)) := by
  obtain ⟨hc, hr, hcr⟩ := vb_cr hd.1
  obtain ⟨d0, d1, d2, d3⟩ := drf_01 hd
  unfold fX6_readPad rPad gX11_readLine_63
  rw [y1_3]
  rcases s_place (N := N) (T := Mr.1 2 5) h d0 d1 d2 d3 hc hr hcr hN with ⟨x, y, p2, Mc1, Mr1, a1, a2, a3, a4, a5, a6, a7, a8, a9, a10, a11, a12, a13, a14⟩ | ⟨Mc1, z, Mr1, a1, a2, a3, a4, a5⟩ | ⟨x, y, Mc1, z, Mr1, a1, a2, a3, a4, a5, a6, a7, a8, a9, a10⟩
  · have hv := in_v a4 a5
    have c7 : Mc1.1 2 7 = Mr.1 2 5 := by rw [a10.1 2 7 (by omega)]; exact hd.2.1.1.2.2.2.2.2
    rw [a1, e_b, if_neg q1, a2, e_b, e_m, r_gd a3.2.2.2.2.2, e_b, if_neg q1, e_m, a8, c_pad c7 (by omega), e_b, if_neg (show ¬ bt (Mr.1 2 5) (y * gC (Mr.1 2) + x) = true by rw [a9]; decide), if_pos q0, e_m, e_bv, c7, a8, show Mr1.1 2 5 = Mr.1 2 5 from a11.1 2 5 (by omega)]
    have hP : ∀ u, u < 32 → bt (Mr.1 2 5 ||| bi (y * gC (Mr.1 2) + x)) u = true → u < gM (Mr.1 2) := or_P (vb_P hd.1) (bi_P hv (by unfold gM; omega))
    have vg := vb_pad hd.1 hP
    have eL : ∀ v, gL (ub (Mr.1 2) 5 (Mr.1 2 5 ||| bi (y * gC (Mr.1 2) + x))) v = gL (Mr.1 2) v := fun v => by unfold gL; rw [ub_ne (by omega)]
    have dc : drf (Mr.1 2) Mc1 Mr1 := drf_c hd (fun a k ha => a10.1 a k (by omega)) (fun a k ha => a11.1 a k (by omega))
    refine s_end (p := p2) (f := Mr.1 2) (g := ub (Mr.1 2) 5 (Mr.1 2 5 ||| bi (y * gC (Mr.1 2) + x))) (sim_1 a3 (fun a k ha => by rw [uI_na (by omega)]) (fun a k ha => by rw [uI_na (by omega)])) a12 ⟨vg, ?_, ?_, ?_, ?_, fun v hv2 => ?_, fun v hv2 z => ?_⟩ (ub_ne (by omega)) ?_ (c4F_tr (c4F_3 a10) (c4F_u (by omega))) (r4F_tr (r4F_1 a11) (r4F_u (by omega))) ⟨?_, ?_, ?_⟩ hN
    · exact cNet_up (i := 5) dc.2.1 (by omega) (by omega)
    · rw [uI_nb (by omega)]; exact dc.2.2.1
    · have e0 : gC (ub (Mr.1 2) 5 (Mr.1 2 5 ||| bi (y * gC (Mr.1 2) + x))) = gC (Mr.1 2) := by unfold gC; rw [ub_ne (by omega)]
      have e1 : gR (ub (Mr.1 2) 5 (Mr.1 2 5 ||| bi (y * gC (Mr.1 2) + x))) = gR (Mr.1 2) := by unfold gR; rw [ub_ne (by omega)]
      rw [e0, e1]
      exact ⟨by rw [uI_na (by omega)]; exact dc.2.2.2.1.1, fun s hs => by rw [uI_na (by omega), uI_na (by omega)]; exact dc.2.2.2.1.2 s hs⟩
    · rw [uI_na (by omega), uI_na (by omega)]; exact dc.2.2.2.2.1
    · rw [uI_na (by omega), eL]; exact dc.2.2.2.2.2.1 v hv2
    · rw [eL] at z; rw [ub_ne (by omega)]; exact dc.2.2.2.2.2.2 v hv2 z
    · have w : Mr1.1 2 = Mr.1 2 := funext fun k => a11.1 2 k (by omega)
      funext k
      rw [uI_at, w]
      unfold ub
      by_cases e : k = 5
      · rw [if_pos ⟨rfl, e⟩, if_pos e]; rfl
      · rw [if_neg (fun z => e z.2), if_neg e]
    · rw [uI_na (by omega), a13]
    · rw [uI_na (by omega), a14]
    · rw [uI_na (by omega), a11.1 0 18 (by omega)]
  · rw [a1, e_b, if_pos q0, a2, e_b, e_m, r_bd a3.2.2, e_b, if_pos q0, e_bv]
    exact lo3_f a3 (c4F_3 a4) (r4F_2 a5)
  · have hv := in_v a5 a6
    have c7 : Mc1.1 2 7 = Mr.1 2 5 := by rw [a9.1 2 7 (by omega)]; exact hd.2.1.1.2.2.2.2.2
    have ng : ¬ Mr1.1 0 17 = 0 := by rw [a3]; decide
    rw [a1, e_b, if_neg q1, a2, e_b, e_m, r_bd ng, e_b, if_pos q0, e_bv, a7, c_pad c7 (by omega), e_b, if_pos a8, if_neg q1, c_fail, e_b, if_pos (by decide)]
    exact lo3_f (fl_of (by decide) a3 a4) (c4F_tr (c4F_3 a9) (c4F_2 (c2F_tr (c2F_u (by omega)) (c2F_u (by omega))))) (r4F_2 a10)
theorem l_budget {p : Nat} {Mc Mr : sg_M} (h : sim sz yb p Mc Mr) (hd : drf (Mr.1 2) Mc Mr) (hN : 1000 ≤ N) : lo3 sz yb p Mc Mr (fX6_readBudget N 1 Mc) (sg_bv (fX11_readBudget N 0 Mr) (fun M => gX11_readText_20 N 0 M)) := by
  obtain ⟨w1, w2, w3, w4, w5, w6⟩ := id h
  have kb := kn_b (sz := sz) (yb := yb) (p := p)
  have b1 := be_b (yb := yb) w3
  have b2 := fi_b (yb := yb) w3
  unfold fX6_readBudget fX11_readBudget
  rw [r_gd w6, e_b, if_neg q1, w5.2.2.1]
  have bad42 : ∀ M : sg_M, ¬ M.1 0 17 = 0 → gX11_readBudget_42 N 0 M = some M := fun M hg => by
    unfold gX11_readBudget_42
    rw [r_takB hg, e_b, e_m, r_tolB hg (by omega), e_b, e_m, r_bd hg, e_b, if_pos q0]
  rcases s_num (N := N) (lo := 0) (hi := 3) h (by omega) (by omega) hN with ⟨k, p2, Mc1, Mr1, a1, a2, a3, a4, a5, a6, a7, a8, a9, a10, a11⟩ | ⟨Mc1, Mr1, a1, a2, a3, a4, a5, a6⟩
  · have a1 : fX6_needBounds N 1 0 3 Mc = some (1, Mc1) := a1
    have a2 : fX11_takes N 0 0 3 Mr = some (nI k, Mr1) := a2
    have t12 : Mc1.1 1 12 = Mr.1 0 19 := by rw [a6.1 1 12 (by omega)]; exact hd.2.2.2.2.1
    rw [a1, e_b, if_neg q1, a4, e_m, t12, if_pos (show nI (min (kn sz yb p) 4) = 2 by rw [a8]; rfl), w5.2.2.2 a8, Nat.min_eq_left (by omega), ← a9, if_neg (show ¬ (4 : Int32) ≤ nI k from (show ¬ nI 4 ≤ nI k from nI_ge (by omega) (by omega))), r_isOf (by omega), e_b]
    by_cases bz : bt (Mr.1 0 19) k = true
    · rw [if_pos ((bt_test1 (by omega)).mpr bz), if_pos bz, if_neg q1, c_fail, e_b, if_pos (by decide), r_errG w6, e_bv]
      have ng : ¬ (sg_uI (sg_uI Mr 0 17 2) 0 18 (Mr.1 0 14)).1 0 17 = 0 := by rw [uI_nb (by omega), uI_eq]; decide
      rw [bad42 _ ng, e_bv]
      exact lo3_f (fl_of (by decide) (by rw [uI_nb (by omega), uI_eq]) (by rw [uI_eq, a11, w5.1])) (c4F_tr (c4F_1 a6) (c4F_2 (c2F_tr (c2F_u (by omega)) (c2F_u (by omega))))) (r4F_2 (r2F_tr (r2F_u (by omega)) (r2F_u (by omega))))
    · rw [if_neg (fun z => bz ((bt_test1 (by omega)).mp z)), if_neg bz, if_pos q0, e_m]
      unfold gX11_readBudget_42
      rw [a2, e_b, e_m]
      have s3 : sim sz yb p2 (sg_uI Mc1 1 12 (Mr.1 0 19 ||| bi k)) Mr1 := sim_1 a3 (fun a j ha => by rw [uI_at, if_neg (by omega)]) (fun _ _ _ => rfl)
      show lo3 sz yb p Mc Mr (sg_b (fX6_needNumber N 1 15 0 999 (sg_uI Mc1 1 12 (Mr.1 0 19 ||| bi k))) _) _
      rcases s_told (N := N) (w := 15) (lo := 0) (hi := 999) s3 (by omega) (by omega) (by omega) hN with ⟨v, p3, Mc2, Mr2, c1, c2, c3, c4, c5, c6, c7, c8⟩ | ⟨Mc2, Mr2, c1, c2, c3, c4, c5⟩
      · have c1 : fX6_needNumber N 1 15 0 999 (sg_uI Mc1 1 12 (Mr.1 0 19 ||| bi k)) = some (1, Mc2) := c1
        have c2 : fX11_told N 0 15 0 999 Mr1 = some (nI v, Mr2) := c2
        have y214 : Yc.2.2.2 2 14 = 8 := by decide
        have yn8 : Yc.2.2.1 8 = 4 := by decide
        rw [c1, e_b, if_neg q1, c2, e_b, e_m, e_m, r_gd c3.2.2.2.2.2, e_b, if_neg q1, y1_3, y214, yn8, if_pos (show sg_ib (nI k) 4 = true from (ib_nI (by omega) (by omega))), nI_clamp (show k < 2 ^ 31 by omega), c4, yr_2, yl_2, k_24, if_pos (show sg_ib (nI (24 + k)) 40 = true from (ib_nI (by omega) (by omega))), nI_clamp (show 24 + k < 2 ^ 31 by omega), e_m, e_m, e_bv]
        have Fc : c4F Mc (sg_uI Mc2 8 k (nI v)) := c4F_tr (c4F_1 a6) (c4F_tr (c4F_u (by omega)) (c4F_tr (c4F_1 c6) (c4F_u (by omega))))
        have Fr1 : r1F Mr Mr2 := r1F_tr a7 c7
        have r19 : Mr2.1 0 19 = Mr.1 0 19 := Fr1.1 0 19 (by omega)
        have lk : lo1 (24 + k) = 6 ∧ lo2 (24 + k) = k := (show ∀ s, s < 4 → lo1 (24 + s) = 6 ∧ lo2 (24 + s) = s by decide) k (by omega)
        have eL : ∀ u, u < 9 → gL (ub (Mr.1 2) (24 + k) (nI v)) u = gL (Mr.1 2) u := fun u hu => by unfold gL; rw [ub_ne (by omega)]
        have cc : ∀ a j, (2 ≤ a ∧ a < 9) → Mc2.1 a j = Mc.1 a j := fun a j ha => by rw [c6.1 a j (by omega), uI_na (by omega), a6.1 a j (by omega)]
        rw [uI_na (show 0 ≠ 2 by decide), r19]
        refine s_end (p := p3) (f := Mr.1 2) (g := ub (Mr.1 2) (24 + k) (nI v)) (sim_1 c3 (fun a j ha => by rw [uI_na (by omega)]) (fun a j ha => by rw [uI_at, if_neg (by omega), uI_na (by omega)])) (by omega) ⟨vb_up hd.1 (by omega) ⟨fun z => by omega, fun _ z => by omega, fun _ => ⟨v, c5.2, rfl⟩⟩, ?_, ?_, ?_, ?_, fun u hu => ?_, fun u hu z => ?_⟩ (ub_ne (by omega)) ?_ Fc (r4F_tr (r4F_1 Fr1) (r4F_tr (r4F_u (by omega)) (r4F_u (by omega)))) ⟨?_, ?_, ?_⟩ hN
        · have := cNet_up (i := 24 + k) (x := nI v) (cNet_s (M1 := Mc2) hd.2.1 (fun a j g1 g2 => cc a j (by omega))) (by omega) (by omega)
          rw [lk.1, lk.2] at this
          exact this
        · rw [uI_na (by omega), cc 2 8 (by omega)]; exact hd.2.2.1
        · have e0 : gC (ub (Mr.1 2) (24 + k) (nI v)) = gC (Mr.1 2) := by unfold gC; rw [ub_ne (by omega)]
          have e1 : gR (ub (Mr.1 2) (24 + k) (nI v)) = gR (Mr.1 2) := by unfold gR; rw [ub_ne (by omega)]
          rw [e0, e1]
          exact ⟨by rw [uI_nb (by omega), uI_na (by omega), Fr1.1 0 8 (by omega)]; exact hd.2.2.2.1.1, fun s hs => by rw [uI_na (by omega), uI_na (by omega), uI_na (by omega), uI_na (by omega), Fr1.1 6 _ (by omega), Fr1.1 6 _ (by omega)]; exact hd.2.2.2.1.2 s hs⟩
        · rw [uI_na (by omega), c6.1 1 12 (by omega), uI_eq, uI_eq]; rfl
        · rw [uI_nb (by omega), uI_na (by omega), Fr1.1 0 20 (by omega), eL u hu]; exact hd.2.2.2.2.2.1 u hu
        · rw [eL u hu] at z; rw [ub_ne (by omega)]; exact hd.2.2.2.2.2.2 u hu z
        · have w : Mr2.1 2 = Mr.1 2 := funext fun j => Fr1.1 2 j (by omega)
          funext j
          rw [uI_na (by omega), uI_at, w]
          unfold ub
          by_cases e : j = 24 + k
          · rw [if_pos ⟨rfl, e⟩, if_pos e]
          · rw [if_neg (fun z => e z.2), if_neg e]
        · rw [uI_na (by omega), c6.1 1 1 (by omega), uI_nb (by omega), a6.1 1 1 (by omega)]
        · rw [uI_na (by omega), c6.1 1 2 (by omega), uI_nb (by omega), a6.1 1 2 (by omega)]
        · rw [uI_nb (by omega), uI_na (by omega), Fr1.1 0 18 (by omega)]
      · have c1 : fX6_needNumber N 1 15 0 999 (sg_uI Mc1 1 12 (Mr.1 0 19 ||| bi k)) = some (0, Mc2) := c1
        have c2 : fX11_told N 0 15 0 999 Mr1 = some (0, Mr2) := c2
        rw [c1, e_b, if_pos q0, c2, e_b, e_m, r_bd c3.2.2, e_b, if_pos q0, e_bv]
        exact lo3_f c3 (c4F_tr (c4F_1 a6) (c4F_tr (c4F_u (by omega)) (c4F_2 c4))) (r4F_2 (r2F_tr (r2F_1 a7) c5))
  · have a1 : fX6_needBounds N 1 0 3 Mc = some (0, Mc1) := a1
    have a2 : fX11_takes N 0 0 3 Mr = some (0, Mr1) := a2
    have g42 : gX11_readBudget_42 N 0 Mr = some Mr1 := by
      unfold gX11_readBudget_42
      rw [a2, e_b, e_m, r_tolB a3.2.2 (by omega), e_b, e_m, r_bd a3.2.2, e_b, if_pos q0]
    have outs : (if nI (min (kn sz yb p) 4) = 2 then (if (4 : Int32) ≤ Mr.1 0 16 then gX11_readBudget_42 N 0 Mr else sg_b (fX11_isOf N (Mr.1 0 19) (Mr.1 0 16) Mr) (fun (x14 : Int32) (M13 : sg_M) => if x14 = 0 then gX11_readBudget_42 N 0 M13 else sg_bv (fX11_errs N 0 2 M13) (fun M15 : sg_M => gX11_readBudget_42 N 0 M15))) else gX11_readBudget_42 N 0 Mr) = some Mr1 := by
      by_cases k2 : kn sz yb p = 2
      · rw [if_pos (show nI (min (kn sz yb p) 4) = 2 by rw [k2]; rfl), w5.2.2.2 k2, if_pos (show (4 : Int32) ≤ nI (min (tv sz yb p) 99999) from (show nI 4 ≤ nI (min (tv sz yb p) 99999) from nI_le (by omega) (by omega))), g42]
      · rw [if_neg (show ¬ nI (min (kn sz yb p) 4) = 2 from fun z => k2 (by have := (nI_eq (by omega) (show 2 < 2 ^ 31 by omega)).mp z; omega)), g42]
    rw [a1, e_b, if_pos q0]
    show lo3 sz yb p Mc Mr _ (sg_bv (if _ then _ else _) _)
    rw [outs, e_bv]
    exact lo3_f a3 (c4F_2 a4) (r4F_2 a5)
end L2
