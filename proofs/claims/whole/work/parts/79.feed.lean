/-! feed -/
def shf (c : Nat) : Int32 := 24 - 8 * nI c
theorem shf_n : ∀ c, c < 4 → shf c = nI (24 - 8 * c) ∧ ¬ shf c < 0 ∧ shf c + (-8) = shf (c + 1) := by decide
theorem shf_4 : shf 4 < 0 := by decide
def byc (x : Int32) (c : Nat) : Int32 := (x.toUInt32 >>> ((shf c).toUInt32 &&& Int32.toUInt32 31)).toInt32 &&& 255
theorem bt_8 (x : Int32) {i : Nat} (hi : i < 8) : bt x.toInt8.toInt32 i = bt x i := by
  show (x.toInt8.toInt32).toBitVec.getLsbD i = x.toBitVec.getLsbD i
  rw [Int8.toBitVec_toInt32, Int32.toBitVec_toInt8, BitVec.getLsbD_signExtend, decide_eq_true (show i < 32 by omega), Bool.true_and, if_pos hi, BitVec.getLsbD_signExtend, decide_eq_true hi, Bool.true_and, if_pos (show i < 32 by omega)]
theorem nar_8 (x : Int32) : vp_nar .byte x = x.toInt8.toInt32 := rfl
theorem byc_eq {x : Int32} {c : Nat} (hc : c < 4) : byc x c = vp_nar .byte ((x >>> ((24 - 8 * nI c) &&& 31)).toInt8.toInt32) &&& 255 := by
  apply b_ext
  intro i hi
  unfold byc
  rw [nar_8, show (24 : Int32) - 8 * nI c = shf c from rfl, (shf_n c hc).1, b_and, b_and, b_255]
  by_cases q : i < 8
  · rw [decide_eq_true q, Bool.and_true, Bool.and_true, b_ushr _ (by omega), bt_8 _ q, bt_8 _ q, b_sshr _ (by omega) _ hi, if_pos (by omega)]
  · rw [decide_eq_false q, Bool.and_false, Bool.and_false]
section FD
variable {N : Nat}
theorem y1_4 : Yc.2.2.2 1 4 = 12 := by decide
theorem y1_3 : Yc.2.2.2 1 3 = 2 := by decide
theorem yn_12 : Yc.2.2.1 12 = 700 := by decide
theorem putBytes_ok {x : Int32} {sz : Nat} {M : sg_M} (h0 : M.1 1 0 = nI sz) (hs : sz + 4 ≤ 700) (hN : 100 ≤ N) : ok (fX6_putBytes N 1 x M) (fun M1 => M1.1 1 0 = nI (sz + 4) ∧ (∀ c, c < 4 → M1.1 12 (sz + c) = byc x c) ∧ (∀ a k, (a ≠ 1 ∨ k ≠ 0) → (a ≠ 12 ∨ k < sz) → M1.1 a k = M.1 a k) ∧ M1.2 = M.2) := by
  unfold fX6_putBytes
  refine ok_m ?_
  unfold gX6_putBytes_3
  refine ok_for 0 4 (fun i s M1 => s = (1, x, shf i) ∧ M1.1 1 0 = nI (sz + i) ∧ (∀ c, c < i → M1.1 12 (sz + c) = byc x c) ∧ (∀ a k, (a ≠ 1 ∨ k ≠ 0) → (a ≠ 12 ∨ k < sz) → M1.1 a k = M.1 a k) ∧ M1.2 = M.2) (by omega) (by omega) ⟨rfl, h0, fun c hc => absurd hc (by omega), fun _ _ _ _ => rfl, rfl⟩ ?_ ?_
  · rintro i s M1 back hi ⟨rfl, g0, g1, g2, g3⟩ hb
    obtain ⟨-, n2, n3⟩ := shf_n i hi
    unfold bX6_putBytes_3
    dsimp only
    rw [g0, y1_4, yn_12, nI_clamp (show sz + i < 2 ^ 31 by omega), n3]
    refine ok_f n2 (ok_f (show ¬ nI 700 ≤ nI (sz + i) from nI_ge (by omega) (by omega)) (ok_t (ib_nI (by omega) (by omega)) (ok_m (ok_m (ok_m (hb _ _ ⟨rfl, ?_, fun c hc => ?_, fun a k h1 h2 => ?_, g3⟩))))))
    · rw [uI_eq, uI_na (by omega), g0, nI_1]; rfl
    · rw [uI_na (by omega)]
      by_cases q : c = i
      · subst q; rw [uI_eq]; rfl
      · rw [uI_nb (by omega), g1 c (by omega)]
    · rw [uI_at, if_neg (by omega), uI_at, if_neg (by omega), g2 a k h1 h2]
  · rintro s M1 back ⟨rfl, g0, g1, g2, g3⟩
    unfold bX6_putBytes_3
    dsimp only
    exact ok_t shf_4 (ok_some ⟨g0, g1, g2, g3⟩)
theorem dv4 : ∀ i, i < 20 → (nI i / 4 = nI (i / 4) ∧ nI i - nI (i / 4) * 4 = nI (i % 4)) := by decide
set_option maxHeartbeats 1000000 in
theorem d_feed {x1 x2 x3 x4 x5 : Int32} (hN : 1000 ≤ N) : dua (fX10_feed N 0 x1 x2 x3 x4 x5) (fX11_feed N 0 x1 x2 x3 x4 x5) := by
  intro Mc Mr hCR
  obtain ⟨⟨⟨sz, s1, s2, s3, s4⟩, h1, h2⟩, -⟩ := id hCR
  unfold fX10_feed fX11_feed
  rw [y0_0, s2, s3, show (20 : Int32) = nI 20 from rfl, nI_add]
  by_cases q : sz + 20 ≤ 700
  case neg =>
    have : ¬ nI (sz + 20) ≤ (700 : Int32) := show ¬ nI (sz + 20) ≤ nI 700 from nI_ge (by omega) (by omega)
    rw [if_neg this, if_neg this]
    exact ⟨_, _, _, rfl, rfl, hCR⟩
  have : nI (sz + 20) ≤ (700 : Int32) := show nI (sz + 20) ≤ nI 700 from nI_le q (by omega)
  rw [if_pos this, if_pos this]
  obtain ⟨M1, e1, a1, b1, c1, d1⟩ := putBytes_ok (N := N) (x := x1) s2 (by omega) (by omega)
  obtain ⟨M2, e2, a2, b2, c2, d2⟩ := putBytes_ok (N := N) (x := x2) a1 (by omega) (by omega)
  obtain ⟨M3, e3, a3, b3, c3, d3⟩ := putBytes_ok (N := N) (x := x3) a2 (by omega) (by omega)
  obtain ⟨M4, e4, a4, b4, c4, d4⟩ := putBytes_ok (N := N) (x := x4) a3 (by omega) (by omega)
  obtain ⟨M5, e5, a5, b5, c5, d5⟩ := putBytes_ok (N := N) (x := x5) a4 (by omega) (by omega)
  rw [e1, e_bv, e2, e_bv, e3, e_bv, e4, e_bv, e5, e_bv, a5]
  rw [yr_11, yl_8, c_0, c_1, c_2, c_3, c_4, if_pos (show sg_ib (0 : Int32) 5 = true by decide), e_m, if_pos (show sg_ib (1 : Int32) 5 = true by decide), e_m, if_pos (show sg_ib (2 : Int32) 5 = true by decide), e_m, if_pos (show sg_ib (3 : Int32) 5 = true by decide), e_m, if_pos (show sg_ib (4 : Int32) 5 = true by decide), e_m, e_m]
  obtain ⟨f, hf⟩ : ∃ f : Nat → Int32, f = fun a => if a = 0 then x1 else if a = 1 then x2 else if a = 2 then x3 else if a = 3 then x4 else x5 := ⟨_, rfl⟩
  have cb : ∀ a c, a < 5 → c < 4 → M5.1 12 (sz + (4 * a + c)) = byc (f a) c := fun a c ha hc => by
    rw [hf]
    obtain rfl | rfl | rfl | rfl | rfl : a = 0 ∨ a = 1 ∨ a = 2 ∨ a = 3 ∨ a = 4 := by omega
    · rw [c5 12 _ (by omega) (by omega), c4 12 _ (by omega) (by omega), c3 12 _ (by omega) (by omega), c2 12 _ (by omega) (by omega), show sz + (4 * 0 + c) = sz + c by omega, b1 c hc]; rfl
    · rw [c5 12 _ (by omega) (by omega), c4 12 _ (by omega) (by omega), c3 12 _ (by omega) (by omega), show sz + (4 * 1 + c) = sz + 4 + c by omega, b2 c hc]; rfl
    · rw [c5 12 _ (by omega) (by omega), c4 12 _ (by omega) (by omega), show sz + (4 * 2 + c) = sz + 4 + 4 + c by omega, b3 c hc]; rfl
    · rw [c5 12 _ (by omega) (by omega), show sz + (4 * 3 + c) = sz + 4 + 4 + 4 + c by omega, b4 c hc]; rfl
    · rw [show sz + (4 * 4 + c) = sz + 4 + 4 + 4 + 4 + c by omega, b5 c hc]; rfl
  have co : ∀ a k, (a ≠ 1 ∨ k ≠ 0) → (a ≠ 12 ∨ k < sz) → M5.1 a k = Mc.1 a k := fun a k g1 g2 => by rw [c5 a k g1 (by omega), c4 a k g1 (by omega), c3 a k g1 (by omega), c2 a k g1 (by omega), c1 a k g1 g2]
  have key : ok (gX11_feed_55 N (0, 0) (sg_uI (sg_uI (sg_uI (sg_uI (sg_uI Mr 8 0 x1) 8 1 x2) 8 2 x3) 8 3 x4) 8 4 x5)) (fun res => res.1 = nI (sz + 20) ∧ res.2.1 0 10 = nI (sz + 20) ∧ (∀ i, i < 20 → res.2.1 7 (sz + i) &&& 255 = byc (f (i / 4)) (i % 4) ∧ byR (res.2.1 7 (sz + i))) ∧ (∀ i, i < sz → res.2.1 7 i = Mr.1 7 i) ∧ ∀ a k, a ≠ 7 → a ≠ 8 → (a ≠ 0 ∨ k ≠ 10) → res.2.1 a k = Mr.1 a k) := by
    unfold gX11_feed_55
    refine ok_for 0 20 (fun i s M => s = (0, nI i) ∧ (∀ t, t < i → M.1 7 (sz + t) &&& 255 = byc (f (t / 4)) (t % 4) ∧ byR (M.1 7 (sz + t))) ∧ (∀ t, t < sz → M.1 7 t = Mr.1 7 t) ∧ (∀ t, t < 5 → M.1 8 t = f t) ∧ ∀ a k, a ≠ 7 → a ≠ 8 → M.1 a k = Mr.1 a k) (by omega) (by omega) ⟨rfl, fun t ht => absurd ht (by omega), fun t ht => by rw [uI_na (by omega), uI_na (by omega), uI_na (by omega), uI_na (by omega), uI_na (by omega)], fun t ht => ?_, fun a k g1 g2 => by rw [uI_na g2, uI_na g2, uI_na g2, uI_na g2, uI_na g2]⟩ ?_ ?_
    · rw [hf]
      obtain rfl | rfl | rfl | rfl | rfl : t = 0 ∨ t = 1 ∨ t = 2 ∨ t = 3 ∨ t = 4 := by omega
      · rw [uI_nb (by omega), uI_nb (by omega), uI_nb (by omega), uI_nb (by omega), uI_eq]; rfl
      · rw [uI_nb (by omega), uI_nb (by omega), uI_nb (by omega), uI_eq]; rfl
      · rw [uI_nb (by omega), uI_nb (by omega), uI_eq]; rfl
      · rw [uI_nb (by omega), uI_eq]; rfl
      · rw [uI_eq]; rfl
    · rintro i s M back hi ⟨rfl, g1, g2, g3, g4⟩ hb
      obtain ⟨v1, v2⟩ := dv4 i hi
      unfold bX11_feed_55
      dsimp only
      rw [v1, v2, yr_11, yl_8, yr_9, yl_7, g4 0 10 (by omega) (by omega), s3, nI_add, nI_clamp (show i / 4 < 2 ^ 31 by omega), nI_clamp (show sz + i < 2 ^ 31 by omega), g3 (i / 4) (by omega)]
      refine ok_f (show ¬ nI 20 ≤ nI i from nI_ge hi (by omega)) (ok_f (by decide) (ok_t (ib_nI (by omega) (by omega)) (ok_f (by decide) (ok_t (ib_nI (by omega) (by omega)) (ok_m (ok_m (hb _ _ ⟨by rw [nI_1], fun t ht => ?_, fun t ht => by rw [uI_nb (by omega), g2 t ht], fun t ht => by rw [uI_na (by omega), g3 t ht], fun a k h7 h8 => by rw [uI_na h7, g4 a k h7 h8]⟩)))))))
      by_cases q : t = i
      · subst q
        rw [uI_eq, byc_eq (by omega)]
        exact ⟨rfl, by unfold byR; rw [nar_8, Int8.toInt8_toInt32]⟩
      · rw [uI_nb (by omega)]; exact g1 t (by omega)
    · rintro s M back ⟨rfl, g1, g2, g3, g4⟩
      unfold bX11_feed_55
      dsimp only
      rw [g4 0 10 (by omega) (by omega), s3, show (20 : Int32) = nI 20 from rfl, nI_add]
      refine ok_t (nI_le (Nat.le_refl _) (by omega)) (ok_m (ok_some ⟨show (sg_uI M 0 10 (nI (sz + 20))).1 0 10 = nI (sz + 20) from uI_eq, uI_eq, fun i hi => by rw [uI_na (by omega)]; exact g1 i hi, fun i hi => by rw [uI_na (by omega), g2 i hi], fun a k h7 h8 h0 => by rw [uI_at, if_neg (by omega), g4 a k h7 h8]⟩))
  obtain ⟨⟨A, M9⟩, e9, k0, k1, k2, k3, k4⟩ := key
  have k0 : A = nI (sz + 20) := k0
  subst k0
  refine ⟨_, _, M9, rfl, e9, CR_sz hCR ⟨⟨sz + 20, q, a5, k1, fun i hi => ?_⟩, ?_, ?_⟩ (fun a k g1 g2 => co a k (by omega) (by omega)) (fun a k => by rw [d5, d4, d3, d2, d1]) (fun a k ha => k4 a k (by omega) (by omega) (by omega))⟩
  · by_cases w : i < sz
    · rw [co 12 i (by omega) (by omega), k3 i w]; exact s4 i w
    · obtain ⟨e, e2⟩ := k2 (i - sz) (by omega)
      rw [show sz + (i - sz) = i by omega] at e e2
      refine ⟨?_, e2⟩
      rw [e, ← cb ((i - sz) / 4) ((i - sz) % 4) (by omega) (by omega), Nat.div_add_mod, show sz + (i - sz) = i by omega]
  · rw [co 1 1 (by omega) (by omega), h1, k4 0 17 (by omega) (by omega) (by omega)]
  · rw [co 1 2 (by omega) (by omega), h2, k4 0 18 (by omega) (by omega) (by omega)]
end FD
