/-! undo, anew, did, image, back, count, fault, end, feed -/
def hB (B : Nat → Nat → Int32) (n : Nat) (T K S A : Nat → Int32) : Prop := ∀ i, i < n → vb (B i) ∧ (∀ k, k < 40 → T (42 * i + k) = B i k) ∧ K i = T (42 * i + 40) ∧ A i = T (42 * i + 41) ∧ unA (K i) (S i) (A i) (B i) (B (i + 1))
theorem hB_le {B : Nat → Nat → Int32} {n m : Nat} {T K S A : Nat → Int32} (h : hB B n T K S A) (hm : m ≤ n) : hB B m T K S A := fun i hi => h i (by omega)
theorem unA_hi {k s a : Int32} {d e : Nat → Int32} (he : vb e) (h : unA k s a d e) {j : Nat} (hj : 40 ≤ j) : d j = e j := by
  have hn := vb_n he
  have hm := vb_m he
  rcases h with ⟨-, t, ht, -, rfl⟩ | ⟨-, v, hv, -, rfl⟩ | ⟨-, v, hv, -, rfl⟩ | ⟨-, rfl⟩
  · exact ub_ne (by omega)
  · exact ub_ne (by omega)
  · exact ub_ne (by omega)
  · exact if_neg (by omega)
section C6
variable {N : Nat}
theorem takeBack_ok {B : Nat → Nat → Int32} {m : Nat} {T : Nat → Int32} {M : sg_M} (hv : vb (B (m + 1))) (hc : cNet 13 (B (m + 1)) M) (h8 : M.1 13 8 = nI (m + 1)) (hm : m < 20) (hH : hB B (m + 1) T (M.1 20) (M.1 21) (M.1 22)) (hN : 1000 ≤ N) : ok (fX4_takeBack N 13 M) (fun M1 => cNet 13 (B m) M1 ∧ M1.1 13 8 = nI m ∧ ∀ x j, (x < 13 ∨ 20 ≤ x) → M1.1 x j = M.1 x j) := by
  obtain ⟨g1, g2, g3, g4, g5⟩ := hH m (by omega)
  have hn := vb_n hv
  have hmm := vb_m hv
  unfold fX4_takeBack
  rw [h8, y13_15, y13_16, y13_17, y13_11, yn_16, yn_20, yn_21, yn_22]
  refine ok_f (fun z => by have := (nI_z (by omega)).mp z; omega) ?_
  rw [nI_dec (by omega), Nat.add_sub_cancel]
  refine ok_m ?_
  have u3 : ∀ x j, (x ≠ 13 ∨ j ≠ 8) → (sg_uI M 13 8 (nI m)).1 x j = M.1 x j := fun x j hx => by rw [uI_at, if_neg (by omega)]
  rw [uI_eq, nI_clamp (show m < 2 ^ 31 by omega), u3 20 m (by omega), u3 21 m (by omega), u3 22 m (by omega), u3 13 6 (by omega), show M.1 13 6 = nI (gS (B (m + 1))) from (cNet_G hc).2.1]
  refine ok_t (ib_nI (by omega) (by omega)) (ok_m (ok_t (ib_nI (by omega) (by omega)) ?_))
  have t92 : (M.1 20 m = 1 ∨ M.1 20 m = 2) → ok (gX4_takeBack_92 N 13 (M.1 21 m) (sg_uI M 13 8 (nI m))) (fun M1 => cNet 13 (B m) M1 ∧ M1.1 13 8 = nI m ∧ ∀ x j, (x < 13 ∨ 20 ≤ x) → M1.1 x j = M.1 x j) := fun hk => by
    unfold gX4_takeBack_92
    rw [y13_15, y13_17, y13_12, yn_17, yn_20, yn_22, uI_eq, nI_clamp (show m < 2 ^ 31 by omega), u3 20 m (by omega), u3 22 m (by omega), u3 13 7 (by omega), u3 13 5 (by omega), show M.1 13 5 = nI (gM (B (m + 1))) from (cNet_G hc).1, hc.1.2.2.2.2.2]
    rcases g5 with ⟨k0, -⟩ | ⟨k0, v, hv2, sv, ed⟩ | ⟨k0, v, hv2, sv, ed⟩ | ⟨k0, -⟩
    · rw [k0] at hk; exact absurd hk (by decide)
    · rw [k0, sv]
      refine ok_t (ib_nI (by omega) (by omega)) (ok_t rfl (ok_m (ok_some ⟨?_, ?_, fun x j hx => ?_⟩)))
      · rw [ed]
        exact cNet_pad hc uI_eq (fun a k q1 q2 q3 => by rw [uI_at, if_neg (by omega), u3 a k (by omega)])
      · rw [uI_nb (by omega), uI_eq]
      · rw [uI_na (by omega), u3 x j (by omega)]
    · rw [k0, sv, nI_clamp (show v < 2 ^ 31 by omega)]
      refine ok_t (ib_nI (by omega) (by omega)) (ok_f (by decide) (ok_t (ib_nI (by omega) (by omega)) (ok_t rfl (ok_f (nI_ge hv2 (by omega)) (ok_t (ib_nI (by omega) (by omega)) (ok_t (ib_nI (by omega) (by omega)) (ok_m (ok_some ⟨?_, ?_, fun x j hx => ?_⟩))))))))
      · rw [ed]
        refine cNet_loa hc (fun k hk => ub_ne (by omega)) (fun r hr => ?_) (fun a k q1 q2 q3 q4 => by rw [uI_na q3, u3 a k (by omega)])
        by_cases q : r = v
        · subst q; rw [ub_eq]; exact uI_eq
        · rw [ub_ne (by omega), uI_nb q, u3 _ r (by omega)]; exact hc.2.2.2.1 r hr
      · rw [uI_na (by omega), uI_eq]
      · rw [uI_na (by omega), u3 x j (by omega)]
    · rw [k0] at hk; exact absurd hk (by decide)
  rcases id g5 with ⟨k0, t, ht, st, ed⟩ | ⟨k0, -⟩ | ⟨k0, -⟩ | ⟨k0, ed⟩
  · rw [k0, st]
    refine ok_f (by decide) (ok_t (ib_nI (by omega) (by omega)) (ok_t rfl (ok_f (nI_ge ht (by omega)) ?_)))
    rw [nI_clamp (show t < 2 ^ 31 by omega)]
    refine ok_t (ib_nI (by omega) (by omega)) (ok_t (ib_nI (by omega) (by omega)) (ok_m (ok_some ⟨?_, ?_, fun x j hx => ?_⟩)))
    · rw [ed]
      refine cNet_wid hc (fun k hk => ub_ne (by omega)) (fun r hr => ?_) (fun a k q1 q2 q3 q4 => by rw [uI_na q3, u3 a k (by omega)])
      by_cases q : r = t
      · subst q; rw [ub_eq]; exact uI_eq
      · rw [ub_ne (by omega), uI_nb q, u3 _ r (by omega)]; exact hc.2.2.1 r hr
    · rw [uI_na (by omega), uI_eq]
    · rw [uI_na (by omega), u3 x j (by omega)]
  · have := t92 (Or.inl k0)
    rw [k0]
    exact ok_f (by decide) (ok_t (ib_nI (by omega) (by omega)) (ok_f (by decide) this))
  · have := t92 (Or.inr k0)
    rw [k0]
    exact ok_f (by decide) (ok_t (ib_nI (by omega) (by omega)) (ok_f (by decide) this))
  · rw [k0]
    refine ok_t rfl (ok_bv (shift_ok (N := N) (q := 13) (a := 16) (S := gS (B (m + 1))) yn_16 (by rw [u3 13 6 (by omega)]; exact (cNet_G hc).2.1) hn (by omega) (by omega)) (fun M2 g => ok_some ⟨?_, ?_, fun x j hx => ?_⟩))
    · rw [ed]
      refine cNet_wid hc (fun k hk => if_neg (by omega)) (fun r hr => ?_) (fun a k q1 q2 q3 q4 => by rw [g.2.1 a k q3, u3 a k (by omega)])
      show M2.1 16 r = _
      rw [g.2.2 r, u3 16 r (by omega), hc.2.2.1 r hr]
      have e28 : 28 + r - 28 = r := by omega
      rw [e28]
      by_cases q : r < gS (B (m + 1)) ∧ bt (M.1 21 m) r = true
      · rw [if_pos q, if_pos ⟨(by omega), (by omega), q.2⟩]
      · rw [if_neg q, if_neg (fun z => q ⟨(by omega), z.2.2⟩)]
    · rw [g.2.1 13 8 (by omega), uI_eq]
    · rw [g.2.1 x j (by omega), u3 x j (by omega)]
theorem takesBack_ok {B : Nat → Nat → Int32} {m : Nat} {M : sg_M} (h4 : M.1 0 4 = nI (m + 1)) (hm : m < 20) (hT : ∀ k, k < 40 → M.1 3 (42 * m + k) = B m k) (hz : ∀ k, 40 ≤ k → M.1 1 k = B m k) (hN : 100 ≤ N) : ok (fX11_takesBack N 0 M) (fun M1 => M1.1 1 = B m ∧ M1.1 0 4 = nI m ∧ ∀ x j, x ≠ 1 → (x ≠ 0 ∨ j ≠ 4) → M1.1 x j = M.1 x j) := by
  have km : ∀ i, (42 : Int32) * nI i = nI (42 * i) := fun i => nI_mul 42 i
  unfold fX11_takesBack
  rw [h4, nI_dec (by omega), Nat.add_sub_cancel]
  refine ok_m (ok_m ?_)
  unfold gX11_takesBack_12
  refine ok_for 0 40 (fun i s M1 => s = (0, nI i) ∧ (∀ k, (k < i ∨ 40 ≤ k) → M1.1 1 k = B m k) ∧ M1.1 0 4 = nI m ∧ ∀ x j, x ≠ 1 → (x ≠ 0 ∨ j ≠ 4) → M1.1 x j = M.1 x j) (by omega) (by omega) ⟨rfl, fun k hk => by rw [uI_na (by omega), hz k (by omega)], uI_eq, fun x j h1 h2 => by rw [uI_at, if_neg (by omega)]⟩ ?_ ?_
  · rintro i s M1 back hi ⟨rfl, g1, g2, g3⟩ hb
    unfold bX11_takesBack_12
    dsimp only
    rw [yr_1, yl_1, yr_3, yl_3, g2, km, nI_add, nI_clamp (show i < 2 ^ 31 by omega), nI_clamp (show 42 * m + i < 2 ^ 31 by omega), nI_1]
    refine ok_f (show ¬ nI 40 ≤ nI i from nI_ge hi (by omega)) (ok_t (ib_nI (by omega) (by omega)) (ok_t (ib_nI (by omega) (by omega)) (ok_m (ok_m (hb _ _ ⟨rfl, fun k hk => ?_, by rw [uI_na (by omega), g2], fun x j h1 h2 => by rw [uI_na h1, g3 x j h1 h2]⟩)))))
    by_cases q : k = i
    · subst q; rw [uI_eq, g3 3 _ (by omega) (by omega), hT k (by omega)]
    · rw [uI_nb q, g1 k (by omega)]
  · rintro s M1 back ⟨rfl, g1, g2, g3⟩
    unfold bX11_takesBack_12
    dsimp only
    exact ok_t (by decide) (ok_some ⟨funext fun k => g1 k (by omega), g2, g3⟩)
/-- the reference's other places, after taking back -/
theorem CR_back {B : Nat → Nat → Int32} {m : Nat} {Mc Mr Mc1 Mc2 Mr1 : sg_M} (hR : rdr Mc Mr) (hI : imgs Mc Mr) (hz : ∀ j, 40 ≤ j → B m j = 0) (hv : vb (B m)) (hm : m ≤ 20) (hH : hB B m (Mr.1 3) (Mc.1 20) (Mc.1 21) (Mc.1 22)) (c1 : cNet 13 (B m) Mc1) (c8 : Mc1.1 13 8 = nI m) (cF : ∀ x j, (x < 13 ∨ 20 ≤ x) → Mc1.1 x j = Mc.1 x j) (cc : ∀ b, caches b Mc2) (l2 : low Mc1 Mc2) (w1 : Mr1.1 1 = B m) (r4 : Mr1.1 0 4 = nI m) (rF : ∀ x j, x ≠ 1 → (x ≠ 0 ∨ j ≠ 4) → Mr1.1 x j = Mr.1 x j) : CR Mc2 Mr1 := by
  have cl : ∀ x j, (x < 13 ∨ 20 ≤ x) → x < 55 → (x ≠ 0 ∨ j ≠ 5) → Mc2.1 x j = Mc.1 x j := fun x j g1 g2 g3 => by rw [l2 x j g2 g3, cF x j g1]
  refine ⟨rdr_c hR (fun j hj => cl 1 j (by omega) (by omega) (by omega)) (fun j => cl 12 j (by omega) (by omega) (by omega)) ⟨rF 0 10 (by omega) (by omega), rF 0 17 (by omega) (by omega), rF 0 18 (by omega) (by omega)⟩ (funext fun j => rF 7 j (by omega) (by omega)), imgs_c hI (fun x j g1 g2 => cl x j (by omega) g2 (by omega)) (funext fun j => rF 4 j (by omega) (by omega)) (funext fun j => rF 5 j (by omega) (by omega)), fun j hj => by rw [w1, hz j hj], m, r4, Or.inl ⟨?_, by rw [w1]; exact cc _⟩⟩
  rw [w1, show Mr1.1 3 = Mr.1 3 from funext fun j => rF 3 j (by omega) (by omega)]
  refine ⟨hv, cNet_c c1 (fun a k g1 g2 g3 => l2 a k (by omega) (by omega)), by rw [l2 13 8 (by omega) (by omega), c8], hm, B, rfl, fun i hi => ?_⟩
  show _ ∧ _ ∧ Mc2.1 20 i = _ ∧ Mc2.1 22 i = _ ∧ unA (Mc2.1 20 i) (Mc2.1 21 i) (Mc2.1 22 i) _ _
  rw [cl 20 i (by omega) (by omega) (by omega), cl 21 i (by omega) (by omega) (by omega), cl 22 i (by omega) (by omega) (by omega)]
  exact hH i hi
theorem B_hi {B : Nat → Nat → Int32} {n : Nat} {T K S A : Nat → Int32} (h : hB B n T K S A) (hv : vb (B n)) (hz : ∀ j, 40 ≤ j → B n j = 0) : ∀ t, t ≤ n → vb (B (n - t)) ∧ ∀ j, 40 ≤ j → B (n - t) j = 0 := by
  intro t
  induction t with
  | zero => intro _; exact ⟨hv, hz⟩
  | succ t ih =>
    intro ht
    obtain ⟨i1, i2⟩ := ih (by omega)
    obtain ⟨g1, g2, g3, g4, g5⟩ := h (n - (t + 1)) (by omega)
    rw [show n - (t + 1) + 1 = n - t by omega] at g5
    exact ⟨g1, fun j hj => by rw [unA_hi i1 g5 hj, i2 j hj]⟩
theorem d_undo (hN : 1000 ≤ N) : dua (fX10_undo N 0) (fX11_undo N 0) := by
  intro Mc Mr hCR
  obtain ⟨hR, hI, hz, n, h4, hD⟩ := id hCR
  rcases hD with ⟨hG, hC⟩ | ⟨hG, hC⟩
  case inr =>
    unfold fX10_undo fX11_undo
    rw [n_ng hG.1, rn_grd hG.2.1, e_b, e_b, if_neg q1, if_pos q0]
    exact ⟨_, _, _, rfl, rfl, hCR⟩
  have h := hG.1
  obtain ⟨-, hcN, h8, n20, B, eB, hH⟩ := id hG
  have hc : cI (Mr.1 1) Mc := ⟨hG.1, hG.2.1, hC⟩
  unfold fX10_undo fX11_undo
  rw [c_ng hc, r_grd h rfl, e_b, e_b, if_pos q0, if_neg q1, y0_1, h8, h4]
  cases n with
  | zero =>
    rw [if_pos (show nI 0 = 0 from rfl), if_pos (show nI 0 = 0 from rfl)]
    exact ⟨_, _, _, rfl, rfl, hCR⟩
  | succ m =>
    have nz : ¬ nI (m + 1) = 0 := fun z => by have := (nI_z (by omega)).mp z; omega
    rw [if_neg nz, if_neg nz]
    have hvB : vb (B (m + 1)) := by rw [eB]; exact h
    have hzB : ∀ j, 40 ≤ j → B (m + 1) j = 0 := fun j hj => by rw [eB, hz j hj]
    obtain ⟨b1, b2⟩ := B_hi hH hvB hzB 1 (by omega)
    rw [Nat.add_sub_cancel] at b1 b2
    obtain ⟨M1, e1, c1, c8, cF⟩ := takeBack_ok (N := N) (B := B) hvB (by rw [eB]; exact hcN) h8 (by omega) hH hN
    obtain ⟨M2, e2, cc, l2, -⟩ := forget_ok (N := N) (M := M1) (by omega)
    obtain ⟨M3, e3, w3, r4, rF⟩ := takesBack_ok (N := N) (B := B) h4 (by omega) (hH m (by omega)).2.1 (fun k hk => by rw [hz k hk, b2 k hk]) (by omega)
    rw [e1, e_bv, e2, e_bv, e3, e_bv, l2 13 8 (by omega) (by omega), c8, r4]
    exact ⟨_, _, _, rfl, rfl, CR_back (B := B) hR hI b2 b1 (by omega) (hB_le hH (by omega)) c1 c8 cF cc l2 w3 r4 rF⟩
theorem d_anew (hN : 1000 ≤ N) : dua (fX10_anew N 0) (fX11_anew N 0) := by
  intro Mc Mr hCR
  obtain ⟨hR, hI, hz, n, h4, hD⟩ := id hCR
  rcases hD with ⟨hG, hC⟩ | ⟨hG, hC⟩
  case inr =>
    unfold fX10_anew fX11_anew
    rw [n_ng hG.1, rn_grd hG.2.1, e_b, e_b, if_neg q1, if_pos q0]
    exact ⟨_, _, _, rfl, rfl, hCR⟩
  have h := hG.1
  obtain ⟨-, hcN, h8, n20, B, eB, hH⟩ := id hG
  have hc : cI (Mr.1 1) Mc := ⟨hG.1, hG.2.1, hC⟩
  have hvB : vb (B n) := by rw [eB]; exact h
  have hzB : ∀ j, 40 ≤ j → B n j = 0 := fun j hj => by rw [eB, hz j hj]
  have bh := B_hi hH hvB hzB
  unfold fX10_anew fX11_anew
  rw [c_ng hc, r_grd h rfl, e_b, e_b, if_pos q0, if_neg q1, y0_1, h8, h4, e_m, e_m, e_m]
  have kc : ok (gX10_anew_20 N (0, nI n, 0) Mc) (fun res => res.1 = nI n ∧ ∃ M1, cNet 13 (B 0) M1 ∧ M1.1 13 8 = nI 0 ∧ (∀ x j, (x < 13 ∨ 20 ≤ x) → M1.1 x j = Mc.1 x j) ∧ (∀ b, caches b res.2) ∧ low M1 res.2) := by
    unfold gX10_anew_20
    refine ok_for 0 n (fun i s M => s = (0, nI n, nI i) ∧ cNet 13 (B (n - i)) M ∧ M.1 13 8 = nI (n - i) ∧ ∀ x j, (x < 13 ∨ 20 ≤ x) → M.1 x j = Mc.1 x j) (by omega) (by omega) ⟨rfl, by rw [Nat.sub_zero, eB]; exact hcN, by rw [Nat.sub_zero, h8], fun _ _ _ => rfl⟩ ?_ ?_
    · rintro i s M back hi ⟨rfl, g1, g2, g3⟩ hb
      unfold bX10_anew_20
      dsimp only
      have en : n - i = n - (i + 1) + 1 := by omega
      rw [y0_1, nI_1]
      rw [en] at g1 g2
      refine ok_f (nI_ge hi (by omega)) (ok_bv (takeBack_ok (N := N) (B := B) (T := Mr.1 3) (by rw [← en]; exact (bh i (by omega)).1) g1 g2 (by omega) (fun t ht => ?_) hN) (fun M2 g => ok_m (hb _ _ ⟨rfl, g.1, g.2.1, fun x j hx => by rw [g.2.2 x j hx, g3 x j hx]⟩)))
      rw [g3 20 t (by omega), g3 21 t (by omega), g3 22 t (by omega)]
      exact hH t (by omega)
    · rintro s M back ⟨rfl, g1, g2, g3⟩
      rw [Nat.sub_self] at g1 g2
      unfold bX10_anew_20
      dsimp only
      exact ok_t (nI_le (Nat.le_refl _) (by omega)) (ok_bv (forget_ok (N := N) (M := M) (by omega)) (fun M2 g => ok_some ⟨rfl, M, g1, g2, g3, g.1, g.2.1⟩))
  have kr : ok (gX11_anew_15 N (0, nI n) Mr) (fun res => res.1 = nI n ∧ res.2.1 1 = B 0 ∧ res.2.1 0 4 = nI 0 ∧ ∀ x j, x ≠ 1 → (x ≠ 0 ∨ j ≠ 4) → res.2.1 x j = Mr.1 x j) := by
    unfold gX11_anew_15
    refine ok_lp (fun m s M => m ≤ n ∧ s = (0, nI n) ∧ M.1 1 = B m ∧ M.1 0 4 = nI m ∧ ∀ x j, x ≠ 1 → (x ≠ 0 ∨ j ≠ 4) → M.1 x j = Mr.1 x j) ?_ N n _ Mr ⟨Nat.le_refl _, rfl, eB.symm, h4, fun _ _ _ _ => rfl⟩ (by omega)
    rintro m s M back ⟨hm, rfl, g1, g2, g3⟩ hb
    unfold bX11_anew_15
    dsimp only
    rw [g2]
    cases m with
    | zero => exact ok_t (by decide) (ok_some ⟨rfl, g1, g2, g3⟩)
    | succ m =>
      have e1 := bh (n - (m + 1)) (by omega)
      have e2 := bh (n - m) (by omega)
      rw [show n - (n - (m + 1)) = m + 1 by omega] at e1
      rw [show n - (n - m) = m by omega] at e2
      refine ok_f (fun z => by have := (nI_le0 (by omega)).mp z; omega) (ok_bv (takesBack_ok (N := N) (B := B) g2 (by omega) (fun k hk => by rw [g3 3 _ (by omega) (by omega)]; exact (hH m (by omega)).2.1 k hk) (fun k hk => by rw [g1, e1.2 k hk, e2.2 k hk]) (by omega)) (fun M2 g => hb m _ _ (by omega) ⟨(by omega), rfl, g.1, g.2.1, fun x j h1 h2 => by rw [g.2.2 x j h1 h2, g3 x j h1 h2]⟩))
  obtain ⟨⟨A, M2⟩, e2, a2, M1, c1, c8, cF, cc, l2⟩ := kc
  obtain ⟨⟨A3, M3⟩, e3, a3, w3, r4, rF⟩ := kr
  have a2 : A = nI n := a2
  have a3 : A3 = nI n := a3
  subst a2
  subst a3
  have e0 := bh n (Nat.le_refl _)
  rw [Nat.sub_self] at e0
  exact ⟨_, _, _, e2, e3, CR_back (B := B) hR hI e0.2 e0.1 (by omega) (hB_le hH (by omega)) c1 c8 cF cc l2 w3 r4 rF⟩
def dcn (K A : Nat → Int32) (x : Int32) : Nat → Int32 × Int32
  | 0 => (0, 0)
  | i + 1 => if K i = x then ((dcn K A x i).1 + 1, (dcn K A x i).2 + A i) else dcn K A x i
theorem dcn_s (K A : Nat → Int32) (x : Int32) (i : Nat) : dcn K A x (i + 1) = if K i = x then ((dcn K A x i).1 + 1, (dcn K A x i).2 + A i) else dcn K A x i := rfl
theorem d_did {x y : Int32} (hN : 1000 ≤ N) : dua (fX10_did N 0 x y) (fX11_did N 0 x y) := by
  intro Mc Mr hCR
  obtain ⟨hR, hI, hz, n, h4, hD⟩ := id hCR
  rcases hD with ⟨hG, hC⟩ | ⟨hG, hC⟩
  case inr =>
    unfold fX10_did fX11_did
    rw [n_ng hG.1, rn_grd hG.2.1, e_b, e_b, if_neg q1, if_pos q0]
    exact ⟨_, _, _, rfl, rfl, hCR⟩
  have h := hG.1
  obtain ⟨-, hcN, h8, n20, B, eB, hH⟩ := id hG
  have hc : cI (Mr.1 1) Mc := ⟨hG.1, hG.2.1, hC⟩
  unfold fX10_did fX11_did
  rw [c_ng hc, r_grd h rfl, e_b, e_b, if_pos q0, if_neg q1, show (3 : Int64) = lI (((4 : Nat) : Int) - 1) from rfl, r_in (n := 4) (by omega), e_b, c_isPart, r_isPart, e_b, e_b]
  by_cases hx : sg_ib x 4 = true
  case neg =>
    rw [if_neg hx, if_pos q0]
    by_cases l : x < 0
    · rw [if_pos l]; exact ⟨_, _, _, rfl, rfl, hCR⟩
    · have : 3 < x := by
        have i3 : Int32.toInt 3 = 3 := by decide
        have i4 : Int32.toInt 4 = 4 := by decide
        have : ¬ x < 4 := fun z => hx (ib4.mpr ⟨l, z⟩)
        rw [lt_i] at this ⊢
        omega
      rw [if_neg l, if_pos this]; exact ⟨_, _, _, rfl, rfl, hCR⟩
  have hx2 := ib4.mp hx
  have h3 : ¬ 3 < x := by
    have i3 : Int32.toInt 3 = 3 := by decide
    have i4 : Int32.toInt 4 = 4 := by decide
    have := hx2.2
    rw [lt_i] at this ⊢
    omega
  rw [if_pos hx, if_neg q1, if_neg hx2.1, if_neg h3]
  by_cases hy : sg_ib y 2 = true
  case neg =>
    rw [if_neg hy, if_pos q0, if_pos q0]
    exact ⟨_, _, _, rfl, rfl, hCR⟩
  rw [if_pos hy, if_neg q1, if_neg q1]
  have hK : ∀ i, i < n → Mc.1 20 i = Mr.1 3 (42 * i + 40) := fun i hi => (hH i hi).2.2.1
  have hA : ∀ i, i < n → Mc.1 22 i = Mr.1 3 (42 * i + 41) := fun i hi => (hH i hi).2.2.2.1
  have km : ∀ i, (42 : Int32) * nI i = nI (42 * i) := fun i => nI_mul 42 i
  refine ⟨if y = 0 then (dcn (Mc.1 20) (Mc.1 22) x n).1 else (dcn (Mc.1 20) (Mc.1 22) x n).2, Mc, Mr, ok_eq ?_, ok_eq ?_, hCR⟩
  · refine ok_m (ok_m (ok_m ?_))
    unfold gX10_did_34
    refine ok_for 0 n (fun i s M => s = (0, x, y, (dcn (Mc.1 20) (Mc.1 22) x i).1, (dcn (Mc.1 20) (Mc.1 22) x i).2, nI i) ∧ Mc = M) (by omega) (by omega) ⟨rfl, rfl⟩ ?_ ?_
    · rintro i s M back hi ⟨rfl, rfl⟩ hb
      unfold bX10_did_34
      dsimp only
      rw [y0_1, y13_15, y13_17, yn_20, yn_22, h8, nI_clamp (show i < 2 ^ 31 by omega), nI_1]
      refine ok_f (nI_ge hi (by omega)) (ok_t (ib_nI (by omega) (by omega)) (ok_if (fun z => ?_) (fun z => ?_)))
      · exact ok_m (ok_t (ib_nI (by omega) (by omega)) (ok_m (ok_m (hb _ _ ⟨by rw [dcn_s, if_pos z], rfl⟩))))
      · exact ok_m (hb _ _ ⟨by rw [dcn_s, if_neg z], rfl⟩)
    · rintro s M back ⟨rfl, rfl⟩
      unfold bX10_did_34
      dsimp only
      rw [y0_1, h8]
      refine ok_t (nI_le (Nat.le_refl _) (by omega)) (ok_if (fun z => ok_some ?_) (fun z => ok_some ?_))
      · rw [if_pos z]
      · rw [if_neg z]
  · refine ok_m (ok_m ?_)
    unfold gX11_did_34
    refine ok_for 0 n (fun i s M => s = (0, x, y, (if y = 0 then (dcn (Mc.1 20) (Mc.1 22) x i).1 else (dcn (Mc.1 20) (Mc.1 22) x i).2), nI i) ∧ Mr = M) (by omega) (by omega) ⟨by
      by_cases q : y = 0
      · rw [if_pos q]; rfl
      · rw [if_neg q]; rfl, rfl⟩ ?_ ?_
    · rintro i s M back hi ⟨rfl, rfl⟩ hb
      unfold bX11_did_34
      dsimp only
      rw [yr_3, yl_3, h4, km, show (40 : Int32) = nI 40 from rfl, nI_add, nI_1, nI_1, nI_clamp (show 42 * i + 40 < 2 ^ 31 by omega), nI_clamp (show 42 * i + 40 + 1 < 2 ^ 31 by omega), ← hK i hi, show Mr.1 3 (42 * i + 40 + 1) = Mc.1 22 i from (hA i hi).symm]
      refine ok_f (nI_ge hi (by omega)) (ok_t (ib_nI (by omega) (by omega)) (ok_if (fun z => ?_) (fun z => ?_)))
      · by_cases q : y = 0
        · rw [if_pos q, if_pos q]
          exact ok_m (ok_m (hb _ _ ⟨by rw [if_pos q, dcn_s, if_pos z], rfl⟩))
        · rw [if_neg q, if_neg q]
          exact ok_t (ib_nI (by omega) (by omega)) (ok_m (ok_m (hb _ _ ⟨by rw [if_neg q, dcn_s, if_pos z], rfl⟩)))
      · exact ok_m (hb _ _ ⟨by rw [dcn_s, if_neg z], rfl⟩)
    · rintro s M back ⟨rfl, rfl⟩
      unfold bX11_did_34
      dsimp only
      rw [h4]
      exact ok_t (nI_le (Nat.le_refl _) (by omega)) (ok_some rfl)
theorem d_fault {x : Int32} : dua (fX10_fault N 0 x) (fX11_fault N 0 x) := by
  intro Mc Mr hCR
  obtain ⟨⟨-, h1, h2⟩, -⟩ := id hCR
  unfold fX10_fault fX11_fault
  rw [y0_0, h1, h2]
  by_cases q : x = 0
  · rw [if_pos q, if_pos q]; exact ⟨_, _, _, rfl, rfl, hCR⟩
  · rw [if_neg q, if_neg q]
    by_cases w : x = 1
    · rw [if_pos w, if_pos w]; exact ⟨_, _, _, rfl, rfl, hCR⟩
    · rw [if_neg w, if_neg w]; exact ⟨_, _, _, rfl, rfl, hCR⟩
theorem caches_c {b : Nat → Int32} {M M1 : sg_M} (hv : vb b) (h : caches b M) (e : ∀ a k, (55 ≤ a ∨ (a = 0 ∧ k = 5)) → M1.1 a k = M.1 a k ∧ M1.2 a k = M.2 a k) : caches b M1 := by
  obtain ⟨c1, c2, c3, c4, c5, c6, c7, c8, c9⟩ := h
  have s := cS_c (M1 := M1) ⟨c5, c6, c7⟩ (fun a k g1 g2 => (e a k (by omega)).1)
  have l := cL_c (M1 := M1) ⟨c8, c9⟩ (fun a k g1 g2 => (e a k (by omega)).1)
  exact ⟨fun z => bsol_c (c1 (by rw [← (e 0 5 (by omega)).1]; exact z)) (fun a k g1 g2 => e a k (by omega)), cYe_c c2 (fun a k g1 g2 => (e a k (by omega)).1) (cal_48 hv), cPg_c c3 (fun a k g1 g2 => (e a k (by omega)).1), cPs_c c4 (fun a k g1 g2 => e a k (by omega)), s.1, s.2.1, s.2.2, l.1, l.2⟩
/-- only the reader's size changes -/
theorem CR_sz {Mc Mr Mc1 Mr1 : sg_M} (h : CR Mc Mr) (hR : rdr Mc1 Mr1) (c1 : ∀ a k, a ≠ 1 → a ≠ 12 → Mc1.1 a k = Mc.1 a k) (c2 : ∀ a k, Mc1.2 a k = Mc.2 a k) (r1 : ∀ a k, (a = 1 ∨ a = 3 ∨ a = 4 ∨ a = 5 ∨ (a = 0 ∧ k = 4)) → Mr1.1 a k = Mr.1 a k) : CR Mc1 Mr1 := by
  obtain ⟨-, hI, hz, n, h4, hD⟩ := h
  have w1 : Mr1.1 1 = Mr.1 1 := funext fun k => r1 1 k (by omega)
  have w3 : Mr1.1 3 = Mr.1 3 := funext fun k => r1 3 k (by omega)
  refine ⟨hR, imgs_c hI (fun a k g1 g2 => c1 a k (by omega) (by omega)) (funext fun k => r1 4 k (by omega)) (funext fun k => r1 5 k (by omega)), fun k hk => by rw [w1, hz k hk], n, by rw [r1 0 4 (by omega), h4], ?_⟩
  rw [w1, w3]
  rcases hD with ⟨hG, hC⟩ | ⟨hG, hC⟩
  · exact Or.inl ⟨nstG_c hG (fun a k g1 g2 => c1 a k (by omega) (by omega)), caches_c hG.1 hC (fun a k ha => ⟨c1 a k (by omega) (by omega), c2 a k⟩)⟩
  · exact Or.inr ⟨⟨fun k hk => by rw [c1 13 k (by omega) (by omega), hG.1 k hk], hG.2.1, hG.2.2⟩, fun z => by rw [c1 55 0 (by omega) (by omega)]; exact hC (by rw [← c1 0 5 (by omega) (by omega)]; exact z)⟩
theorem d_end {x : Int32} : dua (fX10_end N 0 x) (fX11_end N 0 x) := by
  intro Mc Mr hCR
  obtain ⟨⟨⟨sz, s1, s2, s3, s4⟩, h1, h2⟩, -⟩ := id hCR
  have i0 : Int32.toInt 0 = 0 := by decide
  unfold fX10_end fX11_end
  rw [y0_0, s2, s3, lI_nI (by omega), show (0 : Int64) = lI 0 from rfl, r_inG (by omega) (by omega), e_b]
  by_cases q : 0 ≤ x.toInt ∧ x.toInt ≤ (sz : Int)
  case neg =>
    rw [if_neg q, if_pos q0]
    by_cases l : x < 0
    · rw [if_pos l]; exact ⟨_, _, _, rfl, rfl, hCR⟩
    · rw [if_neg l, if_neg (fun z => q (by rw [lt_i] at l; rw [le_i, nI_toInt (by omega)] at z; omega))]; exact ⟨_, _, _, rfl, rfl, hCR⟩
  rw [if_pos q, if_neg q1, if_neg (fun z => by rw [lt_i] at z; omega), if_pos (by rw [le_i, nI_toInt (by omega)]; omega), e_m, e_m]
  obtain ⟨t, ht, rfl⟩ := nn_ex (x := x) (by rw [le_i]; omega)
  rw [nI_toInt ht] at q
  refine ⟨_, _, _, rfl, rfl, CR_sz hCR ⟨⟨t, (by omega), uI_eq, uI_eq, fun i hi => ?_⟩, ?_, ?_⟩ (fun a k h1 h2 => uI_na h1) (fun _ _ => rfl) (fun a k ha => by rw [uI_at, if_neg (by omega)])⟩
  · rw [uI_na (by omega), uI_na (by omega)]; exact s4 i (by omega)
  · rw [uI_nb (by omega), uI_nb (by omega), h1]
  · rw [uI_nb (by omega), uI_nb (by omega), h2]
end C6
