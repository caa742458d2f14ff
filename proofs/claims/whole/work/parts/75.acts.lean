/-! acts and their taking back -/
theorem caches_0 {b : Nat → Int32} {M : sg_M} (h0 : M.1 0 5 = 0) (h1 : M.1 106 0 = 0) (h2 : M.1 173 3 = 0) (h3 : ∀ i, i < 10 → M.1 186 i = 0) (h4 : M.1 205 7 = 0 ∧ M.1 205 8 = 0 ∧ M.1 205 9 = 0) (h5 : M.1 228 4 = 0 ∧ M.1 228 5 = 0) : caches b M := ⟨fun z => absurd h0 z, fun z => absurd h1 z, fun z => absurd h2 z, fun n hn z => absurd (h3 n hn) z, fun z => absurd h4.1 z, fun z => absurd h4.2.1 z, fun z => absurd h4.2.2 z, fun z => absurd h5.1 z, fun z => absurd h5.2 z⟩
theorem forget_ok {N : Nat} {M : sg_M} (hN : 100 ≤ N) : ok (fX10_forget N 0 M) (fun M1 => (∀ b, caches b M1) ∧ low M M1 ∧ M1.1 0 5 = 0) := by
  unfold fX10_forget
  rw [y0_8, y0_9, y0_10, y0_11]
  refine ok_m (ok_m ?_)
  unfold fX5_forgetAll
  suffices hs : ok (sg_m (sg_uI (sg_uI (sg_uI M 0 5 0) 106 0 0) 173 3 0) (fun M3 : sg_M => sg_m (0 : Int32) (fun x4 : Int32 => gX5_forgetAll_7 N (173, x4) M3))) (fun M1 => (∀ a k, a ≠ 186 → M1.1 a k = (sg_uI (sg_uI (sg_uI M 0 5 0) 106 0 0) 173 3 0).1 a k) ∧ ∀ i, i < 10 → M1.1 186 i = 0) by
    refine ok_bv hs (fun M1 h1 => ?_)
    unfold fX8_forgetAll
    refine ok_bv (Q := fun M2 => M2 = sg_uI (sg_uI (sg_uI M1 205 7 0) 205 8 0) 205 9 0) (ok_m (ok_m (ok_m (ok_some rfl)))) (fun M2 h2 => ?_)
    unfold fX3_forgetAll
    refine ok_bv (Q := fun M3 => M3 = sg_uI (sg_uI M2 228 4 0) 228 5 0) (ok_m (ok_m (ok_some rfl))) (fun M3 h3 => ok_some ?_)
    subst h3
    subst h2
    refine ⟨fun b => caches_0 ?_ ?_ ?_ (fun i hi => ?_) ⟨?_, ?_, ?_⟩ ⟨?_, ?_⟩, fun a k g1 g2 => ?_, ?_⟩
    · rw [uI_na (by omega), uI_na (by omega), uI_na (by omega), uI_na (by omega), uI_na (by omega), h1.1 0 5 (by omega), uI_na (by omega), uI_na (by omega), uI_eq]
    · rw [uI_na (by omega), uI_na (by omega), uI_na (by omega), uI_na (by omega), uI_na (by omega), h1.1 106 0 (by omega), uI_na (by omega), uI_eq]
    · rw [uI_na (by omega), uI_na (by omega), uI_na (by omega), uI_na (by omega), uI_na (by omega), h1.1 173 3 (by omega), uI_eq]
    · rw [uI_na (by omega), uI_na (by omega), uI_na (by omega), uI_na (by omega), uI_na (by omega), h1.2 i hi]
    · rw [uI_na (by omega), uI_na (by omega), uI_nb (by omega), uI_nb (by omega), uI_eq]
    · rw [uI_na (by omega), uI_na (by omega), uI_nb (by omega), uI_eq]
    · rw [uI_na (by omega), uI_na (by omega), uI_eq]
    · rw [uI_nb (by omega), uI_eq]
    · rw [uI_eq]
    · rw [uI_na (by omega), uI_na (by omega), uI_na (by omega), uI_na (by omega), uI_na (by omega), h1.1 a k (by omega), uI_na (by omega), uI_na (by omega), uI_at, if_neg (by omega)]
    · rw [uI_na (by omega), uI_na (by omega), uI_na (by omega), uI_na (by omega), uI_na (by omega), h1.1 0 5 (by omega), uI_na (by omega), uI_na (by omega), uI_eq]
  refine ok_m (ok_m ?_)
  unfold gX5_forgetAll_7
  refine ok_for 0 10 (fun i s M1 => s = (173, nI i) ∧ (∀ a k, a ≠ 186 → M1.1 a k = (sg_uI (sg_uI (sg_uI M 0 5 0) 106 0 0) 173 3 0).1 a k) ∧ ∀ j, j < i → M1.1 186 j = 0) (by omega) (by omega) ⟨rfl, fun _ _ _ => rfl, fun j hj => absurd hj (by omega)⟩ ?_ ?_
  · rintro i s M1 back hi ⟨rfl, g1, g2⟩ hb
    unfold bX5_forgetAll_7
    dsimp only
    rw [y173_4, yn_186, nI_clamp (show i < 2 ^ 31 by omega), nI_1]
    refine ok_f (show ¬ nI 9 < nI i from nI_nlt (by omega) (by omega)) (ok_t (ib_nI (by omega) (by omega)) (ok_m (ok_m (hb _ _ ⟨rfl, fun a k ha => by rw [uI_na ha, g1 a k ha], fun j hj => ?_⟩))))
    by_cases e : j = i
    · subst e; rw [uI_eq]; rfl
    · rw [uI_nb e, g2 j (by omega)]
  · rintro s M1 back ⟨rfl, g1, g2⟩
    unfold bX5_forgetAll_7
    dsimp only
    exact ok_t (by decide) (ok_some ⟨g1, g2⟩)
section AC
variable {N : Nat} {b e : Nat → Int32}
/-- the reference remembers -/
theorem remembers_ok {n : Nat} {k a : Int32} {M : sg_M} (h1 : M.1 1 = b) (h4 : M.1 0 4 = nI n) (hn : n < 20) (hN : 100 ≤ N) : ok (fX11_remembers N 0 k a M) (fun M1 => (∀ j, j < 42 * n → M1.1 3 j = M.1 3 j) ∧ (∀ j, j < 40 → M1.1 3 (42 * n + j) = b j) ∧ M1.1 3 (42 * n + 40) = k ∧ M1.1 3 (42 * n + 41) = a ∧ M1.1 0 4 = nI (n + 1) ∧ (∀ x j, x ≠ 3 → (x ≠ 0 ∨ j ≠ 4) → M1.1 x j = M.1 x j) ∧ M1.2 = M.2) := by
  unfold fX11_remembers
  refine ok_m ?_
  unfold gX11_remembers_2
  have km : ∀ i, (42 : Int32) * nI i = nI (42 * i) := fun i => nI_mul 42 i
  refine ok_for 0 40 (fun i s M1 => s = (0, k, a, nI i) ∧ (∀ j, j < 42 * n → M1.1 3 j = M.1 3 j) ∧ (∀ j, j < i → M1.1 3 (42 * n + j) = b j) ∧ (∀ x j, x ≠ 3 → M1.1 x j = M.1 x j) ∧ M1.2 = M.2) (by omega) (by omega) ⟨rfl, fun _ _ => rfl, fun j hj => absurd hj (by omega), fun _ _ _ => rfl, rfl⟩ ?_ ?_
  · rintro i s M1 back hi ⟨rfl, g1, g2, g3, g4⟩ hb
    unfold bX11_remembers_2
    dsimp only
    rw [yr_1, yl_1, yr_3, yl_3, g3 0 4 (by omega), h4, km, nI_add, nI_clamp (show i < 2 ^ 31 by omega), nI_clamp (show 42 * n + i < 2 ^ 31 by omega), nI_1]
    refine ok_f (show ¬ nI 40 ≤ nI i from nI_ge hi (by omega)) (ok_t (ib_nI (by omega) (by omega)) (ok_t (ib_nI (by omega) (by omega)) (ok_m (ok_m (hb _ _ ⟨rfl, fun j hj => ?_, fun j hj => ?_, fun x j hx => by rw [uI_na hx, g3 x j hx], g4⟩)))))
    · rw [uI_nb (by omega), g1 j hj]
    · by_cases q : j = i
      · subst q; rw [uI_eq, g3 1 j (by omega), h1]
      · rw [uI_nb (by omega), g2 j (by omega)]
  · rintro s M1 back ⟨rfl, g1, g2, g3, g4⟩
    unfold bX11_remembers_2
    dsimp only
    rw [yr_3, yl_3, g3 0 4 (by omega), h4, km, show (40 : Int32) = nI 40 from rfl, nI_add, nI_clamp (show 42 * n + 40 < 2 ^ 31 by omega)]
    refine ok_t (nI_le (Nat.le_refl _) (by omega)) (ok_t (ib_nI (by omega) (by omega)) (ok_m ?_))
    rw [uI_na (by omega), g3 0 4 (by omega), h4, km, nI_add, nI_1, nI_clamp (show 42 * n + 40 + 1 < 2 ^ 31 by omega)]
    refine ok_t (ib_nI (by omega) (by omega)) (ok_m (ok_m (ok_some ⟨fun j hj => ?_, fun j hj => ?_, ?_, ?_, ?_, fun x j hx hj => ?_, g4⟩)))
    · rw [uI_na (by omega), uI_nb (by omega), uI_nb (by omega), g1 j hj]
    · rw [uI_na (by omega), uI_nb (by omega), uI_nb (by omega), g2 j hj]
    · rw [uI_na (by omega), uI_nb (by omega), uI_eq]
    · rw [uI_na (by omega), uI_eq]
    · rw [uI_eq, uI_na (by omega), uI_na (by omega), g3 0 4 (by omega), h4, nI_1]
    · rw [uI_at, if_neg (by omega), uI_na hx, uI_na hx, g3 x j hx]
theorem y13_15n : Yc.2.2.2 13 15 = 20 := y13_15
theorem keepAct_ok {n : Nat} {k s a : Int32} {M : sg_M} (h8 : M.1 13 8 = nI n) (hn : n < 20) : ok (fX4_keepAct N 13 k s a M) (fun M1 => M1.1 13 8 = nI (n + 1) ∧ (M1.1 20 n = k ∧ M1.1 21 n = s ∧ M1.1 22 n = a) ∧ (∀ x j, (x < 20 ∨ 23 ≤ x ∨ j ≠ n) → (x ≠ 13 ∨ j ≠ 8) → M1.1 x j = M.1 x j) ∧ M1.2 = M.2) := by
  unfold fX4_keepAct
  rw [y13_15, y13_16, y13_17, yn_20, yn_21, yn_22, h8, nI_clamp (show n < 2 ^ 31 by omega)]
  refine ok_f (show ¬ nI 20 ≤ nI n from nI_ge hn (by omega)) (ok_t (ib_nI (by omega) (by omega)) (ok_m ?_))
  rw [uI_na (by omega), h8, nI_clamp (show n < 2 ^ 31 by omega)]
  refine ok_t (ib_nI (by omega) (by omega)) (ok_m ?_)
  rw [uI_na (by omega), uI_na (by omega), h8, nI_clamp (show n < 2 ^ 31 by omega)]
  refine ok_t (ib_nI (by omega) (by omega)) (ok_m (ok_m (ok_some ⟨?_, ⟨?_, ?_, ?_⟩, fun x j hx hj => ?_, rfl⟩)))
  · rw [uI_eq, uI_na (by omega), uI_na (by omega), uI_na (by omega), h8, nI_1]
  · rw [uI_na (by omega), uI_na (by omega), uI_na (by omega), uI_eq]
  · rw [uI_na (by omega), uI_na (by omega), uI_eq]
  · rw [uI_na (by omega), uI_eq]
  · rw [uI_at, if_neg (by omega), uI_at, if_neg (by omega), uI_at, if_neg (by omega), uI_at, if_neg (by omega)]
theorem hist_c {n : Nat} {T K S A T2 K2 S2 A2 : Nat → Int32} (h : hist b n T K S A) (hT : ∀ j, j < 42 * n → T2 j = T j) (hK : ∀ i, i < n → K2 i = K i) (hS : ∀ i, i < n → S2 i = S i) (hA : ∀ i, i < n → A2 i = A i) : hist b n T2 K2 S2 A2 := by
  obtain ⟨B, h1, h2⟩ := h
  refine ⟨B, h1, fun i hi => ?_⟩
  obtain ⟨g1, g2, g3, g4, g5⟩ := h2 i hi
  refine ⟨g1, fun k hk => by rw [hT _ (by omega), g2 k hk], by rw [hK i hi, hT _ (by omega), g3], by rw [hA i hi, hT _ (by omega), g4], ?_⟩
  rw [hK i hi, hS i hi, hA i hi]
  exact g5
theorem hist_push {n : Nat} {T K S A T2 K2 S2 A2 : Nat → Int32} (h : hist b n T K S A) (hv : vb b) (hT : ∀ j, j < 42 * n → T2 j = T j) (hK : ∀ i, i < n → K2 i = K i) (hS : ∀ i, i < n → S2 i = S i) (hA : ∀ i, i < n → A2 i = A i) (hb : ∀ j, j < 40 → T2 (42 * n + j) = b j) (k1 : K2 n = T2 (42 * n + 40)) (k2 : A2 n = T2 (42 * n + 41)) (hu : unA (K2 n) (S2 n) (A2 n) b e) : hist e (n + 1) T2 K2 S2 A2 := by
  obtain ⟨B, h1, h2⟩ := hist_c h hT hK hS hA
  refine ⟨fun i => if i = n + 1 then e else B i, if_pos rfl, fun i hi => ?_⟩
  dsimp only
  by_cases q : i = n
  · subst q
    rw [if_neg (show ¬ i = i + 1 by omega), if_pos rfl, h1]
    exact ⟨hv, hb, k1, k2, hu⟩
  · rw [if_neg (show ¬ i = n + 1 by omega), if_neg (show ¬ i + 1 = n + 1 by omega)]
    exact h2 i (by omega)
theorem cNet_wid {q : Nat} {M M1 : sg_M} (h : cNet q b M) (he : ∀ k, k < 28 → e k = b k) (hw : ∀ s, s < 12 → M1.1 (q + 3) s = e (28 + s)) (hM : ∀ a k, q ≤ a → a < q + 7 → a ≠ q + 3 → (a ≠ q ∨ k ≠ 8) → M1.1 a k = M.1 a k) : cNet q e M1 := by
  obtain ⟨eC, eR, -⟩ := sm_of (b := b) (d := e) (fun i hi => he i (by omega))
  obtain ⟨⟨h0, h1, h2, h3, h4, h7⟩, ⟨g5, g6, gA, gB⟩, hw0, hl, hg, hb⟩ := h
  unfold cNet netG
  rw [eC, eR, he 0 (by omega), he 1 (by omega), he 2 (by omega), he 3 (by omega), he 4 (by omega), he 5 (by omega)]
  refine ⟨⟨?_, ?_, ?_, ?_, ?_, ?_⟩, ⟨?_, ?_, fun s hs => ?_, fun s hs => ?_⟩, hw, fun v hv => ?_, fun v hv => ?_, fun g hg2 => ?_⟩
  · rw [hM q 0 (by omega) (by omega) (by omega) (by omega), h0]
  · rw [hM q 1 (by omega) (by omega) (by omega) (by omega), h1]
  · rw [hM q 2 (by omega) (by omega) (by omega) (by omega), h2]
  · rw [hM q 3 (by omega) (by omega) (by omega) (by omega), h3]
  · rw [hM q 4 (by omega) (by omega) (by omega) (by omega), h4]
  · rw [hM q 7 (by omega) (by omega) (by omega) (by omega), h7]
  · rw [hM q 5 (by omega) (by omega) (by omega) (by omega), g5]
  · rw [hM q 6 (by omega) (by omega) (by omega) (by omega), g6]
  · rw [hM _ s (by omega) (by omega) (by omega) (by omega), gA s hs]
  · rw [hM _ s (by omega) (by omega) (by omega) (by omega), gB s hs]
  · rw [hM _ v (by omega) (by omega) (by omega) (by omega), hl v hv, he _ (by omega)]
  · rw [hM _ v (by omega) (by omega) (by omega) (by omega), hg v hv, he _ (by omega)]
  · rw [hM _ g (by omega) (by omega) (by omega) (by omega), hb g hg2, he _ (by omega)]
theorem cNet_loa {q : Nat} {M M1 : sg_M} (h : cNet q b M) (he : ∀ k, (k < 6 ∨ 15 ≤ k) → e k = b k) (hl2 : ∀ v, v < 9 → M1.1 (q + 4) v = e (6 + v)) (hM : ∀ a k, q ≤ a → a < q + 7 → a ≠ q + 4 → (a ≠ q ∨ k ≠ 8) → M1.1 a k = M.1 a k) : cNet q e M1 := by
  obtain ⟨eC, eR, -⟩ := sm_of (b := b) (d := e) (fun i hi => he i (by omega))
  obtain ⟨⟨h0, h1, h2, h3, h4, h7⟩, ⟨g5, g6, gA, gB⟩, hw0, hl, hg, hb⟩ := h
  unfold cNet netG
  rw [eC, eR, he 0 (by omega), he 1 (by omega), he 2 (by omega), he 3 (by omega), he 4 (by omega), he 5 (by omega)]
  refine ⟨⟨?_, ?_, ?_, ?_, ?_, ?_⟩, ⟨?_, ?_, fun s hs => ?_, fun s hs => ?_⟩, fun s hs => ?_, hl2, fun v hv => ?_, fun g hg2 => ?_⟩
  · rw [hM q 0 (by omega) (by omega) (by omega) (by omega), h0]
  · rw [hM q 1 (by omega) (by omega) (by omega) (by omega), h1]
  · rw [hM q 2 (by omega) (by omega) (by omega) (by omega), h2]
  · rw [hM q 3 (by omega) (by omega) (by omega) (by omega), h3]
  · rw [hM q 4 (by omega) (by omega) (by omega) (by omega), h4]
  · rw [hM q 7 (by omega) (by omega) (by omega) (by omega), h7]
  · rw [hM q 5 (by omega) (by omega) (by omega) (by omega), g5]
  · rw [hM q 6 (by omega) (by omega) (by omega) (by omega), g6]
  · rw [hM _ s (by omega) (by omega) (by omega) (by omega), gA s hs]
  · rw [hM _ s (by omega) (by omega) (by omega) (by omega), gB s hs]
  · rw [hM _ s (by omega) (by omega) (by omega) (by omega), hw0 s hs, he _ (by omega)]
  · rw [hM _ v (by omega) (by omega) (by omega) (by omega), hg v hv, he _ (by omega)]
  · rw [hM _ g (by omega) (by omega) (by omega) (by omega), hb g hg2, he _ (by omega)]
theorem cNet_pad {q : Nat} {P : Int32} {M M1 : sg_M} (h : cNet q b M) (h7n : M1.1 q 7 = P) (hM : ∀ a k, q ≤ a → a < q + 7 → (a ≠ q ∨ (k ≠ 7 ∧ k ≠ 8)) → M1.1 a k = M.1 a k) : cNet q (ub b 5 P) M1 := by
  have he : ∀ k, k ≠ 5 → ub b 5 P k = b k := fun k hk => ub_ne hk
  obtain ⟨eC, eR, -⟩ := sm_of (b := b) (d := ub b 5 P) (fun i hi => he i (by omega))
  obtain ⟨⟨h0, h1, h2, h3, h4, h7⟩, ⟨g5, g6, gA, gB⟩, hw0, hl, hg, hb⟩ := h
  unfold cNet netG
  rw [eC, eR, he 0 (by omega), he 1 (by omega), he 2 (by omega), he 3 (by omega), he 4 (by omega), ub_eq]
  refine ⟨⟨?_, ?_, ?_, ?_, ?_, h7n⟩, ⟨?_, ?_, fun s hs => ?_, fun s hs => ?_⟩, fun s hs => ?_, fun v hv => ?_, fun v hv => ?_, fun g hg2 => ?_⟩
  · rw [hM q 0 (by omega) (by omega) (by omega), h0]
  · rw [hM q 1 (by omega) (by omega) (by omega), h1]
  · rw [hM q 2 (by omega) (by omega) (by omega), h2]
  · rw [hM q 3 (by omega) (by omega) (by omega), h3]
  · rw [hM q 4 (by omega) (by omega) (by omega), h4]
  · rw [hM q 5 (by omega) (by omega) (by omega), g5]
  · rw [hM q 6 (by omega) (by omega) (by omega), g6]
  · rw [hM _ s (by omega) (by omega) (by omega), gA s hs]
  · rw [hM _ s (by omega) (by omega) (by omega), gB s hs]
  · rw [hM _ s (by omega) (by omega) (by omega), hw0 s hs, he _ (by omega)]
  · rw [hM _ v (by omega) (by omega) (by omega), hl v hv, he _ (by omega)]
  · rw [hM _ v (by omega) (by omega) (by omega), hg v hv, he _ (by omega)]
  · rw [hM _ g (by omega) (by omega) (by omega), hb g hg2, he _ (by omega)]
/-- after an act: both in relation again -/
theorem CR_act {n : Nat} {k s a : Int32} {Mc Mr Mc1 Mr1 : sg_M} (hR : rdr Mc Mr) (hI : imgs Mc Mr) (hz : ∀ j, 40 ≤ j → Mr.1 1 j = 0) (hn : n < 20) (hG : nstG 13 (Mr.1 1) n (Mr.1 3) Mc) (hv : vb e) (hN1 : cNet 13 e Mc1) (c8 : Mc1.1 13 8 = nI (n + 1)) (ck : Mc1.1 20 n = k ∧ Mc1.1 21 n = s ∧ Mc1.1 22 n = a) (cr : ∀ x i, 20 ≤ x → x < 23 → i ≠ n → Mc1.1 x i = Mc.1 x i) (cl : ∀ x i, (x < 13 ∨ 23 ≤ x) → x < 55 → (x ≠ 0 ∨ i ≠ 5) → Mc1.1 x i = Mc.1 x i) (cc : caches e Mc1) (w1 : Mr1.1 1 = e) (ez : ∀ j, 40 ≤ j → e j = 0) (r4 : Mr1.1 0 4 = nI (n + 1)) (rT : ∀ j, j < 42 * n → Mr1.1 3 j = Mr.1 3 j) (rB : ∀ j, j < 40 → Mr1.1 3 (42 * n + j) = Mr.1 1 j) (rk : Mr1.1 3 (42 * n + 40) = k) (ra : Mr1.1 3 (42 * n + 41) = a) (rl : (∀ x, (x = 4 ∨ x = 5 ∨ x = 7) → Mr1.1 x = Mr.1 x) ∧ ∀ j, (j = 10 ∨ j = 17 ∨ j = 18) → Mr1.1 0 j = Mr.1 0 j) (hu : unA k s a (Mr.1 1) e) : CR Mc1 Mr1 := by
  refine ⟨rdr_c hR (fun j hj => cl 1 j (by omega) (by omega) (by omega)) (fun j => cl 12 j (by omega) (by omega) (by omega)) ⟨rl.2 10 (by omega), rl.2 17 (by omega), rl.2 18 (by omega)⟩ (rl.1 7 (by omega)), imgs_c hI (fun x j g1 g2 => cl x j (by omega) g2 (by omega)) (rl.1 4 (by omega)) (rl.1 5 (by omega)), fun j hj => by rw [w1, ez j hj], n + 1, r4, Or.inl ⟨?_, by rw [w1]; exact cc⟩⟩
  rw [w1]
  obtain ⟨h1, h2, h3, h4, h5⟩ := hG
  refine ⟨hv, hN1, c8, (by omega), hist_push h5 h1 rT (fun i hi => cr 20 i (by omega) (by omega) (by omega)) (fun i hi => cr 21 i (by omega) (by omega) (by omega)) (fun i hi => cr 22 i (by omega) (by omega) (by omega)) rB ?_ ?_ ?_⟩
  · show Mc1.1 20 n = _; rw [ck.1, rk]
  · show Mc1.1 22 n = _; rw [ck.2.2, ra]
  · show unA (Mc1.1 20 n) (Mc1.1 21 n) (Mc1.1 22 n) _ _; rw [ck.1, ck.2.1, ck.2.2]; exact hu
end AC
