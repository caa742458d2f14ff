/-! Years -/
section YE
variable {N : Nat} {b : Nat → Int32}
theorem cI_seg {lo hi : Nat} {M M1 : sg_M} (h : cI b M) (hf : fr lo hi M M1) (h71 : 71 ≤ lo) (hY : cYe b M1 ∨ hi ≤ 106 ∨ 157 ≤ lo) (hP : (cPg b M1 ∧ cPs b M1) ∨ hi ≤ 173 ∨ 188 ≤ lo) (hS : (cSg b M1 ∧ cSl b M1 ∧ cSs b M1) ∨ hi ≤ 205 ∨ 209 ≤ lo) (hL : (cLs b M1 ∧ cLp b M1) ∨ hi ≤ 228 ∨ 230 ≤ lo) : cI b M1 ∧ low M M1 := by
  have hl : low M M1 := fun a k h1 _ => (hf a k (by omega)).1
  obtain ⟨hv, hN, c1, c2, c3, c4, c5, c6, c7, c8, c9⟩ := h
  have y : cYe b M1 := hY.elim id (fun q => cYe_c c2 (fun a k h1 h2 => (hf a k (by omega)).1) (cal_48 hv))
  have p : cPg b M1 ∧ cPs b M1 := hP.elim id (fun q => ⟨cPg_c c3 (fun a k h1 h2 => (hf a k (by omega)).1), cPs_c c4 (fun a k h1 h2 => hf a k (by omega))⟩)
  have s : cSg b M1 ∧ cSl b M1 ∧ cSs b M1 := hS.elim id (fun q => cS_c ⟨c5, c6, c7⟩ (fun a k h1 h2 => (hf a k (by omega)).1))
  have l : cLs b M1 ∧ cLp b M1 := hL.elim id (fun q => cL_c ⟨c8, c9⟩ (fun a k h1 h2 => (hf a k (by omega)).1))
  exact ⟨⟨hv, cNet_c hN (fun a k h1 h2 h3 => hl a k (by omega) (Or.inl (by omega))), fun z => bsol_c (c1 (by rw [← (hf 0 5 (by omega)).1]; exact z)) (fun a k h1 h2 => hf a k (by omega)), y, p.1, p.2, s.1, s.2.1, s.2.2, l.1, l.2⟩, hl⟩
theorem shift_ok {q a S : Nat} {bits dl : Int32} {M : sg_M} (hla : Yc.2.2.1 a = 12) (h6 : M.1 q 6 = nI S) (hS : S ≤ 12) (hq : q ≠ a) (hN : 20 ≤ N) : ok (fX4_shiftWidths N q a bits dl M) (fun M1 => M1.2 = M.2 ∧ (∀ x k, x ≠ a → M1.1 x k = M.1 x k) ∧ ∀ s, M1.1 a s = if s < S ∧ bt bits s = true then M.1 a s + dl else M.1 a s) := by
  unfold fX4_shiftWidths
  refine ok_m ?_
  unfold gX4_shiftWidths_3
  refine ok_for 0 S (fun i s M1 => s = (q, a, bits, dl, nI i) ∧ M1.2 = M.2 ∧ (∀ x k, x ≠ a → M1.1 x k = M.1 x k) ∧ ∀ s, M1.1 a s = if s < i ∧ bt bits s = true then M.1 a s + dl else M.1 a s) (by omega) (by omega) ⟨rfl, rfl, fun _ _ _ => rfl, fun s => by rw [if_neg (by omega)]⟩ ?_ ?_
  · rintro i s M1 back hi ⟨rfl, h1, h2, h3⟩ hb
    unfold bX4_shiftWidths_3
    dsimp only
    rw [h2 q 6 hq, h6, hla, nI_clamp (show i < 2 ^ 31 by omega), nI_1]
    refine ok_f (nI_ge hi (by omega)) (ok_if (fun z => ?_) (fun z => ?_))
    · have z := (bt_test1 (show i < 32 by omega)).mp z
      refine ok_t (ib_nI (by omega) (by omega)) (ok_t (ib_nI (by omega) (by omega)) (ok_m (ok_m (hb _ _ ⟨rfl, h1, fun x k hx => by rw [uI_na hx]; exact h2 x k hx, fun s => ?_⟩))))
      by_cases e : s = i
      · subst e
        rw [uI_eq, h3 s, if_neg (by omega), if_pos ⟨(by omega), z⟩]
      · rw [uI_nb e, h3 s]
        by_cases y : s < i ∧ bt bits s = true
        · rw [if_pos y, if_pos ⟨(by omega), y.2⟩]
        · rw [if_neg y, if_neg (fun w => y ⟨(by omega), w.2⟩)]
    · have z : ¬ bt bits i = true := fun y => z ((bt_test1 (show i < 32 by omega)).mpr y)
      refine ok_m (hb _ _ ⟨rfl, h1, h2, fun s => ?_⟩)
      rw [h3 s]
      by_cases y : s < i ∧ bt bits s = true
      · rw [if_pos y, if_pos ⟨(by omega), y.2⟩]
      · rw [if_neg y, if_neg (fun w => y ⟨by
          by_cases e : s = i
          · subst e; exact absurd w.2 z
          · omega, w.2⟩)]
  · rintro s M1 back ⟨rfl, h1, h2, h3⟩
    unfold bX4_shiftWidths_3
    dsimp only
    rw [h2 q 6 hq, h6]
    exact ok_t (nI_le (Nat.le_refl _) (by omega)) (ok_some ⟨h1, h2, h3⟩)
/-- the first found so far -/
def fF (p : Nat → Bool) (y : Nat) : Int32 := if fst1 p y < y then nI (fst1 p y) else -1
theorem fst1_k (p : Nat → Bool) (n : Nat) : fst1 p (n + 1) = if fst1 p n < n then fst1 p n else if p n = true then n else n + 1 := rfl
theorem fF_s (p : Nat → Bool) (y : Nat) : fF p (y + 1) = if fst1 p y < y then fF p y else if p y = true then nI y else -1 := by
  unfold fF
  rw [fst1_k]
  by_cases q : fst1 p y < y
  · rw [if_pos q, if_pos q, if_pos q, if_pos (by omega)]
  · rw [if_neg q, if_neg q]
    by_cases z : p y = true
    · rw [if_pos z, if_pos z, if_pos (by omega)]
    · rw [if_neg z, if_neg z, if_neg (by omega)]
theorem fF_n {p : Nat → Bool} {y : Nat} (hy : y < 2 ^ 31) : fF p y = -1 ↔ ¬ fst1 p y < y := by
  unfold fF
  by_cases q : fst1 p y < y
  · rw [if_pos q, qn1 (by omega)]
    exact ⟨fun z => z.elim, fun z => absurd q z⟩
  · rw [if_neg q]
    exact ⟨fun _ => q, fun _ => rfl⟩
abbrev pH (b : Nat → Int32) : Nat → Bool := fun y => !hold (yr b y)
theorem fF_lst : fF (pH b) (cal b + 1) = if lst b ≤ cal b then nI (lst b) else -1 := by
  show (if lst b < cal b + 1 then nI (lst b) else -1) = _
  by_cases e : lst b ≤ cal b
  · rw [if_pos e, if_pos (by omega)]
  · rw [if_neg e, if_neg (by omega)]
theorem K157 : sg_K Yc 157 1 := ⟨by decide, by decide⟩
theorem y106_3 : Yc.2.2.2 106 3 = 107 := by decide
theorem y106_4 : Yc.2.2.2 106 4 = 157 := by decide
theorem yn_107 : Yc.2.2.1 107 = 49 := by decide
theorem y157_3 : Yc.2.2.2 157 3 = 159 := by decide
theorem y107_y {y : Nat} (h : y < 49) : Yc.2.2.2 107 y = 108 + y := by
  have := re9_3 (j := 106) ⟨by decide, by decide⟩ h
  rw [Nat.one_mul] at this
  exact this
theorem yn_row {y : Nat} (h : y < 49) : Yc.2.2.1 (108 + y) = 12 := le9_3 (j := 106) ⟨by decide, by decide⟩ h
def yeP (b : Nat → Int32) (M M1 : sg_M) : Prop := fr 106 173 M M1 ∧ M1.1 106 0 = 1 ∧ M1.1 106 1 = nI (cal b) ∧ M1.1 106 2 = fF (pH b) (cal b + 1) ∧ ∀ j, j ≤ cal b → ∀ s, s < 12 → M1.1 (108 + j) s = yr b j (28 + s)
theorem age_w {d : Nat → Int32} {s : Nat} : age d (28 + s) = if s < gS d ∧ bt (wbs d) s = true then d (28 + s) - 1 else d (28 + s) := by
  have e : 28 + s - 28 = s := by omega
  unfold age
  rw [e]
  by_cases q : s < gS d ∧ bt (wbs d) s = true
  · rw [if_pos q, if_pos ⟨(by omega), (by omega), q.2⟩]
  · rw [if_neg q, if_neg (fun z => q ⟨(by omega), z.2.2⟩)]
theorem look100 {y : Nat} {M M2 : sg_M} {back : (Nat × Nat × Int32) → sg_M → Option sg_M} (hc : cI b M) (hy : y ≤ 48) (hF : fr 106 173 M M2) (hS : bsol (yr b y) 157 M2) (h0 : M2.1 106 0 = 1) (h1 : M2.1 106 1 = nI y) (h2 : M2.1 106 2 = fF (pH b) (y + 1)) (hR : ∀ j, j ≤ y → ∀ s, s < 12 → M2.1 (108 + j) s = yr b j (28 + s)) (hW : ∀ j, j < y → wbs (yr b j) ≠ 0) (hN : 1000 ≤ N) (hb : y < 48 → wbs (yr b y) ≠ 0 → ∀ M3, fr 106 173 M M3 → M3.1 106 0 = 1 → M3.1 106 2 = fF (pH b) (y + 1) → (∀ j, j ≤ y + 1 → ∀ s, s < 12 → M3.1 (108 + j) s = yr b j (28 + s)) → ok (back (106, 13, nI (y + 1)) M3) (yeP b M)) : ok (gX9_look_100 N back 106 13 (nI y) M2) (yeP b M) := by
  have h := hc.1
  have hn := vb_n h
  have hd := yr_v h y
  have sm1 := yr_sm b y
  have nG : netG (gC b) (gR b) 13 M2 := cNet_G (cNet_c (cI_N hc) (fun a k g1 g2 _ => (hF a k (by omega)).1))
  have n3 : M2.1 13 3 = yr b y 3 := by rw [(hF 13 3 (by omega)).1, (cI_N hc).1.2.2.2.1, yr_lo b y 3 (by omega)]
  have n6 : M2.1 13 6 = nI (gS b) := nG.2.1
  unfold gX9_look_100
  rw [y106_3, y106_4, yn_107, nI_clamp (show y < 2 ^ 31 by omega), y107_y (by omega), c_wear K157 ⟨hd, hS, sm_G sm1 nG⟩ (yn_row (by omega)) (hR y (Nat.le_refl _)) n3 (by omega), e_b, e_m]
  refine ok_t (ib_nI (by omega) (by omega)) (ok_if (fun z => ?_) (fun z => ?_))
  · have e : cal b = y := fst1_u (by omega) (decide_eq_true z) (fun j hj => decide_eq_false (hW j hj))
    refine ok_some ⟨hF, h0, ?_, ?_, ?_⟩
    · rw [e]; exact h1
    · rw [e]; exact h2
    · rw [e]; exact hR
  · have ny : ¬ y = 48 := fun e => by
      have c48 := cal_48 h
      have hp := (fst1_s (fun y => decide (wbs (yr b y) = 0)) 49).2.1 (by have : fst1 (fun y => decide (wbs (yr b y) = 0)) 49 ≤ 48 := c48; omega)
      have hp : wbs (yr b (cal b)) = 0 := of_decide_eq_true hp
      by_cases q : cal b = y
      · rw [q] at hp; exact z hp
      · exact hW (cal b) (by omega) hp
    refine ok_f (show ¬ nI y = nI 48 from fun q => ny ((nI_eq (by omega) (by omega)).mp q)) ?_
    rw [nI_1, nI_clamp (show y + 1 < 2 ^ 31 by omega), y107_y (show y + 1 < 49 by omega), yn_row (show y < 49 by omega), yn_row (show y + 1 < 49 by omega)]
    refine ok_t (ib_nI (by omega) (by omega)) (ok_t (ib_nI (by omega) (by omega)) (ok_t (by decide) (ok_m (ok_t (ib_nI (by omega) (by omega)) ?_))))
    rw [show ((0 : Int32)).toNatClampNeg = 0 by decide, show ((12 : Int32)).toNatClampNeg = 12 by decide]
    have nr : 108 + y ≠ 108 + (y + 1) := (by omega)
    refine ok_bv (shift_ok (N := N) (q := 13) (a := 108 + (y + 1)) (S := gS b) (yn_row (show y + 1 < 49 by omega)) (by rw [cpy_na (by omega)]; exact n6) hn (by omega) (by omega)) (fun M3 h3 => ok_m ?_)
    obtain ⟨g1, g2, g3⟩ := h3
    have gn : ∀ x k, x ≠ 108 + (y + 1) → M3.1 x k = M2.1 x k := fun x k hx => by rw [g2 x k hx, cpy_na hx]
    refine hb (by omega) z M3 (fun a k ha => ⟨?_, ?_⟩) ?_ ?_ (fun j hj s hs => ?_)
    · rw [gn a k (by omega), (hF a k ha).1]
    · rw [g1, cpy_l, (hF a k ha).2]
    · rw [gn 106 0 (by omega), h0]
    · rw [gn 106 2 (by omega), h2]
    · by_cases e : j = y + 1
      · subst e
        rw [g3 s, cpy_in hs, hR y (Nat.le_refl _) s hs]
        show _ = age (yr b y) (28 + s)
        rw [age_w, sm1.2.2.2.2.1, Int32.sub_eq_add_neg]
      · rw [gn _ s (by omega), hR j (by omega) s hs]
set_option maxHeartbeats 1000000 in
theorem look_ok {M : sg_M} (hc : cI b M) (hN : 1000 ≤ N) : ok (fX9_look N 106 13 M) (fun M1 => cI b M1 ∧ low M M1 ∧ M1.1 106 0 ≠ 0) := by
  have h := hc.1
  unfold fX9_look
  refine ok_if (fun z => ok_m (ok_m ?_)) (fun z => ok_some ⟨hc, low_refl, z⟩)
  rw [y106_3, yn_107, show ((0 : Int32)).toNatClampNeg = 0 by decide, show ((12 : Int32)).toNatClampNeg = 12 by decide, y107_y (y := 0) (by omega), y13_11, yn_16, yn_row (y := 0) (by omega)]
  refine ok_t (by decide) (ok_t (by decide) (ok_m (ok_m ?_)))
  suffices hs : ok (gX9_look_37 N (106, 13, 0) (sg_cpy (sg_uI (sg_uI M 106 0 1) 106 2 (-1)) 16 (108 + 0) 0 0 12)) (yeP b M) by
    refine ok_imp hs (fun M1 h1 => ?_)
    obtain ⟨hF, h0, h1, h2, h3⟩ := h1
    have := cI_seg hc hF (by omega) (Or.inl (fun _ => ⟨h1, by rw [h2, fF_lst], h3⟩)) (Or.inr (Or.inl (by omega))) (Or.inr (Or.inl (by omega))) (Or.inr (Or.inl (by omega)))
    exact ⟨this.1, this.2, by rw [h0]; decide⟩
  unfold gX9_look_37
  refine ok_lp (fun m s M1 => ∃ y, y ≤ 48 ∧ m = 48 - y ∧ s = (106, 13, nI y) ∧ fr 106 173 M M1 ∧ M1.1 106 0 = 1 ∧ M1.1 106 2 = fF (pH b) y ∧ (∀ j, j ≤ y → ∀ s, s < 12 → M1.1 (108 + j) s = yr b j (28 + s)) ∧ ∀ j, j < y → wbs (yr b j) ≠ 0) ?_ N 48 _ _ ⟨0, (by omega), rfl, rfl, fun a k ha => ⟨?_, ?_⟩, ?_, ?_, fun j hj s hs => ?_, fun j hj => absurd hj (by omega)⟩ (by omega)
  · rintro m s M1 back ⟨y, hy, rfl, rfl, hF, h0, h2, hR, hW⟩ hb
    have hd := yr_v h y
    have sm1 := yr_sm b y
    unfold bX9_look_37
    dsimp only
    rw [y106_3, y106_4, yn_107, nI_clamp (show y < 2 ^ 31 by omega), y107_y (by omega), y13_12, y157_3]
    refine ok_f (show ¬ nI 48 < nI y from nI_nlt hy (by omega)) (ok_m (ok_t (ib_nI (by omega) (by omega)) ?_))
    have un : ∀ a k, (a ≠ 106 ∨ k ≠ 1) → (sg_uI M1 106 1 (nI y)).1 a k = M1.1 a k := fun a k ha => by rw [uI_at, if_neg (by omega)]
    have e7 : (sg_uI M1 106 1 (nI y)).1 13 7 = yr b y 5 := by rw [un 13 7 (by omega), (hF 13 7 (by omega)).1, cf7 hc, yr_lo b y 5 (by omega)]
    have nG : netG (gC b) (gR b) 13 (sg_uI M1 106 1 (nI y)) := cNet_G (cNet_c (cI_N hc) (fun a k g1 g2 _ => by rw [un a k (by omega), (hF a k (by omega)).1]))
    rw [e7]
    refine ok_bv (settle_b (N := N) (f := 157) (a := 108 + y) (ld := 17) (d := yr b y) K157 hd (by omega) (Or.inl (by omega)) (yn_row (by omega)) (Or.inl (by omega)) yn_17 (sm_G sm1 nG) (fun s hs => ?_) (fun v hv => ?_) hN) (fun M3 h3 => ?_)
    · rw [un _ s (by omega), hR y (Nat.le_refl _) s hs]
    · rw [un _ v (by omega), (hF 17 v (by omega)).1, yr_lo b y _ (by omega)]
      exact (cI_N hc).2.2.2.1 v hv
    obtain ⟨S3, F3, -⟩ := h3
    have F4 : fr 106 173 M M3 := fun a k ha => ⟨by rw [(F3 a k (by omega)).1, un a k (by omega), (hF a k ha).1], by rw [(F3 a k (by omega)).2]; exact (hF a k ha).2⟩
    have g0 : M3.1 106 0 = 1 := by rw [(F3 106 0 (by omega)).1, un 106 0 (by omega), h0]
    have g1 : M3.1 106 1 = nI y := by rw [(F3 106 1 (by omega)).1, uI_eq]
    have g2 : M3.1 106 2 = fF (pH b) y := by rw [(F3 106 2 (by omega)).1, un 106 2 (by omega), h2]
    have g3 : ∀ j, j ≤ y → ∀ s, s < 12 → M3.1 (108 + j) s = yr b j (28 + s) := fun j hj s hs => by rw [(F3 _ s (by omega)).1, un _ s (by omega), hR j hj s hs]
    have n2 : M3.1 13 2 = nI (gT (yr b y)) := by rw [(F4 13 2 (by omega)).1, (cI_N hc).1.2.2.1, vb_2 h, sm1.2.2.1]
    have go : ∀ M4 : sg_M, fr 106 173 M M4 → bsol (yr b y) 157 M4 → M4.1 106 0 = 1 → M4.1 106 1 = nI y → M4.1 106 2 = fF (pH b) (y + 1) → (∀ j, j ≤ y → ∀ s, s < 12 → M4.1 (108 + j) s = yr b j (28 + s)) → ok (gX9_look_100 N back 106 13 (nI y) M4) (yeP b M) := fun M4 F S k0 k1 k2 kR => look100 hc hy F S k0 k1 k2 kR hW hN (fun hy2 hz M5 F5 k50 k52 k5R => hb (48 - (y + 1)) _ _ (by omega) ⟨y + 1, (by omega), rfl, rfl, F5, k50, k52, k5R, fun j hj => by
      by_cases e : j = y
      · rw [e]; exact hz
      · exact hW j (by omega)⟩)
    rw [g2, n2]
    refine ok_if (fun q => ?_) (fun q => ?_)
    · have q := (fF_n (by omega)).mp q
      rw [show (159 : Nat) = 157 + 2 from rfl, c_hold hd S3, e_b]
      by_cases z : hold (yr b y) = true
      · rw [if_pos z]
        refine ok_f q1 (go M3 F4 S3 g0 g1 ?_ g3)
        rw [g2, fF_s, if_neg q, if_neg (by show ¬ (!hold (yr b y)) = true; rw [z]; decide), (fF_n (by omega)).mpr q]
      · rw [if_neg z]
        have z : hold (yr b y) = false := by simpa using z
        refine ok_t q0 (ok_m (go _ (fun a k ha => ⟨by rw [uI_na (by omega)]; exact (F4 a k ha).1, (F4 a k ha).2⟩) (bsol_c S3 (fun a k q1 q2 => ⟨uI_na (by omega), rfl⟩)) ?_ ?_ ?_ (fun j hj s hs => by rw [uI_na (by omega)]; exact g3 j hj s hs)))
        · rw [uI_nb (by omega)]; exact g0
        · rw [uI_nb (by omega)]; exact g1
        · rw [uI_eq, fF_s, if_neg q, if_pos (by show (!hold (yr b y)) = true; rw [z]; rfl)]
    · have q : fst1 (pH b) y < y := by
        apply Classical.byContradiction
        intro w
        exact q ((fF_n (by omega)).mpr w)
      refine go M3 F4 S3 g0 g1 ?_ g3
      rw [g2, fF_s, if_pos q]
  · rw [cpy_na (by omega), uI_na (by omega), uI_na (by omega)]
  · rw [cpy_l]; rfl
  · rw [cpy_na (by omega), uI_nb (by omega), uI_eq]
  · rw [cpy_na (by omega), uI_eq]; rfl
  · have : j = 0 := by omega
    subst this
    rw [cpy_in hs, uI_na (by omega), uI_na (by omega)]
    exact (cI_N hc).2.2.1 s hs
end YE
