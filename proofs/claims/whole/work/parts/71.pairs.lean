/-! pairs -/
section PR
variable {N : Nat} {b : Nat → Int32}
def tri : Nat → Nat
  | 0 => 0
  | s + 1 => tri s + (11 - s)
theorem tri_ck : ∀ s, s < 12 → ∀ o, o < 12 → s < o → tri s + (o - (s + 1)) < 66 := by decide
theorem prS_s (s k : Nat) : prS b s (k + 1) = prS b s k ++ (if s < k ∧ isPr b s k = true then [nI (100 * s + k)] else []) := rfl
theorem prS_0 (s : Nat) : ∀ k, k ≤ s + 1 → prS b s k = [] := by
  intro k
  induction k with
  | zero => intro _; rfl
  | succ k ih =>
    intro hk
    rw [prS_s, ih (by omega), if_neg (by omega)]
    rfl
theorem prS_len (s : Nat) : ∀ k, (prS b s k).length ≤ k - (s + 1) := by
  intro k
  induction k with
  | zero => exact Nat.zero_le _
  | succ k ih =>
    rw [prS_s, List.length_append]
    by_cases q : s < k ∧ isPr b s k = true
    · rw [if_pos q]; show _ + 1 ≤ _; omega
    · rw [if_neg q]; show _ + 0 ≤ _; omega
theorem prs_s (k : Nat) : prs b (k + 1) = prs b k ++ prS b k (gS b) := rfl
theorem prs_len (h : vb b) : ∀ s, s ≤ gS b → (prs b s).length ≤ tri s := by
  have hn := vb_n h
  intro s
  induction s with
  | zero => intro _; exact Nat.zero_le _
  | succ s ih =>
    intro hs
    have h1 := ih (by omega)
    have h2 := prS_len (b := b) s (gS b)
    rw [prs_s, List.length_append]
    show _ ≤ tri s + (11 - s)
    omega
theorem prS_pre (s : Nat) {k : Nat} : ∀ n, k ≤ n → prS b s k <+: prS b s n := by
  intro n
  induction n with
  | zero => intro h; rw [show k = 0 by omega]; exact List.prefix_rfl
  | succ n ih =>
    intro h
    by_cases e : k = n + 1
    · rw [e]; exact List.prefix_rfl
    · rw [prS_s]
      exact (ih (by omega)).trans (List.prefix_append _ _)
theorem prs_pre {k : Nat} : ∀ n, k ≤ n → prs b k <+: prs b n := by
  intro n
  induction n with
  | zero => intro h; rw [show k = 0 by omega]; exact List.prefix_rfl
  | succ n ih =>
    intro h
    by_cases e : k = n + 1
    · rw [e]; exact List.prefix_rfl
    · rw [prs_s]
      exact (ih (by omega)).trans (List.prefix_append _ _)
theorem pre_at {l l2 : List Int32} (h : l <+: l2) {i : Nat} (hi : i < l.length) : l2.getD i 0 = l.getD i 0 := by
  obtain ⟨r, rfl⟩ := h
  rw [List.getD_eq_getElem?_getD, List.getD_eq_getElem?_getD, List.getElem?_append_left hi]
/-- so far -/
abbrev pcur (b : Nat → Int32) (s o : Nat) : List Int32 := prs b s ++ prS b s o
theorem pcur_pre {s o : Nat} (hs : s < gS b) (ho : o ≤ gS b) : pcur b s o <+: prs b (gS b) := by
  have h1 : pcur b s o <+: prs b (s + 1) := by
    rw [prs_s]
    exact (List.prefix_append_right_inj _).mpr (prS_pre s (gS b) ho)
  exact h1.trans (prs_pre (gS b) (by omega))
theorem pcur_y {s o : Nat} (hso : s < o) (hp : isPr b s o = true) : pcur b s (o + 1) = pcur b s o ++ [nI (100 * s + o)] := by
  show prs b s ++ prS b s (o + 1) = _
  rw [prS_s, if_pos ⟨hso, hp⟩, List.append_assoc]
theorem pcur_n {s o : Nat} (hp : ¬ isPr b s o = true) : pcur b s (o + 1) = pcur b s o := by
  show prs b s ++ prS b s (o + 1) = _
  rw [prS_s, if_neg (fun z => hp z.2), List.append_nil]
theorem pcur_0 {s : Nat} : pcur b s (s + 1) = prs b s := by
  show prs b s ++ prS b s (s + 1) = _
  rw [prS_0 s (s + 1) (Nat.le_refl _), List.append_nil]
theorem pcur_e {s : Nat} : pcur b s (gS b) = prs b (s + 1) := rfl
theorem pcur_66 (h : vb b) {s o : Nat} (hso : s < o) (ho : o < gS b) : (pcur b s o).length < 66 := by
  have hn := vb_n h
  have h1 := prs_len h s (by omega)
  have h2 := prS_len (b := b) s o
  have h3 := tri_ck s (by omega) o (by omega) hso
  show (prs b s ++ prS b s o).length < 66
  rw [List.length_append]
  omega
theorem prs_66 (h : vb b) : (prs b (gS b)).length ≤ 66 := by
  have hn := vb_n h
  have h1 := prs_len h (gS b) (Nat.le_refl _)
  have : ∀ s, s ≤ 12 → tri s ≤ 66 := by decide
  have := this (gS b) hn
  omega
theorem getD_last {l : List Int32} {x : Int32} {i : Nat} : (l ++ [x]).getD i 0 = if i = l.length then x else l.getD i 0 := by
  rw [List.getD_eq_getElem?_getD, List.getD_eq_getElem?_getD]
  by_cases e : i = l.length
  · subst e
    rw [if_pos rfl, List.getElem?_append_right (Nat.le_refl _), Nat.sub_self]
    rfl
  · rw [if_neg e]
    by_cases q : i < l.length
    · rw [List.getElem?_append_left q]
    · rw [List.getElem?_eq_none (by rw [List.length_append]; show l.length + 1 ≤ i; omega), List.getElem?_eq_none (by omega)]
def prF (M M1 : sg_M) : Prop := ∀ a k, (a < 228 ∨ 248 ≤ a ∨ (a = 228 ∧ k ≠ 0 ∧ k ≠ 1 ∧ k ≠ 2 ∧ k ≠ 4 ∧ k ≠ 5)) → M1.1 a k = M.1 a k ∧ M1.2 a k = M.2 a k
def prD (l : List Int32) (M : sg_M) : Prop := M.1 228 2 = nI l.length ∧ ∀ i, i < l.length → M.1 229 i = l.getD i 0
set_option maxHeartbeats 1000000 in
theorem lpairs_ok {M : sg_M} (hc : cI b M) (hN : 1000 ≤ N) : ok (fX3_lookPairs N 228 13 M) (fun M1 => (cI b M1 ∧ low M M1) ∧ prD (prs b (gS b)) M1) := by
  have h := hc.1
  have hn := vb_n h
  unfold fX3_lookPairs
  refine ok_if (fun z => ok_m ?_) (fun z => ok_some ⟨⟨hc, low_refl⟩, hc.2.2.2.2.2.2.2.2.2.2 z⟩)
  have cN0 : cNet 13 b (sg_uI M 228 5 1) := cNet_c (cI_N hc) (fun a k g1 g2 _ => uI_na (by omega))
  have cL0 : cLs b (sg_uI M 228 5 1) := fun y => by
    rw [uI_nb (by omega)] at y
    obtain ⟨g1, g2⟩ := hc.2.2.2.2.2.2.2.2.2.1 y
    exact ⟨by rw [uI_nb (by omega), g1], by rw [uI_nb (by omega), g2]⟩
  refine ok_bv (singles_ok (N := N) h cN0 cL0 hN) (fun M1 h1 => ok_m (ok_m ?_))
  obtain ⟨F1, k4, k0, k1⟩ := h1
  suffices hs : ok (gX3_lookPairs_25 N (228, 13, 0) (sg_uI M1 228 2 0)) (fun M3 => prF M M3 ∧ M3.1 228 4 ≠ 0 ∧ M3.1 228 0 = oI (vtl b) ∧ M3.1 228 1 = spr b (gS b) ∧ prD (prs b (gS b)) M3) by
    refine ok_imp hs (fun M3 h3 => ?_)
    obtain ⟨hF, g4, g0, g1, gD⟩ := h3
    exact ⟨cI_seg (lo := 228) (hi := 248) hc (fun a k ha => hF a k (by omega)) (by omega) (Or.inr (Or.inr (by omega))) (Or.inr (Or.inr (by omega))) (Or.inr (Or.inr (by omega))) (Or.inl ⟨fun _ => ⟨g0, g1⟩, fun _ => gD⟩), gD⟩
  unfold gX3_lookPairs_25
  refine ok_for 0 (gS b) (fun s t M3 => t = (228, 13, nI s) ∧ prF M M3 ∧ M3.1 228 4 ≠ 0 ∧ M3.1 228 0 = oI (vtl b) ∧ M3.1 228 1 = spr b (gS b) ∧ prD (prs b s) M3) (by omega) (by omega) ⟨rfl, fun a k ha => ⟨by rw [uI_at, if_neg (by omega), (F1 a k (by omega)).1, uI_at, if_neg (by omega)], by rw [uI_l, (F1 a k (by omega)).2]; rfl⟩, by rw [uI_nb (by omega)]; exact k4, by rw [uI_nb (by omega), k0], by rw [uI_nb (by omega), k1], uI_eq, fun i hi => absurd hi (by show ¬ i < 0; omega)⟩ ?_ ?_
  · rintro s t M3 back hs ⟨rfl, hF, g4, g0, g1, gD⟩ hb
    unfold bX3_lookPairs_25
    dsimp only
    rw [(hF 13 6 (by omega)).1, cf6 hc, nI_1]
    refine ok_f (nI_ge hs (by omega)) (ok_m ?_)
    unfold gX3_lookPairs_37
    refine ok_for (s + 1) (gS b) (fun o t M4 => t = (228, 13, nI s, nI o) ∧ s < o ∧ prF M M4 ∧ M4.1 228 4 ≠ 0 ∧ M4.1 228 0 = oI (vtl b) ∧ M4.1 228 1 = spr b (gS b) ∧ prD (pcur b s o) M4) (by omega) (by omega) ⟨rfl, (by omega), hF, g4, g0, g1, by rw [pcur_0]; exact gD⟩ ?_ ?_
    · rintro o t M4 back2 ho ⟨rfl, hso, hF4, a4, a0, a1, aD⟩ hb2
      have cN4 : cNet 13 b M4 := cNet_c (cI_N hc) (fun a k g1 g2 _ => (hF4 a k (by omega)).1)
      have bs : bt (spr b (gS b)) s = sprB b s := by rw [bt_spr h _ (Nat.le_refl _) s (by omega), decide_eq_true (by omega), Bool.true_and]
      have bo : bt (spr b (gS b)) o = sprB b o := by rw [bt_spr h _ (Nat.le_refl _) o (by omega), decide_eq_true ho, Bool.true_and]
      have skip : ¬ isPr b s o = true → ok (back2 (228, 13, nI s, nI o + 1) M4) (fun M3 => prF M M3 ∧ M3.1 228 4 ≠ 0 ∧ M3.1 228 0 = oI (vtl b) ∧ M3.1 228 1 = spr b (gS b) ∧ prD (prs b (gS b)) M3) := fun np => hb2 _ _ ⟨by rw [nI_1], (by omega), hF4, a4, a0, a1, by rw [pcur_n np]; exact aD⟩
      unfold bX3_lookPairs_37
      dsimp only
      rw [(hF4 13 6 (by omega)).1, cf6 hc, a1]
      refine ok_f (nI_ge ho (by omega)) (ok_if (fun y => ?_) (fun y => ?_))
      · have y : sprB b s = true := by rw [← bs]; exact (bt_test1 (show s < 32 by omega)).mp y
        refine ok_if (fun x => ?_) (fun x => ?_)
        · have x : sprB b o = true := by rw [← bo]; exact (bt_test1 (show o < 32 by omega)).mp x
          have wv := wo_v h (show s < gS b by omega) ho
          have eP : isPr b s o = !hold (wo b s o) := by unfold isPr; rw [y, x]; rfl
          unfold fX3_tryPair
          obtain ⟨M5, e5, S5, F5⟩ := swo_ok (N := N) h cN4 (show s < gS b by omega) ho hN
          have sc : scoAt (sco (wo b s o)) 234 M5 := bsol_sco (f := 232) S5
          have n2 : M5.1 13 2 = nI (gT b) := by rw [(F5 13 2 (by omega)).1, cN4.1.2.2.1, vb_2 h]
          have F6 : prF M M5 := fun a k ha => by rw [(F5 a k (by omega)).1, (F5 a k (by omega)).2]; exact hF4 a k ha
          have D5 : prD (pcur b s o) M5 := ⟨by rw [(F5 228 2 (by omega)).1]; exact aD.1, fun i hi => by rw [(F5 229 i (by omega)).1]; exact aD.2 i hi⟩
          have p66 := pcur_66 h hso ho
          rw [e5, e_bv, y228_8, y232_3, n2, c_wT wv.1 sc (wdv_sm wv).2.2.1, e_b, D5.1, y228_3, yn_229, nI_clamp (show (pcur b s o).length < 2 ^ 31 by omega)]
          by_cases q : hold (wo b s o) = true
          · have np : ¬ isPr b s o = true := by rw [eP, q]; decide
            rw [if_pos q, if_neg q1, e_bv]
            exact ok_m (hb2 _ _ ⟨by rw [nI_1], (by omega), F6, by rw [(F5 228 4 (by omega)).1]; exact a4, by rw [(F5 228 0 (by omega)).1, a0], by rw [(F5 228 1 (by omega)).1, a1], by rw [pcur_n np]; exact D5⟩)
          · have ip : isPr b s o = true := by rw [eP]; simpa using q
            rw [if_neg q, if_pos q0, if_neg (show ¬ (66 : Int32) ≤ nI (pcur b s o).length from (show ¬ nI 66 ≤ nI (pcur b s o).length from nI_ge p66 (by omega))), if_pos (ib_nI (by omega) (by omega)), e_m, e_m, e_bv]
            have hmul : (100 : Int32) * nI s + nI o = nI (100 * s + o) := by rw [show (100 : Int32) = nI 100 from rfl, nI_mul, nI_add]
            refine ok_m (hb2 _ _ ⟨by rw [nI_1], (by omega), fun a k ha => ⟨?_, ?_⟩, ?_, ?_, ?_, ?_⟩)
            · rw [uI_at, if_neg (by omega), uI_na (by omega)]; exact (F6 a k ha).1
            · rw [uI_l, uI_l]; exact (F6 a k ha).2
            · rw [uI_nb (by omega), uI_na (by omega), (F5 228 4 (by omega)).1]; exact a4
            · rw [uI_nb (by omega), uI_na (by omega), (F5 228 0 (by omega)).1, a0]
            · rw [uI_nb (by omega), uI_na (by omega), (F5 228 1 (by omega)).1, a1]
            · rw [pcur_y hso ip]
              refine ⟨?_, fun i hi => ?_⟩
              · rw [uI_eq, uI_na (by omega), D5.1, nI_1]
                congr 1
                rw [List.length_append (as := pcur b s o)]
                rfl
              · rw [List.length_append] at hi
                have hi : i < (pcur b s o).length + 1 := hi
                rw [uI_na (by omega), hmul, getD_last]
                by_cases e : i = (pcur b s o).length
                · rw [if_pos e, e, uI_eq]
                · rw [if_neg e, uI_nb e]; exact D5.2 i (by omega)
        · have x : sprB b o = false := by
            cases q : sprB b o with
            | false => rfl
            | true => exact absurd ((bt_test1 (show o < 32 by omega)).mpr (bo.trans q)) x
          exact ok_m (skip (by unfold isPr; rw [x, Bool.and_false, Bool.false_and]; decide))
      · have y : sprB b s = false := by
          cases q : sprB b s with
          | false => rfl
          | true => exact absurd ((bt_test1 (show s < 32 by omega)).mpr (bs.trans q)) y
        exact ok_m (skip (by unfold isPr; rw [y, Bool.false_and, Bool.false_and]; decide))
    · rintro t M4 back2 ⟨rfl, hso, hF4, a4, a0, a1, aD⟩
      unfold bX3_lookPairs_37
      dsimp only
      rw [(hF4 13 6 (by omega)).1, cf6 hc, nI_1]
      exact ok_t (nI_le (Nat.le_refl _) (by omega)) (ok_m (hb _ _ ⟨rfl, hF4, a4, a0, a1, aD⟩))
  · rintro t M3 back ⟨rfl, hF, g4, g0, g1, gD⟩
    unfold bX3_lookPairs_25
    dsimp only
    rw [(hF 13 6 (by omega)).1, cf6 hc]
    exact ok_t (nI_le (Nat.le_refl _) (by omega)) (ok_some ⟨hF, g4, g0, g1, gD⟩)
/-! the reference's pairs -/
theorem hw_ok {s o : Nat} {M : sg_M} (h : vb b) (h1 : M.1 1 = b) (hs : s < gS b) (ho : o < gS b) (hN : 1000 ≤ N) : okA (fX11_holdsWithout N 0 (nI s) (nI o) M) (if hold (wo b s o) = true then 1 else 0) (fun M1 => M1.1 1 = b ∧ raB M M1) := by
  apply okA_of
  have hn := vb_n h
  have wv := wo_v h hs ho
  unfold fX11_holdsWithout
  rw [yr_1, yl_1, k_28, k_28, nI_clamp (show 28 + s < 2 ^ 31 by omega), nI_clamp (show 28 + o < 2 ^ 31 by omega), h1]
  refine ok_t (ib_nI (by omega) (by omega)) (ok_m (ok_t (ib_nI (by omega) (by omega)) (ok_m (ok_t (ib_nI (by omega) (by omega)) (ok_m (ok_t (ib_nI (by omega) (by omega)) (ok_m ?_)))))))
  have w1 : (sg_uI (sg_uI M 1 (28 + s) 0) 1 (28 + o) 0).1 1 = wo b s o := uW (uW h1)
  refine ok_a (r_hold (N := N) wv.1 w1 hN) (fun M5 h5 => ok_m (ok_t (ib_nI (by omega) (by omega)) (ok_m (ok_t (ib_nI (by omega) (by omega)) (ok_m (ok_t bz01 (ok_some ⟨rfl, ?_, ?_⟩)))))))
  · rw [uW (uW h5.1.2)]
    funext k
    unfold wo ub
    by_cases e1 : k = 28 + s
    · rw [if_pos e1, e1]
    · rw [if_neg e1]
      by_cases e2 : k = 28 + o
      · rw [if_pos e2, e2]
      · rw [if_neg e2, if_neg e2, if_neg e1]
  · exact raB_tr (raB_tr raB_1 raB_1) (raB_tr (raB_s h5.2) (raB_tr raB_1 raB_1))
theorem isPair_ok {s o : Nat} {M : sg_M} (h : vb b) (h1 : M.1 1 = b) (hs : s < gS b) (ho : o < gS b) (hN : 1000 ≤ N) : okA (fX11_isPair N 0 (nI s) (nI o) M) (if isPr b s o = true then 1 else 0) (fun M1 => M1.1 1 = b ∧ raB M M1) := by
  apply okA_of
  have hn := vb_n h
  have w4 := vb_w4 h (show s < 12 by omega)
  have w5 := vb_w4 h (show o < 12 by omega)
  unfold fX11_isPair
  rw [yr_1, yl_1, k_28, k_28, nI_clamp (show 28 + s < 2 ^ 31 by omega), nI_clamp (show 28 + o < 2 ^ 31 by omega), h1, vb_w h (show s < 12 by omega), vb_w h (show o < 12 by omega)]
  have no : ∀ M1 : sg_M, M1.1 1 = b → raB M M1 → isPr b s o = false → ok (some ((0 : Int32), M1)) (fun res => res.1 = (if isPr b s o = true then 1 else 0) ∧ res.2.1 1 = b ∧ raB M res.2) := fun M1 g1 g2 g3 => ok_some ⟨by rw [g3]; rfl, g1, g2⟩
  refine ok_t (ib_nI (by omega) (by omega)) (ok_if (fun z => ?_) (fun z => ?_))
  · have z := (nI_z (by omega)).mp z
    exact no M h1 raB_refl (by unfold isPr sprB; rw [decide_eq_false (by omega), Bool.false_and, Bool.false_and, Bool.false_and])
  have z : 0 < gW b s := by
    have : ¬ gW b s = 0 := fun w => z ((nI_z (by omega)).mpr w)
    omega
  refine ok_t (ib_nI (by omega) (by omega)) (ok_if (fun y => ?_) (fun y => ?_))
  · have y := (nI_z (by omega)).mp y
    exact no M h1 raB_refl (by unfold isPr; rw [show sprB b o = false by unfold sprB; rw [decide_eq_false (by omega), Bool.false_and], Bool.and_false, Bool.false_and])
  have y : 0 < gW b o := by
    have : ¬ gW b o = 0 := fun w => y ((nI_z (by omega)).mpr w)
    omega
  have e1 : sprB b s = hold (wo b s s) := by unfold sprB; rw [decide_eq_true z, Bool.true_and]
  have e2 : sprB b o = hold (wo b o o) := by unfold sprB; rw [decide_eq_true y, Bool.true_and]
  have eP : isPr b s o = (hold (wo b s s) && hold (wo b o o) && !hold (wo b s o)) := by unfold isPr; rw [e1, e2]
  refine ok_a (hw_ok (N := N) h h1 hs ho hN) (fun M1 g1 => ?_)
  by_cases q : hold (wo b s o) = true
  · rw [if_pos q]
    exact ok_f q1 (no M1 g1.1 g1.2 (by rw [eP, q]; simp))
  rw [if_neg q]
  have q : hold (wo b s o) = false := by simpa using q
  refine ok_t q0 (ok_a (hw_ok (N := N) h g1.1 hs hs hN) (fun M2 g2 => ?_))
  have r2 := raB_tr g1.2 g2.2
  by_cases p : hold (wo b s s) = true
  case neg =>
    rw [if_neg p]
    exact ok_t q0 (no M2 g2.1 r2 (by rw [eP, show hold (wo b s s) = false by simpa using p]; simp))
  rw [if_pos p]
  refine ok_f q1 (ok_a (hw_ok (N := N) h g2.1 ho ho hN) (fun M3 g3 => ?_))
  have r3 := raB_tr r2 g3.2
  by_cases t : hold (wo b o o) = true
  · rw [if_pos t]
    exact ok_f q1 (ok_some ⟨by rw [eP, p, t, q]; rfl, g3.1, r3⟩)
  · rw [if_neg t]
    exact ok_t q0 (no M3 g3.1 r3 (by rw [eP, show hold (wo b o o) = false by simpa using t]; simp))
/-- by number, or how many -/
def pBy (b : Nat → Int32) (x : Int32) : Int32 := if 0 ≤ x then (if x.toNatClampNeg < (prs b (gS b)).length then (prs b (gS b)).getD x.toNatClampNeg 0 else -1) else nI (prs b (gS b)).length
set_option maxHeartbeats 1000000 in
theorem pairBy_ok {x : Int32} {M : sg_M} (h : vb b) (h1 : M.1 1 = b) (hx : 0 ≤ x ∨ x = -1) (hN : 1000 ≤ N) : okA (fX11_pairBy N 0 x M) (pBy b x) (fun M1 => M1.1 1 = b ∧ raB M M1) := by
  apply okA_of
  have hn := vb_n h
  have l66 := prs_66 h
  have hxl : ∀ n, n < 2 ^ 31 → (nI n = x ↔ 0 ≤ x ∧ x.toNatClampNeg = n) := fun n hn => by
    rcases hx with q | q
    · obtain ⟨t, ht, rfl⟩ := nn_ex q
      rw [nI_eq hn ht, nI_clamp ht]
      exact ⟨fun e => ⟨q, e.symm⟩, fun e => e.2.symm⟩
    · subst q
      rw [qn1 hn]
      exact ⟨fun z => z.elim, fun z => absurd z.1 (by decide)⟩
  unfold fX11_pairBy
  refine ok_m (ok_m ?_)
  unfold gX11_pairBy_4
  refine ok_for 0 (gS b) (fun s t M1 => t = (0, x, nI (prs b s).length, nI s) ∧ M1.1 1 = b ∧ raB M M1 ∧ (0 ≤ x → (prs b s).length ≤ x.toNatClampNeg)) (by omega) (by omega) ⟨rfl, h1, raB_refl, fun _ => Nat.zero_le _⟩ ?_ ?_
  · rintro s t M1 back hs ⟨rfl, w1, r1, hl⟩ hb
    unfold bX11_pairBy_4
    dsimp only
    refine ok_a (r_stp (N := N) h w1 (by omega)) (fun M2 g2 => ok_f (nI_ge hs (by omega)) (ok_m ?_))
    have F2 := rFr_rsF g2.2
    rw [nI_1]
    unfold gX11_pairBy_17
    refine ok_for (s + 1) (gS b) (fun o t M3 => t = (0, x, nI (pcur b s o).length, nI s, nI o) ∧ s < o ∧ M3.1 1 = b ∧ raB M M3 ∧ (0 ≤ x → (pcur b s o).length ≤ x.toNatClampNeg)) (by omega) (by omega) ⟨by rw [pcur_0], (by omega), (rsF_11 F2).trans w1, raB_tr r1 (raB_s F2), by rw [pcur_0]; exact hl⟩ ?_ ?_
    · rintro o t M3 back2 ho ⟨rfl, hso, w3, r3, hl3⟩ hb2
      have p66 := pcur_66 h hso ho
      unfold bX11_pairBy_17
      dsimp only
      refine ok_a (r_stp (N := N) h w3 (by omega)) (fun M4 g4 => ok_f (nI_ge ho (by omega)) ?_)
      have F4 := rFr_rsF g4.2
      have w4 : M4.1 1 = b := (rsF_11 F4).trans w3
      refine ok_a (isPair_ok (N := N) h w4 hs ho hN) (fun M5 g5 => ?_)
      have r5 : raB M M5 := raB_tr r3 (raB_tr (raB_s F4) g5.2)
      by_cases ip : isPr b s o = true
      case neg =>
        rw [if_neg ip]
        exact ok_t q0 (ok_m (hb2 _ _ ⟨by rw [pcur_n ip, nI_1], (by omega), g5.1, r5, by rw [pcur_n ip]; exact hl3⟩))
      rw [if_pos ip]
      have py := pcur_y hso ip
      have pl : (pcur b s (o + 1)).length = (pcur b s o).length + 1 := by rw [py, List.length_append]; rfl
      have pre := pcur_pre (b := b) (o := o + 1) hs (by omega)
      refine ok_f q1 (ok_if (fun z => ?_) (fun z => ?_))
      · obtain ⟨z1, z2⟩ := (hxl _ (by omega)).mp z
        refine ok_some ⟨?_, g5.1, r5⟩
        unfold pBy
        have lt : x.toNatClampNeg < (pcur b s (o + 1)).length := by omega
        have lt2 : (pcur b s (o + 1)).length ≤ (prs b (gS b)).length := pre.length_le
        rw [if_pos z1, if_pos (by omega), pre_at pre lt, py, getD_last, if_pos z2, show (100 : Int32) = nI 100 from rfl, nI_mul, nI_add]
      · have z : 0 ≤ x → (pcur b s (o + 1)).length ≤ x.toNatClampNeg := fun y => by
          have : ¬ x.toNatClampNeg = (pcur b s o).length := fun w => z ((hxl _ (by omega)).mpr ⟨y, w⟩)
          have := hl3 y
          omega
        exact ok_m (ok_m (hb2 _ _ ⟨by rw [nI_1, nI_1, pl], (by omega), g5.1, r5, z⟩))
    · rintro t M3 back2 ⟨rfl, hso, w3, r3, hl3⟩
      unfold bX11_pairBy_17
      dsimp only
      refine ok_a (r_stp (N := N) h w3 (by omega)) (fun M4 g4 => ok_t (nI_le (Nat.le_refl _) (by omega)) (ok_m (hb _ _ ⟨by rw [nI_1, pcur_e], ?_, ?_, hl3⟩)))
      · exact (rsF_11 (rFr_rsF g4.2)).trans w3
      · exact raB_tr r3 (raB_s (rFr_rsF g4.2))
  · rintro t M1 back ⟨rfl, w1, r1, hl⟩
    unfold bX11_pairBy_4
    dsimp only
    refine ok_a (r_stp (N := N) h w1 (by omega)) (fun M2 g2 => ok_t (nI_le (Nat.le_refl _) (by omega)) ?_)
    have F2 := rFr_rsF g2.2
    have w2 : M2.1 1 = b := (rsF_11 F2).trans w1
    unfold pBy
    refine ok_if (fun z => ?_) (fun z => ?_)
    · have := hl z
      exact ok_some ⟨by rw [if_pos z, if_neg (by omega)], w2, raB_tr r1 (raB_s F2)⟩
    · exact ok_some ⟨by rw [if_neg z], w2, raB_tr r1 (raB_s F2)⟩
theorem q_pairs (hN : 1000 ≤ N) : bth b (fX10_pairs N 0) (fX11_pairs N 0) := by
  intro Mc Mr hc hr
  have h := hc.1
  obtain ⟨M2, e2, c2, d2⟩ := lpairs_ok (N := N) hc hN
  obtain ⟨M1, e1, w1, r1⟩ := pairBy_ok (N := N) (x := -1) h hr (Or.inr rfl) hN
  unfold fX10_pairs fX11_pairs
  rw [c_ng hc, r_grd h hr, e_b, e_b, if_pos q0, if_neg q1, y0_11, y0_1, e2, e_bv, e1, e_b, d2.1]
  exact ⟨_, ⟨_, rfl, c2⟩, ⟨_, rfl, reW_to (raB_W r1) (w1.trans hr.symm)⟩⟩
theorem q_pair {x : Int32} (hN : 1000 ≤ N) : bth b (fX10_pair N 0 x) (fX11_pair N 0 x) := by
  intro Mc Mr hc hr
  have h := hc.1
  have l66 := prs_66 h
  unfold fX10_pair fX11_pair
  rw [c_ng hc, r_grd h hr, e_b, e_b, if_pos q0, if_neg q1]
  by_cases hx : 0 ≤ x
  case neg =>
    have hx2 : x < 0 := by
      rw [Int32.le_iff_toInt_le] at hx
      rw [Int32.lt_iff_toInt_lt]
      omega
    rw [if_neg hx, if_pos hx2]
    exact ⟨-2, ⟨_, rfl, hc, low_refl⟩, ⟨_, rfl, rEq_refl⟩⟩
  have hx2 : ¬ x < 0 := by
    rw [Int32.le_iff_toInt_le] at hx
    rw [Int32.lt_iff_toInt_lt]
    omega
  obtain ⟨M2, e2, c2, d2⟩ := lpairs_ok (N := N) hc hN
  obtain ⟨M1, e1, w1, r1⟩ := pairBy_ok (N := N) (x := x) h hr (Or.inl hx) hN
  rw [if_pos hx, if_neg hx2, y0_11, y0_1, e2, e_bv, e1, e_b, d2.1, y228_3, yn_229]
  have er : rEq Mr M1 := reW_to (raB_W r1) (w1.trans hr.symm)
  unfold pBy
  rw [if_pos hx]
  obtain ⟨t, ht, rfl⟩ := nn_ex hx
  rw [nI_clamp ht]
  by_cases q : t < (prs b (gS b)).length
  · rw [if_pos q, if_neg (nI_ge q (by omega)), if_pos (ib_nI (by omega) (by omega)), d2.2 t q]
    exact ⟨_, ⟨_, rfl, c2⟩, ⟨_, rfl, er⟩⟩
  · rw [if_neg q, if_pos (nI_le (by omega) (by omega))]
    exact ⟨_, ⟨_, rfl, c2⟩, ⟨_, rfl, er⟩⟩
end PR
