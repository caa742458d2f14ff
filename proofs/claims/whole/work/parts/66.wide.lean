/-! widths: the class's StrapSearch, by steps -/
def wdv (b d : Nat → Int32) : Prop := vb d ∧ ∀ k, (k < 28 ∨ 40 ≤ k) → d k = b k
def nw (up : Bool) (w : Nat) : Nat := bif up then w + 1 else w - 1
def cnd (up : Bool) (w : Nat) : Bool := bif up then decide (w < 4) else decide (0 < w)
def dlt (up : Bool) : Int32 := bif up then 1 else -1
theorem dl_y : ∀ w, w < 5 → ∀ up, cnd up w = true → (nI w + dlt up = nI (nw up w) ∧ nw up w ≤ 4 ∧ nI (nw up w) - dlt up = nI w) := by decide
theorem dl_n : ∀ w, w < 5 → ∀ up, cnd up w = false → (nI w + dlt up < 0 ∨ 4 < nI w + dlt up) := by decide
abbrev fW (up : Bool) (d : Nat → Int32) : Nat → Nat × Int × Int := fun s => sco (wB d s (nw up (gW d s)))
abbrev pW (up : Bool) (d : Nat → Int32) : Nat → Bool := fun s => cnd up (gW d s)
abbrev bsx (up : Bool) (d : Nat → Int32) (n : Nat) : Option Nat := bst (fun k j => btr (fW up d k) (fW up d j)) (pW up d) n
section WI
variable {N : Nat} {b : Nat → Int32}
theorem bsx_u (d : Nat → Int32) : bsx true d (gS d) = bsu d := rfl
theorem bsx_d (d : Nat → Int32) : bsx false d (gS d) = bsd d := rfl
theorem wdv_r (h : vb b) : wdv b b := ⟨h, fun _ _ => rfl⟩
theorem wdv_sm {d : Nat → Int32} (h : wdv b d) : sm b d := sm_of (fun i hi => h.2 i (by omega))
theorem wdv_wB {d : Nat → Int32} {s x : Nat} (h : wdv b d) (hs : s < gS b) (hx : x ≤ 4) : wdv b (wB d s x) := by
  have hn := vb_n h.1
  have e : gS d = gS b := (wdv_sm h).2.2.2.2.1
  refine ⟨(vb_wB h.1 (by omega) hx).1, fun k hk => ?_⟩
  show ub _ _ _ _ = _
  rw [ub_ne (by omega), h.2 k hk]
theorem settle_w {f a : Nat} {d : Nat → Int32} {M : sg_M} (hf : sg_K Yc f 1) (hfq : 17 < f) (ha : a < f) (hla : Yc.2.2.1 a = 12) (hc : cNet 13 b M) (h : wdv b d) (hw : ∀ s, s < 12 → M.1 a s = d (28 + s)) (hN : 1000 ≤ N) : ok (fX1_settle N f 13 a (b 5) 17 M) (fun M1 => bsol d f M1 ∧ fr f (f + 16) M M1) := by
  rw [← h.2 5 (by omega)]
  exact ok_imp (settle_b (N := N) (f := f) (a := a) (ld := 17) (d := d) hf h.1 (by omega) (Or.inl ha) hla (Or.inl (by omega)) yn_17 (sm_G (wdv_sm h) (cNet_G hc)) hw (fun v hv => by rw [hc.2.2.2.1 v hv, h.2 _ (by omega)]) hN) (fun M1 h1 => ⟨h1.1, h1.2.1⟩)
theorem K212 : sg_K Yc 212 1 := ⟨by decide, by decide⟩
theorem y205_2 : Yc.2.2.2 205 2 = 206 := by decide
theorem y205_4 : Yc.2.2.2 205 4 = 207 := by decide
theorem y205_6 : Yc.2.2.2 205 6 = 208 := by decide
theorem y205_10 : Yc.2.2.2 205 10 = 209 := by decide
theorem y205_11 : Yc.2.2.2 205 11 = 210 := by decide
theorem y205_12 : Yc.2.2.2 205 12 = 211 := by decide
theorem y205_13 : Yc.2.2.2 205 13 = 212 := by decide
theorem y212_3 : Yc.2.2.2 212 3 = 214 := by decide
theorem yn_206 : Yc.2.2.1 206 = 20 := by decide
theorem yn_207 : Yc.2.2.1 207 = 3 := by decide
theorem yn_208 : Yc.2.2.1 208 = 12 := by decide
theorem yn_209 : Yc.2.2.1 209 = 12 := by decide
/-- what the trying of widths leaves -/
def wF (M M1 : sg_M) : Prop := ∀ a k, (a < 209 ∨ a = 211 ∨ 228 ≤ a) → M1.1 a k = M.1 a k ∧ M1.2 a k = M.2 a k
theorem wF_refl {M : sg_M} : wF M M := fun _ _ _ => ⟨rfl, rfl⟩
theorem wF_tr {M M1 M2 : sg_M} (h : wF M M1) (h2 : wF M1 M2) : wF M M2 := fun a k ha => ⟨((h2 a k ha).1).trans (h a k ha).1, ((h2 a k ha).2).trans (h a k ha).2⟩
theorem w_at {d : Nat → Int32} {s x t : Nat} : wB d s x (28 + t) = if t = s then nI x else d (28 + t) := by
  show ub _ _ _ _ = _
  unfold ub
  by_cases e : t = s
  · rw [if_pos e, if_pos (by omega)]
  · rw [if_neg e, if_neg (by omega)]
set_option maxHeartbeats 1000000 in
theorem bestChange_ok {up : Bool} {d : Nat → Int32} {M : sg_M} (hc : cNet 13 b M) (h : wdv b d) (hw : ∀ s, s < 12 → M.1 209 s = d (28 + s)) (hN : 1000 ≤ N) : okA (fX8_bestChange N 205 13 (dlt up) M) (oI (bsx up d (gS d))) (fun M1 => wF M M1 ∧ (∀ s, s < 12 → M1.1 209 s = d (28 + s)) ∧ ∀ j, bsx up d (gS d) = some j → scoAt (fW up d j) 210 M1) := by
  apply okA_of
  have hn := vb_n h.1
  have eS : gS d = gS b := (wdv_sm h).2.2.2.2.1
  have n6 : M.1 13 6 = nI (gS d) := by rw [eS]; exact (cNet_G hc).2.1
  have o1 : ∀ k, k ≤ gS d → (oI (bsx up d k) = -1 ↔ bsx up d k = none) := fun k hk => oI_n1 (fun j e => by have := (bst_lt e).1; omega)
  have wv : ∀ s, s < gS d → cnd up (gW d s) = true → wdv b (wB d s (nw up (gW d s))) := fun s hs hcn => wdv_wB h (by omega) (dl_y _ (by have := vb_w4 h.1 (show s < 12 by omega); omega) up hcn).2.1
  unfold fX8_bestChange
  refine ok_m (ok_m ?_)
  unfold gX8_bestChange_5
  refine ok_for 0 (gS d) (fun i s M1 => s = (205, 13, dlt up, oI (bsx up d i), nI i) ∧ wF M M1 ∧ (∀ s, s < 12 → M1.1 209 s = d (28 + s)) ∧ ∀ j, bsx up d i = some j → scoAt (fW up d j) 210 M1) (by omega) (by omega) ⟨rfl, wF_refl, hw, fun j e => by cases e⟩ ?_ ?_
  · rintro i s M1 back hi ⟨rfl, hF, hW, hB⟩ hb
    have w4 := vb_w4 h.1 (show i < 12 by omega)
    unfold bX8_bestChange_5
    dsimp only
    rw [(hF 13 6 (by omega)).1, n6, y205_10, y205_11, y205_13, y212_3, y13_12, yn_209, nI_clamp (show i < 2 ^ 31 by omega), hW i (by omega), vb_w h.1 (by omega), nI_1]
    refine ok_f (nI_ge hi (by omega)) (ok_t (ib_nI (by omega) (by omega)) (ok_m ?_))
    cases hcn : cnd up (gW d i) with
    | false =>
      have nz : ¬ pW up d i = true := by show ¬ cnd up (gW d i) = true; rw [hcn]; decide
      have e : bsx up d (i + 1) = bsx up d i := bst_no nz
      have go : ok (back (205, 13, dlt up, oI (bsx up d i), nI (i + 1)) M1) (fun res => res.1 = oI (bsx up d (gS d)) ∧ wF M res.2 ∧ (∀ s, s < 12 → res.2.1 209 s = d (28 + s)) ∧ ∀ j, bsx up d (gS d) = some j → scoAt (fW up d j) 210 res.2) := hb _ _ ⟨by rw [e], hF, hW, fun j e2 => hB j (e ▸ e2)⟩
      rcases dl_n _ (show gW d i < 5 by omega) up hcn with q | q
      · exact ok_t q (ok_m go)
      · exact ok_if (fun _ => ok_m go) (fun _ => ok_t q (ok_m go))
    | true =>
      obtain ⟨y1, y2, y3⟩ := dl_y _ (show gW d i < 5 by omega) up hcn
      have pz : pW up d i = true := hcn
      have wvi := wv i hi hcn
      rw [y1]
      refine ok_f (fun q => by rw [nlt0 (by omega)] at q; exact q) (ok_f (show ¬ nI 4 < nI (nw up (gW d i)) from nI_nlt y2 (by omega)) (ok_t (ib_nI (by omega) (by omega)) (ok_m ?_)))
      have n7 : (sg_uI M1 209 i (nI (nw up (gW d i)))).1 13 7 = b 5 := by rw [uI_na (by omega), (hF 13 7 (by omega)).1]; exact hc.1.2.2.2.2.2
      rw [n7]
      refine ok_bv (settle_w (N := N) (f := 212) (a := 209) K212 (by omega) (by omega) yn_209 (cNet_c hc (fun a k g1 g2 _ => by rw [uI_na (by omega)]; exact (hF a k (by omega)).1)) wvi (fun t ht => ?_) hN) (fun M2 h2 => ?_)
      · rw [w_at]
        by_cases e : t = i
        · subst e; rw [uI_eq, if_pos rfl]
        · rw [uI_nb e, if_neg e]; exact hW t ht
      obtain ⟨S2, F2⟩ := h2
      refine ok_t (ib_nI (by omega) (by omega)) (ok_m ?_)
      rw [y3]
      have F3 : wF M (sg_uI M2 209 i (nI (gW d i))) := fun a k ha => ⟨by rw [uI_na (by omega), (F2 a k (by omega)).1, uI_na (by omega)]; exact (hF a k ha).1, by rw [uI_l, (F2 a k (by omega)).2]; exact (hF a k ha).2⟩
      have W3 : ∀ t, t < 12 → (sg_uI M2 209 i (nI (gW d i))).1 209 t = d (28 + t) := fun t ht => by
        by_cases e : t = i
        · subst e; rw [uI_eq, vb_w h.1 ht]
        · rw [uI_nb e, (F2 209 t (by omega)).1, uI_nb e]; exact hW t ht
      have sc : scoAt (fW up d i) 214 (sg_uI M2 209 i (nI (gW d i))) := scoAt_c (bsol_sco (f := 212) S2) (fun k => ⟨uI_na (by omega), rfl⟩)
      have upd2 : bsx up d (i + 1) = some i → ok (gX8_bestChange_98 N back 205 13 (dlt up) (nI i) (sg_uI M2 209 i (nI (gW d i)))) (fun res => res.1 = oI (bsx up d (gS d)) ∧ wF M res.2 ∧ (∀ s, s < 12 → res.2.1 209 s = d (28 + s)) ∧ ∀ j, bsx up d (gS d) = some j → scoAt (fW up d j) 210 res.2) := fun e => by
        unfold gX8_bestChange_98
        rw [y205_11, y205_13, y212_3, nI_1]
        refine ok_m (ok_bv (c_cpy (N := N) (j1 := 210) sc (by omega)) (fun M3 h3 => ok_m (hb _ _ ⟨by rw [e]; rfl, fun a k ha => ?_, fun t ht => ?_, fun j e2 => ?_⟩)))
        · rw [(h3.2 a k (by omega)).1, (h3.2 a k (by omega)).2]; exact F3 a k ha
        · rw [(h3.2 209 t (by omega)).1]; exact W3 t ht
        · rw [e] at e2; cases e2; exact h3.1
      refine ok_if (fun y => ?_) (fun y => ?_)
      · exact upd2 (bst_1 pz ((o1 i (by omega)).mp y))
      · cases e4 : bsx up d i with
        | none => exact absurd ((o1 i (by omega)).mpr e4) y
        | some j =>
          obtain ⟨hj, pj⟩ := bst_lt e4
          have sj : scoAt (fW up d j) 210 (sg_uI M2 209 i (nI (gW d i))) := scoAt_c (hB j e4) (fun k => ⟨by rw [uI_na (by omega), (F2 210 k (by omega)).1, uI_na (by omega)], by rw [uI_l, (F2 210 k (by omega)).2, uI_l]⟩)
          rw [c_btr sc sj (gsc_b wvi.1) (gsc_b (wv j (by omega) pj).1), e_b]
          by_cases l : btr (fW up d i) (fW up d j) = true
          · rw [if_pos l]
            exact ok_f q1 (upd2 (bst_2 pz e4 l))
          · rw [if_neg l]
            have e : bsx up d (i + 1) = some j := bst_3 pz e4 l
            exact ok_t q0 (ok_m (hb _ _ ⟨by rw [e], F3, W3, fun k e2 => by rw [e] at e2; cases e2; exact sj⟩))
  · rintro s M1 back ⟨rfl, hF, hW, hB⟩
    unfold bX8_bestChange_5
    dsimp only
    rw [(hF 13 6 (by omega)).1, n6]
    exact ok_t (nI_le (Nat.le_refl _) (by omega)) (ok_some ⟨rfl, hF, hW, hB⟩)
theorem start_ok {M : sg_M} (h : vb b) (hc : cNet 13 b M) (hN : 1000 ≤ N) : ok (fX8_start N 205 13 M) (fun M1 => wF M M1 ∧ (∀ s, s < 12 → M1.1 209 s = b (28 + s)) ∧ scoAt (sco b) 214 M1) := by
  unfold fX8_start
  rw [y205_10, y205_13, y13_11, y13_12, yn_16, yn_209, show ((0 : Int32)).toNatClampNeg = 0 by decide, show ((12 : Int32)).toNatClampNeg = 12 by decide]
  refine ok_t (by decide) (ok_m ?_)
  have W1 : ∀ s, s < 12 → (sg_cpy M 16 209 0 0 12).1 209 s = b (28 + s) := fun s hs => by rw [cpy_in hs]; exact hc.2.2.1 s hs
  rw [show (sg_cpy M 16 209 0 0 12).1 13 7 = b 5 by rw [cpy_na (by omega)]; exact hc.1.2.2.2.2.2]
  refine ok_bv (settle_w (N := N) (f := 212) (a := 209) K212 (by omega) (by omega) yn_209 (cNet_c hc (fun a k g1 g2 _ => cpy_na (by omega))) (wdv_r h) W1 hN) (fun M2 h2 => ok_some ⟨fun a k ha => ⟨?_, ?_⟩, fun s hs => ?_, bsol_sco (f := 212) h2.1⟩)
  · rw [(h2.2 a k (by omega)).1, cpy_na (by omega)]
  · rw [(h2.2 a k (by omega)).2, cpy_l]
  · rw [(h2.2 209 s (by omega)).1, W1 s hs]
theorem wg_s {i s : Nat} (e : nxw (wg b i) = some s) : wg b (i + 1) = wB (wg b i) s (gW (wg b i) s + 1) := by
  show (match nxw (wg b i) with | none => wg b i | some s => wB (wg b i) s (gW (wg b i) s + 1)) = _
  rw [e]
theorem wg_n {i : Nat} (e : nxw (wg b i) = none) : wg b (i + 1) = wg b i := by
  show (match nxw (wg b i) with | none => wg b i | some s => wB (wg b i) s (gW (wg b i) s + 1)) = _
  rw [e]
theorem nxw_lt {d : Nat → Int32} {s : Nat} (h : wdv b d) (e : nxw d = some s) : s < gS b ∧ gW d s < 4 ∧ bsu d = some s ∧ btr (fW true d s) (sco d) = true := by
  unfold nxw at e
  cases e2 : bsu d with
  | none => rw [e2] at e; cases e
  | some j =>
    rw [e2] at e
    have e : (if btr (sco (wB d j (gW d j + 1))) (sco d) = true then some j else none) = some s := e
    by_cases q : btr (sco (wB d j (gW d j + 1))) (sco d) = true
    · rw [if_pos q] at e
      cases e
      obtain ⟨h1, h2⟩ := bst_lt e2
      rw [(wdv_sm h).2.2.2.2.1] at h1
      exact ⟨h1, of_decide_eq_true h2, rfl, q⟩
    · rw [if_neg q] at e; cases e
theorem nxw_no {d : Nat → Int32} (h1 : bsu d = none ∨ ∃ j, bsu d = some j ∧ ¬ btr (fW true d j) (sco d) = true) : nxw d = none := by
  unfold nxw
  rcases h1 with e | ⟨j, e, q⟩
  · rw [e]
  · rw [e]
    exact if_neg q
theorem nxw_ye {d : Nat → Int32} {j : Nat} (e : bsu d = some j) (q : btr (fW true d j) (sco d) = true) : nxw d = some j := by
  unfold nxw
  rw [e]
  exact if_pos q
theorem wg_v (h : vb b) : ∀ i, wdv b (wg b i) := by
  intro i
  induction i with
  | zero => exact wdv_r h
  | succ i ih =>
    cases e : nxw (wg b i) with
    | none => rw [wg_n e]; exact ih
    | some s =>
      rw [wg_s e]
      have := nxw_lt ih e
      exact wdv_wB ih this.1 (by omega)
theorem cSg_c {M M1 : sg_M} (h : cSg b M) (e5 : ∀ k, (k = 0 ∨ k = 1 ∨ k = 7) → M1.1 205 k = M.1 205 k) (e6 : ∀ k, M1.1 206 k = M.1 206 k) : cSg b M1 := fun z => by
  rw [e5 7 (by omega)] at z
  obtain ⟨h1, h2, h3⟩ := h z
  exact ⟨by rw [e5 0 (by omega), h1], by rw [e5 1 (by omega), h2], fun i hi => by rw [e6 i, h3 i hi]⟩
theorem cSl_c {M M1 : sg_M} (h : cSl b M) (e5 : ∀ k, (k = 3 ∨ k = 8) → M1.1 205 k = M.1 205 k) (e6 : ∀ k, M1.1 207 k = M.1 207 k) : cSl b M1 := fun z => by
  rw [e5 8 (by omega)] at z
  obtain ⟨h1, h2⟩ := h z
  exact ⟨by rw [e5 3 (by omega), h1], fun h4 l hl i hi => by rw [e6 i, h2 h4 l hl i hi]⟩
theorem cSs_c {M M1 : sg_M} (h : cSs b M) (e5 : ∀ k, (k = 5 ∨ k = 9) → M1.1 205 k = M.1 205 k) (e6 : ∀ k, M1.1 208 k = M.1 208 k) : cSs b M1 := fun z => by
  rw [e5 9 (by omega)] at z
  obtain ⟨h1, h2⟩ := h z
  exact ⟨fun q => ⟨by rw [e5 5 (by omega), (h1 q).1], fun s hs => by rw [e6 s, (h1 q).2 s hs]⟩, fun q => by rw [e5 5 (by omega), h2 q]⟩
abbrev pG (b : Nat → Int32) : Nat → Bool := fun i => hold (wg b i) || (nxw (wg b i)).isNone
theorem c_wT {j : Nat} {d : Nat → Int32} {M : sg_M} (h : vb d) (hs : scoAt (sco d) j M) (eT : gT d = gT b) : fX7_isWithin N j (nI (gT b)) M = some (if hold d = true then 1 else 0, M) := by
  rw [← eT, hold_w]
  have g := gsc_b h
  exact c_wth hs (vb_T h) g.1 g.2.1 g.2.2
set_option maxHeartbeats 1000000 in
theorem wgreedy_ok {M : sg_M} (hc : cI b M) (hN : 1000 ≤ N) : ok (fX8_lookGreedy N 205 13 M) (fun M1 => cI b M1 ∧ low M M1 ∧ M1.1 205 7 ≠ 0) := by
  have h := hc.1
  have hn := vb_n h
  unfold fX8_lookGreedy
  refine ok_if (fun z => ok_m (ok_m ?_)) (fun z => ok_some ⟨hc, low_refl, z⟩)
  rw [y205_12, y205_13, y212_3]
  have u2 : ∀ a k, (a ≠ 205 ∨ (k ≠ 7 ∧ k ≠ 0)) → (sg_uI (sg_uI M 205 7 1) 205 0 0).1 a k = M.1 a k := fun a k ha => by rw [uI_at, if_neg (by omega), uI_at, if_neg (by omega)]
  refine ok_bv (start_ok (N := N) h (cNet_c (cI_N hc) (fun a k g1 g2 _ => u2 a k (by omega))) hN) (fun M1 h1 => ?_)
  obtain ⟨F1, W1, S1⟩ := h1
  refine ok_bv (c_cpy (N := N) (j1 := 211) S1 (by omega)) (fun M2 h2 => ok_m ?_)
  obtain ⟨S2, F2⟩ := h2
  suffices hs : ok (gX8_lookGreedy_39 N (205, 13, 0) M2) (fun M3 => (∀ a k, (a < 205 ∨ a = 207 ∨ a = 208 ∨ 228 ≤ a ∨ (a = 205 ∧ k ≠ 0 ∧ k ≠ 1 ∧ k ≠ 7)) → M3.1 a k = M.1 a k ∧ M3.2 a k = M.2 a k) ∧ M3.1 205 7 = 1 ∧ M3.1 205 0 = nI (wgN b) ∧ M3.1 205 1 = (if hold (wg b (wgN b)) = true then 1 else 0) ∧ ∀ i, i < wgN b → M3.1 206 i = oI (nxw (wg b i))) by
    refine ok_imp hs (fun M3 h3 => ?_)
    obtain ⟨hF, h7, h0, h1, hG⟩ := h3
    have := cI_seg (lo := 205) (hi := 228) hc (fun a k ha => hF a k (by omega)) (by omega) (Or.inr (Or.inr (by omega))) (Or.inr (Or.inr (by omega))) (Or.inl ⟨fun _ => ⟨h0, h1, hG⟩, cSl_c hc.2.2.2.2.2.2.2.1 (fun k hk => (hF 205 k (by omega)).1) (fun k => (hF 207 k (by omega)).1), cSs_c hc.2.2.2.2.2.2.2.2.1 (fun k hk => (hF 205 k (by omega)).1) (fun k => (hF 208 k (by omega)).1)⟩) (Or.inr (Or.inl (by omega)))
    exact ⟨this.1, this.2, by rw [h7]; decide⟩
  unfold gX8_lookGreedy_39
  refine ok_for 0 20 (fun i s M3 => s = (205, 13, nI i) ∧ (∀ a k, (a < 205 ∨ a = 207 ∨ a = 208 ∨ 228 ≤ a ∨ (a = 205 ∧ k ≠ 0 ∧ k ≠ 1 ∧ k ≠ 7)) → M3.1 a k = M.1 a k ∧ M3.2 a k = M.2 a k) ∧ M3.1 205 7 = 1 ∧ M3.1 205 0 = nI i ∧ (∀ j, j < i → M3.1 206 j = oI (nxw (wg b j)) ∧ pG b j = false) ∧ (∀ s, s < 12 → M3.1 209 s = wg b i (28 + s)) ∧ scoAt (sco (wg b i)) 211 M3) (by omega) (by omega) ⟨rfl, fun a k ha => ?_, ?_, ?_, fun j hj => absurd hj (by omega), fun s hs => ?_, S2⟩ ?_ ?_
  · rw [(F2 a k (by omega)).1, (F2 a k (by omega)).2, (F1 a k (by omega)).1, (F1 a k (by omega)).2]
    exact ⟨u2 a k (by omega), rfl⟩
  · rw [(F2 205 7 (by omega)).1, (F1 205 7 (by omega)).1, uI_nb (by omega), uI_eq]
  · rw [(F2 205 0 (by omega)).1, (F1 205 0 (by omega)).1, uI_eq]; rfl
  · rw [(F2 209 s (by omega)).1]; exact W1 s hs
  · rintro i s M3 back hi ⟨rfl, hF, h7, h0, hG, hW, hS⟩ hb
    have wv := wg_v h i
    have eT : gT (wg b i) = gT b := (wdv_sm wv).2.2.1
    have eS : gS (wg b i) = gS b := (wdv_sm wv).2.2.2.2.1
    have cN : cNet 13 b M3 := cNet_c (cI_N hc) (fun a k g1 g2 _ => (hF a k (by omega)).1)
    have n2 : M3.1 13 2 = nI (gT b) := by rw [cN.1.2.2.1, vb_2 h]
    have stop : pG b i = true → ∀ M4 : sg_M, wF M3 M4 → ok (gX8_lookGreedy_135 N 205 13 M4) (fun M3 => (∀ a k, (a < 205 ∨ a = 207 ∨ a = 208 ∨ 228 ≤ a ∨ (a = 205 ∧ k ≠ 0 ∧ k ≠ 1 ∧ k ≠ 7)) → M3.1 a k = M.1 a k ∧ M3.2 a k = M.2 a k) ∧ M3.1 205 7 = 1 ∧ M3.1 205 0 = nI (wgN b) ∧ M3.1 205 1 = (if hold (wg b (wgN b)) = true then 1 else 0) ∧ ∀ i, i < wgN b → M3.1 206 i = oI (nxw (wg b i))) := fun hp M4 F4 => by
      have e : wgN b = i := fst1_u hi hp (fun j hj => (hG j hj).2)
      unfold gX8_lookGreedy_135
      rw [y205_12, (F4 13 2 (by omega)).1, n2, c_wT wv.1 (scoAt_c hS (fun k => F4 211 k (by omega))) eT, e_b, e]
      refine ok_t bz01 (ok_m (ok_some ⟨fun a k ha => ?_, ?_, ?_, uI_eq, fun j hj => ?_⟩))
      · rw [uI_at, if_neg (by omega), (F4 a k (by omega)).1, uI_l, (F4 a k (by omega)).2]; exact hF a k ha
      · rw [uI_nb (by omega), (F4 205 7 (by omega)).1, h7]
      · rw [uI_nb (by omega), (F4 205 0 (by omega)).1, h0]
      · rw [uI_na (by omega), (F4 206 j (by omega)).1]; exact (hG j hj).1
    unfold bX8_lookGreedy_39
    dsimp only
    rw [y205_12, n2, c_wT wv.1 hS eT, e_b]
    refine ok_f (show ¬ nI 20 ≤ nI i from nI_ge hi (by omega)) ?_
    by_cases hh : hold (wg b i) = true
    · rw [if_pos hh]
      exact ok_f q1 (stop (by show (hold (wg b i) || _) = true; rw [hh]; rfl) M3 wF_refl)
    rw [if_neg hh]
    have hh : hold (wg b i) = false := by simpa using hh
    refine ok_t q0 (ok_a (bestChange_ok (N := N) (up := true) cN wv hW hN) (fun M4 h4 => ok_m ?_))
    obtain ⟨F4, W4, B4⟩ := h4
    rw [bsx_u] at B4 ⊢
    cases e : bsu (wg b i) with
    | none =>
      have en : nxw (wg b i) = none := nxw_no (Or.inl e)
      exact ok_t rfl (stop (by show (_ || (nxw (wg b i)).isNone) = true; rw [en]; simp) M4 F4)
    | some j =>
      obtain ⟨hj, pj⟩ := bst_lt e
      have pj : gW (wg b i) j < 4 := of_decide_eq_true pj
      have wj := wdv_wB wv (s := j) (x := gW (wg b i) j + 1) (by omega) (by omega)
      have sj : scoAt (sco (wg b i)) 211 M4 := scoAt_c hS (fun k => F4 211 k (by omega))
      refine ok_f (fun q => by rw [show oI (some j) = nI j from rfl, qn1 (by omega)] at q; exact q) ?_
      rw [y205_10, y205_11, y205_2, c_btr (B4 j e) sj (gsc_b wj.1) (gsc_b wv.1), e_b]
      by_cases l : btr (fW true (wg b i) j) (sco (wg b i)) = true
      · rw [if_pos l]
        have en : nxw (wg b i) = some j := nxw_ye e l
        have ewg := wg_s en
        refine ok_f q1 ?_
        rw [show oI (some j) = nI j from rfl, yn_209, nI_clamp (show j < 2 ^ 31 by omega), W4 j (by omega), vb_w wv.1 (by omega), nI_1]
        refine ok_t (ib_nI (by omega) (by omega)) (ok_t (ib_nI (by omega) (by omega)) (ok_m ?_))
        refine ok_bv (c_cpy (N := N) (j1 := 211) (j2 := 210) (x := fW true (wg b i) j) (scoAt_c (B4 j e) (fun k => ⟨uI_na (by omega), rfl⟩)) (by omega)) (fun M5 h5 => ?_)
        obtain ⟨S5, F5⟩ := h5
        have k0 : M5.1 205 0 = nI i := by rw [(F5 205 0 (by omega)).1, uI_na (by omega), (F4 205 0 (by omega)).1, h0]
        rw [k0, yn_206, nI_clamp (show i < 2 ^ 31 by omega)]
        refine ok_t (ib_nI (by omega) (by omega)) (ok_m (ok_m (ok_m (hb _ _ ⟨by rw [nI_1], fun a k ha => ?_, ?_, ?_, fun t ht => ?_, fun t ht => ?_, ?_⟩))))
        · rw [uI_at, if_neg (by omega), uI_at, if_neg (by omega), (F5 a k (by omega)).1, uI_na (by omega), (F4 a k (by omega)).1, uI_l, uI_l, (F5 a k (by omega)).2, uI_l, (F4 a k (by omega)).2]
          exact hF a k ha
        · rw [uI_nb (by omega), uI_na (by omega), (F5 205 7 (by omega)).1, uI_na (by omega), (F4 205 7 (by omega)).1, h7]
        · rw [uI_eq, uI_na (by omega), k0, nI_1]
        · by_cases q : t = i
          · subst q
            refine ⟨?_, ?_⟩
            · rw [uI_na (by omega), uI_eq, en]; rfl
            · show (hold (wg b t) || (nxw (wg b t)).isNone) = false
              rw [hh, en]; rfl
          · refine ⟨?_, (hG t (by omega)).2⟩
            rw [uI_na (by omega), uI_nb q, (F5 206 t (by omega)).1, uI_na (by omega), (F4 206 t (by omega)).1]
            exact (hG t (by omega)).1
        · rw [uI_na (by omega), uI_na (by omega), (F5 209 t (by omega)).1, ewg, w_at]
          by_cases q : t = j
          · subst q; rw [uI_eq, if_pos rfl]
          · rw [uI_nb q, if_neg q]; exact W4 t ht
        · rw [ewg]
          exact scoAt_c S5 (fun k => ⟨by rw [uI_na (by omega), uI_na (by omega)], rfl⟩)
      · rw [if_neg l]
        have en : nxw (wg b i) = none := nxw_no (Or.inr ⟨j, e, l⟩)
        exact ok_t q0 (stop (by show (_ || (nxw (wg b i)).isNone) = true; rw [en]; simp) M4 F4)
  · rintro s M3 back ⟨rfl, hF, h7, h0, hG, hW, hS⟩
    have wv := wg_v h 20
    have eT : gT (wg b 20) = gT b := (wdv_sm wv).2.2.1
    have n2 : M3.1 13 2 = nI (gT b) := by rw [(hF 13 2 (by omega)).1, (cI_N hc).1.2.2.1, vb_2 h]
    have e : wgN b = 20 := fst1_n (fun j hj => (hG j hj).2)
    unfold bX8_lookGreedy_39 gX8_lookGreedy_135
    dsimp only
    rw [y205_12, n2, c_wT wv.1 hS eT, e_b, e]
    refine ok_t (by decide) (ok_t bz01 (ok_m (ok_some ⟨fun a k ha => ?_, ?_, ?_, uI_eq, fun j hj => ?_⟩)))
    · rw [uI_at, if_neg (by omega), uI_l]; exact hF a k ha
    · rw [uI_nb (by omega), h7]
    · rw [uI_nb (by omega), h0]
    · rw [uI_na (by omega)]; exact (hG j hj).1
end WI
