/-! pads: the class's PadSearch, the reference's nextPad and bestPads -/
def pdv (b d : Nat → Int32) : Prop := vb d ∧ ∀ k, k ≠ 5 → d k = b k
section PD
variable {N : Nat} {b : Nat → Int32}
theorem pdv_r (h : vb b) : pdv b b := ⟨h, fun _ _ => rfl⟩
theorem pdv_sm {d : Nat → Int32} (h : pdv b d) : sm b d := sm_of (fun i hi => h.2 i (by omega))
theorem or_P {P x : Int32} {n : Nat} (h1 : ∀ v, v < 32 → bt P v = true → v < n) (h2 : ∀ v, v < 32 → bt x v = true → v < n) : ∀ v, v < 32 → bt (P ||| x) v = true → v < n := fun v hv z => by
  rw [b_or, Bool.or_eq_true] at z
  exact z.elim (h1 v hv) (h2 v hv)
theorem pdv_or {d : Nat → Int32} {x : Int32} (h : pdv b d) (hx : ∀ v, v < 32 → bt x v = true → v < gM b) : pdv b (ub d 5 (d 5 ||| x)) := by
  have hs := pdv_sm h
  refine ⟨vb_pad h.1 (or_P (fun v hv z => vb_P h.1 v hv z) (fun v hv z => ?_)), fun k hk => ?_⟩
  · rw [hs.2.2.2.2.2]; exact hx v hv z
  · rw [ub_ne hk, h.2 k hk]
theorem pdv_pB {d : Nat → Int32} {v : Nat} (h : pdv b d) (hv : v < gM b) : pdv b (pB d v) := pdv_or h (bi_P hv (by have := h.1.1.2.2; have hs := pdv_sm h; have : gM d = gM b := hs.2.2.2.2.2; have : gM d = gC d * gR d := rfl; omega))
theorem settle_p {f : Nat} {d : Nat → Int32} {M : sg_M} (hf : sg_K Yc f 1) (hfq : 17 < f) (hc : cNet 13 b M) (h : pdv b d) (hN : 1000 ≤ N) : ok (fX1_settle N f 13 16 (d 5) 17 M) (fun M1 => bsol d f M1 ∧ fr f (f + 16) M M1) := ok_imp (settle_b (N := N) (f := f) (a := 16) (ld := 17) (d := d) hf h.1 (by omega) (Or.inl (by omega)) yn_16 (Or.inl (by omega)) yn_17 (sm_G (pdv_sm h) (cNet_G hc)) (fun s hs => by rw [hc.2.2.1 s hs, h.2 _ (by omega)]) (fun v hv => by rw [hc.2.2.2.1 v hv, h.2 _ (by omega)]) hN) (fun M1 h1 => ⟨h1.1, h1.2.1⟩)
theorem K189 : sg_K Yc 189 1 := ⟨by decide, by decide⟩
theorem y173_1 : Yc.2.2.2 173 1 = 174 := by decide
theorem y173_2 : Yc.2.2.2 173 2 = 175 := by decide
theorem y173_4 : Yc.2.2.2 173 4 = 186 := by decide
theorem y173_5 : Yc.2.2.2 173 5 = 187 := by decide
theorem y173_6 : Yc.2.2.2 173 6 = 188 := by decide
theorem y173_7 : Yc.2.2.2 173 7 = 189 := by decide
theorem y189_3 : Yc.2.2.2 189 3 = 191 := by decide
theorem yn_174 : Yc.2.2.1 174 = 9 := by decide
theorem yn_175 : Yc.2.2.1 175 = 10 := by decide
theorem yn_186 : Yc.2.2.1 186 = 10 := by decide
theorem yn_187 : Yc.2.2.1 187 = 10 := by decide
theorem y175_n {n : Nat} (h : n < 10) : Yc.2.2.2 175 n = 176 + n := by
  have := re5_2 (j := 173) ⟨by decide, by decide⟩ h
  rw [Nat.one_mul] at this
  exact this
abbrev fP (d : Nat → Int32) : Nat → Nat × Int × Int := fun v => sco (pB d v)
abbrev pP (d : Nat → Int32) : Nat → Bool := fun v => !bt (d 5) v
theorem nxp_lt {d : Nat → Int32} {v : Nat} (h : pdv b d) (e : nxp d = some v) : v < gM b ∧ bt (d 5) v = false := by
  obtain ⟨h1, h2⟩ := bst_lt e
  rw [(pdv_sm h).2.2.2.2.2] at h1
  exact ⟨h1, by simpa using h2⟩
theorem bestNext_ok {d : Nat → Int32} {M : sg_M} (hc : cNet 13 b M) (h : pdv b d) (hN : 1000 ≤ N) : okA (fX5_bestNext N 173 13 (d 5) M) (oI (nxp d)) (fun M1 => fr 188 205 M M1) := by
  apply okA_of
  have hs := pdv_sm h
  have hm := vb_m h.1
  have eM : gM d = gM b := hs.2.2.2.2.2
  have gd : ∀ v, v < gM b → gsc (sco (pB d v)) := fun v hv => gsc_b (pdv_pB h hv).1
  have n5 : M.1 13 5 = nI (gM d) := by rw [eM]; exact (cNet_G hc).1
  unfold fX5_bestNext
  refine ok_m (ok_m ?_)
  unfold gX5_bestNext_5
  have o1 : ∀ k, k ≤ gM d → (oI (bst (fun k j => btr (fP d k) (fP d j)) (pP d) k) = -1 ↔ bst (fun k j => btr (fP d k) (fP d j)) (pP d) k = none) := fun k hk => oI_n1 (fun j e => by have := (bst_lt e).1; omega)
  refine ok_for 0 (gM d) (fun i s M1 => s = (173, 13, d 5, oI (bst (fun k j => btr (fP d k) (fP d j)) (pP d) i), nI i) ∧ fr 188 205 M M1 ∧ ∀ j, bst (fun k j => btr (fP d k) (fP d j)) (pP d) i = some j → scoAt (sco (pB d j)) 188 M1) (by omega) (by omega) ⟨rfl, fr_refl, fun j e => by cases e⟩ ?_ ?_
  · rintro i s M1 back hi ⟨rfl, hF, hB⟩ hb
    unfold bX5_bestNext_5
    dsimp only
    rw [(hF 13 5 (by omega)).1, n5, y173_6, y173_7, y189_3, y13_11, y13_12, nI_1]
    refine ok_f (nI_ge hi (by omega)) (ok_if (fun z => ?_) (fun z => ?_))
    · have z := (bt_test0 (show i < 32 by omega)).mp z
      have pz : pP d i = true := by show (!bt (d 5) i) = true; rw [z]; rfl
      have hp := pdv_pB h (v := i) (by omega)
      have e5 : (d 5 ||| ((1 : Int32) <<< (nI i &&& 31))) = (pB d i) 5 := ub_eq.symm
      rw [e5]
      refine ok_bv (settle_p (N := N) (f := 189) K189 (by omega) (cNet_c hc (fun a k g1 g2 _ => (hF a k (by omega)).1)) hp hN) (fun M2 h2 => ?_)
      obtain ⟨S2, F2⟩ := h2
      have F3 : fr 188 205 M M2 := fr_tr hF (fr_w F2 (by omega) (by omega))
      have sc : scoAt (sco (pB d i)) 191 M2 := bsol_sco (f := 189) S2
      have up : bst (fun k j => btr (fP d k) (fP d j)) (pP d) (i + 1) = some i → ok (gX5_bestNext_67 N back 173 13 (d 5) (nI i) M2) (fun res => res.1 = oI (nxp d) ∧ fr 188 205 M res.2) := fun e => by
        unfold gX5_bestNext_67
        rw [y173_6, y173_7, y189_3, nI_1]
        refine ok_m (ok_bv (c_cpy (N := N) (j1 := 188) sc (by omega)) (fun M3 h3 => ok_m (hb _ _ ⟨by rw [e]; rfl, fun a k ha => ?_, fun j e2 => ?_⟩)))
        · rw [(h3.2 a k (by omega)).1, (h3.2 a k (by omega)).2]; exact F3 a k ha
        · rw [e] at e2; cases e2; exact h3.1
      refine ok_if (fun y => ?_) (fun y => ?_)
      · exact up (bst_1 pz ((o1 i (by omega)).mp y))
      · cases e4 : bst (fun k j => btr (fP d k) (fP d j)) (pP d) i with
        | none => exact absurd ((o1 i (by omega)).mpr e4) y
        | some j =>
          have sj : scoAt (sco (pB d j)) 188 M2 := scoAt_c (hB j e4) (fun k => F2 188 k (by omega))
          rw [c_btr sc sj (gd i (by omega)) (gd j (by have := (bst_lt e4).1; omega)), e_b]
          by_cases l : btr (sco (pB d i)) (sco (pB d j)) = true
          · rw [if_pos l]
            exact ok_f q1 (up (bst_2 pz e4 l))
          · rw [if_neg l]
            have e : bst (fun k j => btr (fP d k) (fP d j)) (pP d) (i + 1) = some j := bst_3 pz e4 l
            exact ok_t q0 (ok_m (hb _ _ ⟨by rw [e], F3, fun k e2 => by rw [e] at e2; cases e2; exact sj⟩))
    · have z : ¬ pP d i = true := fun y => z ((bt_test0 (show i < 32 by omega)).mpr (by simpa using y))
      have e : bst (fun k j => btr (fP d k) (fP d j)) (pP d) (i + 1) = bst (fun k j => btr (fP d k) (fP d j)) (pP d) i := bst_no z
      exact ok_m (hb _ _ ⟨by rw [e], hF, fun j e2 => hB j (e ▸ e2)⟩)
  · rintro s M1 back ⟨rfl, hF, hB⟩
    unfold bX5_bestNext_5
    dsimp only
    rw [(hF 13 5 (by omega)).1, n5]
    exact ok_t (nI_le (Nat.le_refl _) (by omega)) (ok_some ⟨rfl, hF⟩)
theorem pg_s {i v : Nat} (e : nxp (pg b i) = some v) : pg b (i + 1) = pB (pg b i) v := by
  show (match nxp (pg b i) with | none => pg b i | some v => pB (pg b i) v) = _
  rw [e]
theorem pg_n {i : Nat} (e : nxp (pg b i) = none) : pg b (i + 1) = pg b i := by
  show (match nxp (pg b i) with | none => pg b i | some v => pB (pg b i) v) = _
  rw [e]
theorem pg_v (h : vb b) : ∀ i, pdv b (pg b i) := by
  intro i
  induction i with
  | zero => exact pdv_r h
  | succ i ih =>
    cases e : nxp (pg b i) with
    | none => rw [pg_n e]; exact ih
    | some v => rw [pg_s e]; exact pdv_pB ih (nxp_lt ih e).1
theorem pg_st (h : vb b) {n : Nat} (e : nxp (pg b n) = none) : ∀ j, n ≤ j → pg b j = pg b n := by
  intro j
  induction j with
  | zero => intro hj; rw [show n = 0 by omega]
  | succ j ih =>
    intro hj
    by_cases q : n = j + 1
    · rw [q]
    · have i1 := ih (by omega)
      rw [pg_n (by rw [i1]; exact e), i1]
theorem cB_all {p : Nat → Bool} : ∀ n, n ≤ cB p n → ∀ i, i < n → p i = true := by
  intro n
  induction n with
  | zero => intro _ i hi; omega
  | succ n ih =>
    intro h i hi
    have h1 : n + 1 ≤ cB p n + (if p n = true then 1 else 0) := h
    have h2 := cB_n (p := p) n
    by_cases q : p n = true
    · by_cases e : i = n
      · rw [e]; exact q
      · rw [if_pos q] at h1; exact ih (by omega) i (by omega)
    · rw [if_neg q] at h1; omega
theorem pg_c (h : vb b) : ∀ i, (∀ j, j < i → ∃ v, nxp (pg b j) = some v) → i ≤ cB (fun v => bt (pg b i 5) v) (gM b) := by
  have hm := vb_m h
  intro i
  induction i with
  | zero => intro _; exact Nat.zero_le _
  | succ i ih =>
    intro hs
    obtain ⟨v, e⟩ := hs i (by omega)
    have i1 := ih (fun j hj => hs j (by omega))
    obtain ⟨hv, hb⟩ := nxp_lt (pg_v h i) e
    have e5 : pg b (i + 1) 5 = pg b i 5 ||| bi v := by rw [pg_s e]; exact ub_eq
    have := cB_lt (p := fun v => bt (pg b i 5) v) (q := fun v => bt (pg b (i + 1) 5) v) (k := v) (fun x z => by rw [e5, b_or, z]; rfl) (by rw [hb]; decide) (by rw [e5, b_or, bt_bi (by omega) (by omega), decide_eq_true rfl, Bool.or_true]) (gM b) hv
    omega
theorem pg_end (h : vb b) {i : Nat} (hi : gM b ≤ i) (hs : ∀ j, j < i → ∃ v, nxp (pg b j) = some v) : nxp (pg b i) = none := by
  cases e : nxp (pg b i) with
  | none => rfl
  | some v =>
    obtain ⟨hv, hb⟩ := nxp_lt (pg_v h i) e
    have := cB_all (p := fun v => bt (pg b i 5) v) (gM b) (by have := pg_c h i hs; omega) v hv
    rw [hb] at this
    cases this
theorem greedy_ok {M : sg_M} (hc : cI b M) (hN : 1000 ≤ N) : ok (fX5_lookGreedy N 173 13 M) (fun M1 => cI b M1 ∧ low M M1 ∧ M1.1 173 3 ≠ 0) := by
  have h := hc.1
  have hm := vb_m h
  unfold fX5_lookGreedy
  refine ok_if (fun z => ok_m (ok_m (ok_m (ok_m ?_)))) (fun z => ok_some ⟨hc, low_refl, z⟩)
  rw [show (sg_uI (sg_uI M 173 3 1) 173 0 0).1 13 7 = pg b 0 5 by rw [uI_na (by omega), uI_na (by omega)]; exact cf7 hc]
  suffices hs : ok (gX5_lookGreedy_25 N (173, 13, pg b 0 5, 0) (sg_uI (sg_uI M 173 3 1) 173 0 0)) (fun M1 => (∀ a k, (a < 173 ∨ 205 ≤ a) → M1.1 a k = M.1 a k ∧ M1.2 a k = M.2 a k) ∧ (∀ a k, 175 ≤ a → a < 188 → M1.1 a k = M.1 a k ∧ M1.2 a k = M.2 a k) ∧ M1.1 173 3 = 1 ∧ ∃ n, n ≤ gM b ∧ M1.1 173 0 = nI n ∧ (∀ i, i < n → ∃ v, nxp (pg b i) = some v ∧ M1.1 174 i = nI v) ∧ nxp (pg b n) = none) by
    refine ok_imp hs (fun M1 h1 => ?_)
    obtain ⟨hF, hG, h3, hP⟩ := h1
    have := cI_seg (lo := 173) (hi := 205) hc (fun a k ha => hF a k (by omega)) (by omega) (Or.inr (Or.inr (by omega))) (Or.inl ⟨fun _ => hP, cPs_c hc.2.2.2.2.2.1 (fun a k g1 g2 => hG a k (by omega) g2)⟩) (Or.inr (Or.inl (by omega))) (Or.inr (Or.inl (by omega)))
    exact ⟨this.1, this.2, by rw [h3]; decide⟩
  unfold gX5_lookGreedy_25
  refine ok_for 0 (gM b) (fun i s M1 => s = (173, 13, pg b i 5, nI i) ∧ (∀ a k, (a < 173 ∨ 205 ≤ a) → M1.1 a k = M.1 a k ∧ M1.2 a k = M.2 a k) ∧ (∀ a k, 175 ≤ a → a < 188 → M1.1 a k = M.1 a k ∧ M1.2 a k = M.2 a k) ∧ M1.1 173 3 = 1 ∧ M1.1 173 0 = nI i ∧ ∀ j, j < i → ∃ v, nxp (pg b j) = some v ∧ M1.1 174 j = nI v) (by omega) (by omega) ⟨rfl, fun a k ha => ⟨by rw [uI_na (by omega), uI_na (by omega)], rfl⟩, fun a k g1 g2 => ⟨by rw [uI_na (by omega), uI_na (by omega)], rfl⟩, by rw [uI_nb (by omega), uI_eq], by rw [uI_eq]; rfl, fun j hj => absurd hj (by omega)⟩ ?_ ?_
  · rintro i s M1 back hi ⟨rfl, hF, hG, h3, h0, hP⟩ hb
    have cN : cNet 13 b M1 := cNet_c (cI_N hc) (fun a k g1 g2 _ => (hF a k (by omega)).1)
    have pv := pg_v h i
    unfold bX5_lookGreedy_25
    dsimp only
    rw [(hF 13 5 (by omega)).1, cf5 hc, nI_1]
    refine ok_f (nI_ge hi (by omega)) (ok_a (bestNext_ok (N := N) cN pv hN) (fun M2 F2 => ok_m ?_))
    have F3 : ∀ a k, (a < 173 ∨ 205 ≤ a) → M2.1 a k = M.1 a k ∧ M2.2 a k = M.2 a k := fun a k ha => by rw [(F2 a k (by omega)).1, (F2 a k (by omega)).2]; exact hF a k ha
    have G3 : ∀ a k, 175 ≤ a → a < 188 → M2.1 a k = M.1 a k ∧ M2.2 a k = M.2 a k := fun a k g1 g2 => by rw [(F2 a k (by omega)).1, (F2 a k (by omega)).2]; exact hG a k g1 g2
    have k3 : M2.1 173 3 = 1 := by rw [(F2 173 3 (by omega)).1, h3]
    have k0 : M2.1 173 0 = nI i := by rw [(F2 173 0 (by omega)).1, h0]
    have kP : ∀ j, j < i → ∃ v, nxp (pg b j) = some v ∧ M2.1 174 j = nI v := fun j hj => by
      obtain ⟨v, e1, e2⟩ := hP j hj
      exact ⟨v, e1, by rw [(F2 174 j (by omega)).1, e2]⟩
    cases e : nxp (pg b i) with
    | none => exact ok_t rfl (ok_some ⟨F3, G3, k3, i, (by omega), k0, kP, e⟩)
    | some v =>
      obtain ⟨hv, hbt⟩ := nxp_lt pv e
      refine ok_f (fun q => by rw [show oI (some v) = nI v from rfl, qn1 (by omega)] at q; exact q) ?_
      rw [k0, y173_1, yn_174, nI_clamp (show i < 2 ^ 31 by omega)]
      refine ok_t (ib_nI (by omega) (by omega)) (ok_m (ok_m (ok_m (ok_m (hb _ _ ⟨?_, fun a k ha => ⟨?_, ?_⟩, fun a k g1 g2 => ⟨?_, ?_⟩, ?_, ?_, fun j hj => ?_⟩)))))
      · rw [pg_s e]
        show _ = (173, 13, ub (pg b i) 5 _ 5, _)
        rw [ub_eq]
        rfl
      · rw [uI_na (by omega), uI_na (by omega)]; exact (F3 a k ha).1
      · exact (F3 a k ha).2
      · rw [uI_na (by omega), uI_na (by omega)]; exact (G3 a k g1 g2).1
      · exact (G3 a k g1 g2).2
      · rw [uI_nb (by omega), uI_na (by omega)]; exact k3
      · rw [uI_eq, uI_na (by omega), k0, nI_1]
      · by_cases q : j = i
        · subst q
          exact ⟨v, e, by rw [uI_na (by omega), uI_eq]; rfl⟩
        · obtain ⟨w, e1, e2⟩ := kP j (by omega)
          exact ⟨w, e1, by rw [uI_na (by omega), uI_nb q]; exact e2⟩
  · rintro s M1 back ⟨rfl, hF, hG, h3, h0, hP⟩
    unfold bX5_lookGreedy_25
    dsimp only
    rw [(hF 13 5 (by omega)).1, cf5 hc]
    exact ok_t (nI_le (Nat.le_refl _) (by omega)) (ok_some ⟨hF, hG, h3, gM b, Nat.le_refl _, h0, hP, pg_end h (Nat.le_refl _) (fun j hj => by obtain ⟨v, e, _⟩ := hP j hj; exact ⟨v, e⟩)⟩)
/-! the reference -/
theorem ub_ub {d : Nat → Int32} {k : Nat} {x y : Int32} : ub (ub d k x) k y = ub d k y := by
  funext i
  unfold ub
  by_cases e : i = k
  · rw [if_pos e, if_pos e]
  · rw [if_neg e, if_neg e, if_neg e]
theorem ub_id {d : Nat → Int32} {k : Nat} : ub d k (d k) = d := by
  funext i
  unfold ub
  by_cases e : i = k
  · rw [if_pos e, e]
  · rw [if_neg e]
theorem off_bit {P : Int32} {v : Nat} (hv : v < 32) (h : bt P v = false) : (P ||| bi v) &&& (bi v ^^^ (-1)) = P := by
  apply b_ext
  intro i hi
  rw [b_and, b_or, b_xor, b_m1 i hi, bt_bi hv hi]
  by_cases e : i = v
  · subst e; rw [h, decide_eq_true rfl]; rfl
  · rw [decide_eq_false e, Bool.or_false]; simp
theorem nextPad_ok {d : Nat → Int32} {M : sg_M} (h : vb d) (h1 : M.1 1 = d) (hN : 1000 ≤ N) : okA (fX11_nextPad N 0 M) (oI (nxp d)) (fun M1 => M1.1 1 = d ∧ raB M M1) := by
  apply okA_of
  have hm := vb_m h
  have pv := pdv_r h
  have gd : ∀ v, v < gM d → gsc (sco (pB d v)) := fun v hv => gsc_b (pdv_pB pv hv).1
  have hrb := rb_bst (f := fP d) (p := pP d) gsc_0 (gM d) (fun k hk _ => gd k hk)
  have efin : oI (rb (fP d) (pP d) (10, 0, 1) (gM d)).1 = oI (nxp d) := by
    cases e : bst (fun k j => btr (fP d k) (fP d j)) (pP d) (gM d) with
    | none => rw [hrb.1 e, show nxp d = none from e]
    | some j => rw [hrb.2 j e, if_pos (btr_10 (pdv_pB pv (bst_lt e).1).1), show nxp d = some j from e]
  have grb : ∀ i, i ≤ gM d → gsc (rb (fP d) (pP d) (10, 0, 1) i).2 := by
    intro i
    induction i with
    | zero => intro _; exact gsc_0
    | succ i ih =>
      intro hi
      rw [rb_s]
      split
      · exact gd i (by omega)
      · exact ih (by omega)
  unfold fX11_nextPad
  refine ok_bv (r_without (N := N) (M := M)) (fun M1 hM => ok_m (ok_m ?_))
  unfold gX11_nextPad_8
  refine ok_for 0 (gM d) (fun i s M2 => s = (0, oI (rb (fP d) (pP d) (10, 0, 1) i).1, nI i) ∧ M2.1 1 = d ∧ raB M M2 ∧ bsR (rb (fP d) (pP d) (10, 0, 1) i).2 M2) (by omega) (by omega) ⟨rfl, hM.2.1.trans h1, hM.2.2, hM.1⟩ ?_ ?_
  · rintro i s M2 back hi ⟨rfl, g1, g2, g3⟩ hb
    unfold bX11_nextPad_8
    dsimp only
    rw [r_nd h g1, e_b, yr_1, yl_1, c_5, g1, r_isOf (show i < 32 by omega), e_b]
    refine ok_f (nI_ge hi (by omega)) (ok_t (by decide) ?_)
    by_cases z : bt (d 5) i = true
    · rw [if_pos z]
      have nz : ¬ pP d i = true := by show ¬ (!bt (d 5) i) = true; rw [z]; decide
      refine ok_f q1 (ok_m (hb _ _ ⟨?_, g1, g2, ?_⟩))
      · rw [rb_s, if_neg (fun w => nz w.1), nI_1]
      · rw [rb_s, if_neg (fun w => nz w.1)]; exact g3
    · rw [if_neg z]
      have z2 : bt (d 5) i = false := by simpa using z
      have pz : pP d i = true := by show (!bt (d 5) i) = true; rw [z2]; rfl
      have w1 : (sg_uI M2 1 5 (d 5 ||| ((1 : Int32) <<< (nI i &&& 31)))).1 1 = pB d i := uW g1
      have B1 : bsR (rb (fP d) (pP d) (10, 0, 1) i).2 (sg_uI M2 1 5 (d 5 ||| ((1 : Int32) <<< (nI i &&& 31)))) := bsR_1 g3
      have back2 : ∀ (x : Int32) (M3 : sg_M), M3.1 1 = pB d i → raB M M3 → bsR (rb (fP d) (pP d) (10, 0, 1) (i + 1)).2 M3 → x = oI (rb (fP d) (pP d) (10, 0, 1) (i + 1)).1 → ok (gX11_nextPad_57 N back 0 x (nI i) M3) (fun res => res.1 = oI (nxp d) ∧ res.2.1 1 = d ∧ raB M res.2) := fun x M3 k1 k2 k3 k4 => by
        unfold gX11_nextPad_57
        rw [yr_1, yl_1, c_5, k1]
        have e5 : (pB d i) 5 = d 5 ||| bi i := ub_eq
        refine ok_t (by decide) (ok_t (by decide) (ok_m (ok_m (hb _ _ ⟨?_, ?_, raB_tr k2 raB_1, bsR_1 k3⟩))))
        · rw [k4, nI_1]
        · rw [uW k1, e5]
          show ub (ub d 5 _) 5 ((d 5 ||| bi i) &&& (bi i ^^^ (-1))) = d
          rw [off_bit (by omega) z2, ub_ub, ub_id]
      refine ok_t q0 (ok_t (by decide) (ok_t (by decide) ?_))
      rw [g1]
      refine ok_m (ok_b (r_scores (N := N) (pdv_pB pv hi).1 w1 (grb i (by omega)) B1 hN) (fun x M3 h3 => ?_))
      obtain ⟨hx, S3, F3⟩ := h3
      have B3 := bsR_c B1 F3
      have ra3 : raB M M3 := raB_tr (raB_tr g2 raB_1) (raB_s F3)
      refine ok_if (fun y => ?_) (fun y => ?_)
      · have y := hx.mp y
        have e : rb (fP d) (pP d) (10, 0, 1) (i + 1) = rb (fP d) (pP d) (10, 0, 1) i := by rw [rb_s, if_neg (fun w => y w.2)]
        exact back2 _ M3 S3.2 ra3 (by rw [e]; exact B3) (by rw [e])
      · have y : btr (fP d i) (rb (fP d) (pP d) (10, 0, 1) i).2 = true := by
          apply Classical.byContradiction
          intro w
          exact y (hx.mpr w)
        have e : rb (fP d) (pP d) (10, 0, 1) (i + 1) = (some i, fP d i) := by rw [rb_s, if_pos ⟨pz, y⟩]
        refine ok_m (ok_bv (r_keeps (N := N) (pdv_pB pv hi).1 S3 (by omega)) (fun M4 h4 => back2 _ M4 h4.2.1.2 (raB_tr ra3 h4.2.2) (by rw [e]; exact h4.1) (by rw [e]; rfl)))
  · rintro s M2 back ⟨rfl, g1, g2, g3⟩
    unfold bX11_nextPad_8
    dsimp only
    rw [r_nd h g1, e_b]
    exact ok_t (nI_le (Nat.le_refl _) (by omega)) (ok_some ⟨efin, g1, g2⟩)
theorem q_pad {x : Int32} (hN : 1000 ≤ N) : bth b (fX10_pad N 0 x) (fX11_pad N 0 x) := by
  intro Mc Mr hc hr
  have h := hc.1
  have hm := vb_m h
  obtain ⟨M2, e2, c2, l2, k2⟩ := greedy_ok (N := N) hc hN
  obtain ⟨n, hn, n1, n2, n3⟩ := c2.2.2.2.2.1 k2
  unfold fX10_pad fX11_pad
  rw [c_ng hc, r_grd h hr, e_b, e_b, if_pos q0, if_neg q1]
  by_cases hx : 0 ≤ x
  case neg =>
    rw [if_neg hx, if_neg hx]
    exact ⟨-2, ⟨_, rfl, hc, low_refl⟩, ⟨_, rfl, rEq_refl⟩⟩
  rw [if_pos hx, if_pos hx, y0_9, y0_1, e2, e_bv, n1, y173_1, yn_174]
  obtain ⟨t, ht, rfl⟩ := nn_ex hx
  refine ⟨oI (nxp (pg b t)), ?_, okA_of ?_⟩
  · by_cases q : n ≤ t
    · rw [if_pos (nI_le q (by omega)), pg_st h n3 t q, n3]
      exact ⟨_, rfl, c2, l2⟩
    · obtain ⟨v, e1, e3⟩ := n2 t (by omega)
      rw [if_neg (nI_ge (by omega) (by omega)), if_pos (ib_nI (by omega) (by omega)), nI_clamp (show t < 2 ^ 31 by omega), e3, e1]
      exact ⟨_, rfl, c2, l2⟩
  · refine ok_bv (puts_ok (N := N) hr (by omega)) (fun M1 hM => ?_)
    have h1 : M1.1 1 = b := (funext fun k => hM.2.1 1 k (by omega)).trans hr
    have w1 : reW Mr M1 := ⟨fun a ha => funext fun k => hM.2.1 a k (by omega), fun k _ => hM.2.1 0 k (by omega)⟩
    refine ok_a (nextPad_ok (N := N) h h1 hN) (fun M3 h3 => ok_m (ok_m ?_))
    unfold gX11_pad_25
    refine ok_lp (fun m s M => ∃ i, i ≤ t ∧ i ≤ n ∧ m = n - i ∧ s = (0, nI t, oI (nxp (pg b i)), nI i) ∧ M.1 1 = pg b i ∧ sv b M ∧ reW Mr M) ?_ N n _ M3 ⟨0, (by omega), (by omega), rfl, rfl, h3.1, sv_B hM.1 h3.2, reW_tr w1 (raB_W h3.2)⟩ (by omega)
    rintro m s M back ⟨i, hi1, hi2, rfl, rfl, g1, g2, g3⟩ hb
    have pv := pg_v h i
    have fin : ok (gX11_pad_58 N 0 (oI (nxp (pg b i))) M) (fun res => res.1 = oI (nxp (pg b i)) ∧ rEq Mr res.2) := by
      unfold gX11_pad_58
      refine ok_bv (takesOut_ok (N := N) g2 (fun k hk => by rw [g1, pv.2 k (by omega)]) (by omega)) (fun M4 h4 => ok_some ⟨rfl, reW_to (reW_tr g3 ⟨fun a ha => funext fun k => h4.2.1 a k (by omega), fun k _ => h4.2.1 0 k (by omega)⟩) (h4.1.trans hr.symm)⟩)
    unfold bX11_pad_25
    dsimp only
    by_cases e : i = t
    · subst e
      exact ok_t (nI_le (Nat.le_refl _) (by omega)) fin
    refine ok_f (nI_ge (by omega) (by omega)) ?_
    cases e4 : nxp (pg b i) with
    | none =>
      rw [e4] at fin
      refine ok_t rfl ?_
      rw [pg_st h e4 t (by omega), e4]
      exact fin
    | some v =>
      obtain ⟨hv, hbt⟩ := nxp_lt pv e4
      have hin : i < n := by
        apply Classical.byContradiction
        intro w
        have : i = n := by omega
        rw [this, n3] at e4
        cases e4
      refine ok_f (fun q => by rw [show oI (some v) = nI v from rfl, qn1 (by omega)] at q; exact q) ?_
      rw [yr_1, yl_1, c_5, g1]
      have w2 : (sg_uI M 1 5 (pg b i 5 ||| ((1 : Int32) <<< (oI (some v) &&& 31)))).1 1 = pg b (i + 1) := by rw [uW g1, pg_s e4]; rfl
      refine ok_t (by decide) (ok_t (by decide) (ok_m (ok_a (nextPad_ok (N := N) (pg_v h (i + 1)).1 w2 hN) (fun M4 h4 => ok_m (ok_m (hb (n - (i + 1)) _ _ (by omega) ⟨i + 1, (by omega), (by omega), rfl, by rw [nI_1], h4.1, sv_B g2 (raB_tr raB_1 h4.2), reW_tr g3 (raB_W (raB_tr raB_1 h4.2))⟩))))))
end PD
