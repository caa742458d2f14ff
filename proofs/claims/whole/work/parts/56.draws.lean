/-! Bounded.drawAgainst; the reference's draws -/
section DA
variable {N : Nat} {b : Nat → Int32}
theorem take_s {l : List Nat} {t : Nat} (h : t < l.length) : l.take (t + 1) = l.take t ++ [l.getD t 0] := by
  rw [List.take_succ, List.getElem?_eq_getElem h, List.getD_eq_getElem?_getD, List.getElem?_eq_getElem h]
  rfl
theorem getD_mem {l : List Nat} {t : Nat} (h : t < l.length) : l.getD t 0 ∈ l := by
  rw [List.getD_eq_getElem?_getD, List.getElem?_eq_getElem h]
  exact List.getElem_mem h
theorem take_drop_mem {l : List Nat} {t x : Nat} (hx : x ∈ l) (hn : x ∉ l.take t) : ∃ i, t ≤ i ∧ i < l.length ∧ l.getD i 0 = x := by
  obtain ⟨i, hi, e⟩ := List.mem_iff_getElem.mp hx
  refine ⟨i, ?_, hi, ?_⟩
  · apply Classical.byContradiction
    intro q
    apply hn
    rw [← e]
    have : i < (l.take t).length := by rw [List.length_take]; omega
    have e2 : (l.take t)[i] = l[i] := List.getElem_take
    rw [← e2]
    exact List.getElem_mem this
  · rw [List.getD_eq_getElem?_getD, List.getElem?_eq_getElem hi]
    exact e
theorem nodup_take {l : List Nat} {t : Nat} (h : l.Nodup) (ht : t < l.length) : l.getD t 0 ∉ l.take t := by
  intro z
  obtain ⟨i, hi, e⟩ := List.mem_iff_getElem.mp z
  rw [List.length_take] at hi
  rw [List.getElem_take] at e
  rw [List.getD_eq_getElem?_getD, List.getElem?_eq_getElem ht] at e
  have := List.pairwise_iff_getElem.mp h i t (by omega) ht (by omega)
  exact this e
/-- the one that is picked is the next in the row -/
theorem next_bst {m : Nat → Int} {l : List Nat} {W : Int32} {n t : Nat} (hs : srt m l) (hn : n ≤ 32) (hl : ∀ x, x ∈ l → x < n) (hW : ∀ v, v < n → (bt W v = true ↔ v ∈ l ∧ v ∉ l.take t)) (ht : t < l.length) : bst (fun k j => decide (m j < m k)) (fun v => bt W v) n = some (l.getD t 0) := by
  have nd := srt_nd hs
  have ml := getD_mem ht
  have nm := nodup_take nd ht
  cases e : bst (fun k j => decide (m j < m k)) (fun v => bt W v) n with
  | none =>
    have := (bst_max n).1 e _ (hl _ ml)
    rw [(hW _ (hl _ ml)).mpr ⟨ml, nm⟩] at this
    cases this
  | some j =>
    obtain ⟨j1, j2⟩ := bst_lt e
    obtain ⟨h1, h2⟩ := (bst_max n).2 j e
    have hj := (hW j j1).mp j2
    obtain ⟨i, i1, i2, i3⟩ := take_drop_mem hj.1 hj.2
    congr 1
    apply Classical.byContradiction
    intro hne
    have hit : t < i := by
      rcases Nat.lt_or_ge t i with z | z
      · exact z
      · exact absurd (by rw [← i3, show i = t by omega]) hne
    have a1 : ahd m (l.getD t 0) j := by
      have := List.pairwise_iff_getElem.mp hs t i ht i2 hit
      rw [← i3, List.getD_eq_getElem?_getD, List.getElem?_eq_getElem ht, List.getD_eq_getElem?_getD, List.getElem?_eq_getElem i2]
      exact this
    have bw := (hW _ (hl _ ml)).mpr ⟨ml, nm⟩
    have l1 := h1 _ (hl _ ml) bw
    have l2 : l.getD t 0 < j → m (l.getD t 0) < m j := fun q => h2 _ q bw
    unfold ahd at a1
    omega
theorem drawAgainst_ok {u : Nat} {M : sg_M} (hc : cI b M) (hu : u < gM b) (hN : 1000 ≤ N) : ok (fX0_drawAgainst N 87 13 (nI u) M) (fun M1 => bnd b u (ol b u) M1 ∧ fr 87 106 M M1) := by
  have h := hc.1
  have hm := vb_m h
  have c13 := cI_N hc
  unfold fX0_drawAgainst
  rw [y87_4, cf7 hc, y87_2, y87_3, y13_14, yn_19, yn_89]
  refine ok_bv (unit_ok (N := N) K90 (by omega) h c13 (vb_P h) hu hN) (fun M7 h7 => ok_m (ok_m (ok_bv (fillI_ok (N := N) (a := 88) (x := 0) (by rw [yn_88]; omega) hN) (fun M10 h10 => ok_t (by decide) (ok_m ?_)))))
  rw [yn_88] at h10
  obtain ⟨S7, F7⟩ := h7
  obtain ⟨j10, f10, o10⟩ := h10
  rw [show ((0 : Int32)).toNatClampNeg = 0 from rfl, show ((4 : Int32)).toNatClampNeg = 4 from by decide]
  have e90 : ∀ a k, a ≠ 88 → a ≠ 89 → (sg_cpy M10 19 89 0 0 4).1 a k = M7.1 a k := fun a k h1 h2 => by rw [cpy_na h2, o10 a k h1]; rfl
  have el : ∀ a k, a ≠ 87 → (sg_cpy M10 19 89 0 0 4).2 a k = M7.2 a k := fun a k h1 => by
    rw [cpy_l, j10, uJ_na h1, uJ_na h1]
  refine ok_m (ok_m ?_)
  rw [e90 13 5 (by omega) (by omega), e90 90 0 (by omega) (by omega), (F7 13 5 (by omega)).1, cf5 hc, S7.1]
  show ok (gX0_drawAgainst_73 N (87, 13, (((1 : Int32) <<< (nI (gM b) &&& 31)) - 1) &&& (bQ b ^^^ (-1)), nI 0) _) _
  generalize hM11 : sg_cpy M10 19 89 0 0 4 = M11 at *
  have b0 : bnd b u ((ol b u).take 0) M11 := by
    rw [List.take_zero]
    refine ⟨fun g hg => ?_, fun v hv => ?_, ?_, ?_⟩
    · rw [← hM11, cpy_in hg, o10 19 g (by omega)]
      show M7.1 19 g = _
      rw [(F7 19 g (by omega)).1, c13.2.2.2.2.2 g hg]
      exact vb_b h hg
    · rw [← hM11, cpy_na (by omega), f10 v hv]
      rfl
    · rw [← hM11, cpy_l, j10, uJ_nb (by omega), uJ_eq]
      have : fs (gM b) (msT b u []) = 0 := (fs_congr (fun v _ => by show _ * ((0 : Nat) : Int) = 0; exact Int.mul_zero _)).trans (fs_zero _)
      rw [this]
      rfl
    · rw [← hM11, cpy_l, j10, uJ_eq, uJ_na (by omega), S7.2.1]
  have L9 : (ol b u).length ≤ gM b := orS_len _
  have Ls : srt (mo b u) (ol b u) := (orS_s _).1
  have W0 : ∀ v, v < 32 → (bt ((((1 : Int32) <<< (nI (gM b) &&& 31)) - 1) &&& (bQ b ^^^ (-1))) v = true ↔ v ∈ ol b u ∧ v ∉ (ol b u).take 0) := fun v hv => by
    rw [List.take_zero, ol_m, b_and, bt_low (gM b) (by omega) v hv, bt_not _ hv]
    unfold aliv
    simp
  have m13 : ∀ a k, a < 87 → M11.1 a k = M.1 a k := fun a k ha => by rw [e90 a k (by omega) (by omega), (F7 a k (by omega)).1]
  unfold gX0_drawAgainst_73
  refine ok_lp (fun n s M1 => ∃ t W, t ≤ (ol b u).length ∧ n = gM b - t ∧ s = (87, 13, W, nI t) ∧ (∀ v, v < 32 → (bt W v = true ↔ v ∈ ol b u ∧ v ∉ (ol b u).take t)) ∧ bnd b u ((ol b u).take t) M1 ∧ (∀ a k, a ≠ 88 → a ≠ 89 → M1.1 a k = M11.1 a k) ∧ ∀ a k, a ≠ 87 → M1.2 a k = M11.2 a k) ?_ N (gM b) _ M11 ⟨0, _, by omega, rfl, rfl, W0, b0, fun _ _ _ _ => rfl, fun _ _ _ => rfl⟩ (by omega)
  rintro n s M1 back ⟨t, W, ht, rfl, rfl, hW, hB, hI, hJ⟩ hb
  have fin : t = (ol b u).length → ok (some M1) (fun M1 => bnd b u (ol b u) M1 ∧ fr 87 106 M M1) := fun e => by
    refine ok_some ⟨by rw [e, List.take_length] at hB; exact hB, fun a k ha => ⟨?_, ?_⟩⟩
    · rw [hI a k (by omega) (by omega), e90 a k (by omega) (by omega), (F7 a k (by omega)).1]
    · rw [hJ a k (by omega), el a k (by omega), (F7 a k (by omega)).2]
  have w9 : ∀ v, v ∈ ol b u → v < gM b := fun v hv => (ol_m.mp hv).1
  unfold bX0_drawAgainst_73
  dsimp only
  rw [hI 13 5 (by omega) (by omega), m13 13 5 (by omega), cf5 hc]
  refine ok_if (fun z => ?_) (fun z => ?_)
  · exact fin (by have := yle z (by omega) (by omega); omega)
  · have z := nle z (show t < 2 ^ 31 by omega)
    refine ok_if (fun y => ?_) (fun y => ?_)
    · apply fin
      apply Classical.byContradiction
      intro q
      have ht2 : t < (ol b u).length := by omega
      have ml := getD_mem ht2
      have := (hW _ (by have := w9 _ ml; omega)).mpr ⟨ml, nodup_take (srt_nd Ls) ht2⟩
      rw [y, b_0] at this
      cases this
    · have ht2 : t < (ol b u).length := by
        apply Classical.byContradiction
        intro q
        apply y
        apply b_ext
        intro i hi
        rw [b_0]
        cases e : bt W i with
        | false => rfl
        | true =>
          have := (hW i hi).mp e
          rw [List.take_of_length_le (by omega)] at this
          exact absurd this.1 this.2
      have ml := getD_mem ht2
      have nm := nodup_take (srt_nd Ls) ht2
      have hv := w9 _ ml
      have hx : ∀ v, v < gM b → M1.2 91 v = lI (mo b u v) ∧ 0 ≤ mo b u v ∧ mo b u v ≤ 21233664 := fun v hv => by
        refine ⟨?_, mvb h hu hv⟩
        rw [hJ 91 v (by omega), el 91 v (by omega)]
        refine (un_x h S7 hv hu).trans ?_
        show lI (mv _ _ _ _ v u) = lI (mv _ _ _ _ u v)
        rw [mv_sym h.1 hv hu]
      have nb := next_bst (n := gM b) Ls (by omega) (fun x hx => w9 x hx) (fun v hv => hW v (by omega)) ht2
      rw [strongest_ok h (by rw [hI 13 5 (by omega) (by omega), m13 13 5 (by omega), cf5 hc]) hx nb (by omega)]
      have c1 : cNet 13 b M1 := cNet_c c13 (fun a k h1 h2 h3 => by rw [hI a k (by omega) (by omega), m13 a k (by omega)])
      refine ok_bs (ok_m (ok_bv (drawAll_ok (N := N) (u := u) (v := (ol b u).getD t 0) h c1 (take_9 h) hB hu hv nm (hx _ hv).1) (fun M4 h4 => ok_m (ok_m ?_))))
      obtain ⟨B4, I4, J4⟩ := h4
      refine hb (gM b - (t + 1)) _ _ (by omega) ⟨t + 1, _, (by omega), rfl, by rw [nI_1], fun x hx => ?_, by rw [take_s ht2]; exact B4, fun a k h1 h2 => by rw [I4 a k h1 h2, hI a k h1 h2], fun a k h1 => by rw [J4 a k h1, hJ a k h1]⟩
      rw [b_and, bt_not _ hx, take_s ht2]
      rw [show ((1 : Int32) <<< (nI ((ol b u).getD t 0) &&& 31)) = bi ((ol b u).getD t 0) from rfl, bt_bi (by omega) hx, List.mem_append, List.mem_singleton]
      have hw := hW x hx
      constructor
      · intro q
        have q1 : bt W x = true := by revert q; cases bt W x <;> simp
        have q2 : ¬ x = (ol b u).getD t 0 := by
          intro e
          rw [decide_eq_true e] at q
          revert q
          cases bt W x <;> simp
        exact ⟨(hw.mp q1).1, fun r => r.elim (hw.mp q1).2 q2⟩
      · intro q
        rw [hw.mpr ⟨q.1, fun r => q.2 (Or.inl r)⟩, decide_eq_false (fun r => q.2 (Or.inr r))]
        rfl
/-! the reference -/
def rdF (M M1 : sg_M) : Prop := (∀ a k, a ≠ 12 → a ≠ 13 → a ≠ 14 → M1.1 a k = M.1 a k) ∧ M1.2 = M.2
theorem rdF_tr {M M1 M2 : sg_M} (h : rdF M M1) (h2 : rdF M1 M2) : rdF M M2 := ⟨fun a k q1 q2 q3 => (h2.1 a k q1 q2 q3).trans (h.1 a k q1 q2 q3), h2.2.trans h.2⟩
theorem rdF_rEq {M M1 : sg_M} (h : rdF M M1) : rEq M M1 := ⟨fun a ha => funext fun k => h.1 a k (by omega) (by omega) (by omega), fun k hk => h.1 0 k (by omega) (by omega) (by omega)⟩
theorem rS_rd {M M1 : sg_M} (h : rS b M) (hF : rdF M M1) : rS b M1 := by
  obtain ⟨⟨h1, h2, h3, h4, h5⟩, h6⟩ := h
  have f9 : M1.1 9 = M.1 9 := funext fun k => hF.1 9 k (by omega) (by omega) (by omega)
  have f10 : M1.1 10 = M.1 10 := funext fun k => hF.1 10 k (by omega) (by omega) (by omega)
  refine ⟨⟨by rw [hF.1 0 21 (by omega) (by omega) (by omega), h1], by rw [hF.1 0 24 (by omega) (by omega) (by omega), f9, f10]; exact h2, ⟨by rw [hF.1 0 8 (by omega) (by omega) (by omega)]; exact h3.1, fun s hs => by rw [hF.1 6 _ (by omega) (by omega) (by omega), hF.1 6 _ (by omega) (by omega) (by omega)]; exact h3.2 s hs⟩, by rw [hF.2]; exact h4, fun i hi q hq => by unfold cellJ; rw [hF.2]; exact h5 i hi q hq⟩, ?_⟩
  rw [← h6]
  exact funext fun k => hF.1 1 k (by omega) (by omega) (by omega)
theorem r_ahd {u v x : Nat} {M : sg_M} (h : vb b) (hM : rS b M) (hu : u < gM b) (hv : v < gM b) (hx : x < gM b) : (ahd (mo b u) v x → fX11_isAhead N 0 (nI u) (nI v) (nI x) M = some (1, M)) ∧ (¬ ahd (mo b u) v x → fX11_isAhead N 0 (nI u) (nI v) (nI x) M = some (0, M)) := by
  have hm := vb_m h
  have a1 := mvb h hu hv
  have a2 := mvb h hu hx
  have e1 : mo b u v = bV2 b u v := rfl
  have e2 : mo b u x = bV2 b u x := rfl
  unfold fX11_isAhead ahd
  rw [r_mov h hM hu hv, e_b, r_mov h hM hu hx, e_b, r_mov h hM hu hv, e_b, r_mov h hM hu hx, e_b]
  by_cases e : bV2 b u v = bV2 b u x
  · rw [if_pos (lg0.mpr (by rw [e]))]
    by_cases l : v < x
    · rw [if_neg (nI_ge l (by omega))]
      exact ⟨fun _ => rfl, fun z => by omega⟩
    · rw [if_pos (nI_le (by omega) (by omega))]
      exact ⟨fun z => by omega, fun _ => rfl⟩
  · rw [if_neg (fun z => e ((lI_eq (by omega) (by omega) (by omega) (by omega)).mp (lg0.mp z)))]
    by_cases l : bV2 b u x < bV2 b u v
    · rw [if_neg (fun z => lg_le.mp z ((lI_lt (by omega) (by omega) (by omega) (by omega)).mpr l))]
      exact ⟨fun _ => rfl, fun z => by omega⟩
    · rw [if_pos (lg_le.mpr (fun z => l ((lI_lt (by omega) (by omega) (by omega) (by omega)).mp z)))]
      exact ⟨fun z => by omega, fun _ => rfl⟩
end DA
