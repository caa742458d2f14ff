/-! blocks that differ in a few places -/
theorem ub_eq {b : Nat → Int32} {k : Nat} {x : Int32} : ub b k x k = x := if_pos rfl
theorem ub_ne {b : Nat → Int32} {k i : Nat} {x : Int32} (h : i ≠ k) : ub b k x i = b i := if_neg h
section DF
variable {b d : Nat → Int32}
/-- the same shape, limit, wear -/
def sm (b d : Nat → Int32) : Prop := gC d = gC b ∧ gR d = gR b ∧ gT d = gT b ∧ gE d = gE b ∧ gS d = gS b ∧ gM d = gM b
theorem sm_of (e : ∀ i, i < 4 → d i = b i) : sm b d := by
  have eC : gC d = gC b := by unfold gC; rw [e 0 (by omega)]
  have eR : gR d = gR b := by unfold gR; rw [e 1 (by omega)]
  exact ⟨eC, eR, by unfold gT; rw [e 2 (by omega)], by unfold gE; rw [e 3 (by omega)], by unfold gS; rw [eC, eR], by unfold gM; rw [eC, eR]⟩
theorem vb_wid {x : Nat → Nat} (h : vb b) (e : ∀ i, i < 28 → d i = b i) (hx : ∀ s, s < 12 → d (28 + s) = nI (x s) ∧ x s ≤ 4 ∧ (gS b ≤ s → x s = 0)) : vb d ∧ ∀ s, s < 12 → gW d s = x s := by
  obtain ⟨eC, eR, eT, eE, eS, eM⟩ := sm_of (b := b) (d := d) (fun i hi => e i (by omega))
  have eL : ∀ v, v < 9 → gL d v = gL b v := fun v hv => by unfold gL; rw [e _ (by omega)]
  have eG : ∀ v, v < 9 → gG d v = gG b v := fun v hv => by unfold gG; rw [e _ (by omega)]
  have eB : ∀ g, g < 4 → gB d g = gB b g := fun v hv => by unfold gB; rw [e _ (by omega)]
  have eW : ∀ s, s < 12 → gW d s = x s := fun s hs => by unfold gW; rw [(hx s hs).1]; exact nI_clamp (by have := (hx s hs).2.1; omega)
  obtain ⟨h1, ⟨h2, h3⟩, ⟨⟨h4, h5⟩, h6, h7⟩, h8, h9, h10, h11, h12, h13⟩ := h
  refine ⟨⟨by rw [eC, eR]; exact h1, ⟨by rw [e 0 (by omega), eC]; exact h2, by rw [e 1 (by omega), eR]; exact h3⟩, ⟨⟨by rw [e 2 (by omega), eT]; exact h4, by rw [eT]; exact h5⟩, by rw [e 3 (by omega), eE]; exact h6, by rw [eE]; exact h7⟩, by rw [e 4 (by omega)]; exact h8, by rw [e 5 (by omega), eC, eR]; exact h9, fun s hs => ?_, fun v hv => ?_, fun v hv => ?_, fun g hg => ?_⟩, eW⟩
  · rw [eW s hs, eS]; exact hx s hs
  · rw [e _ (by omega), eL v hv, eM]; exact h11 v hv
  · rw [e _ (by omega), eG v hv]; exact h12 v hv
  · rw [e _ (by omega), eB g hg]; exact h13 g hg
theorem vb_loa {x : Nat → Nat} (h : vb b) (e : ∀ i, (i < 6 ∨ 15 ≤ i) → d i = b i) (hx : ∀ v, v < 9 → d (6 + v) = nI (x v) ∧ x v ≤ 99 ∧ (gM b ≤ v → x v = 0)) : vb d ∧ ∀ v, v < 9 → gL d v = x v := by
  obtain ⟨eC, eR, eT, eE, eS, eM⟩ := sm_of (b := b) (d := d) (fun i hi => e i (by omega))
  have eW : ∀ v, v < 12 → gW d v = gW b v := fun v hv => by unfold gW; rw [e _ (by omega)]
  have eG : ∀ v, v < 9 → gG d v = gG b v := fun v hv => by unfold gG; rw [e _ (by omega)]
  have eB : ∀ g, g < 4 → gB d g = gB b g := fun v hv => by unfold gB; rw [e _ (by omega)]
  have eL : ∀ v, v < 9 → gL d v = x v := fun v hv => by unfold gL; rw [(hx v hv).1]; exact nI_clamp (by have := (hx v hv).2.1; omega)
  obtain ⟨h1, ⟨h2, h3⟩, ⟨⟨h4, h5⟩, h6, h7⟩, h8, h9, h10, h11, h12, h13⟩ := h
  refine ⟨⟨by rw [eC, eR]; exact h1, ⟨by rw [e 0 (by omega), eC]; exact h2, by rw [e 1 (by omega), eR]; exact h3⟩, ⟨⟨by rw [e 2 (by omega), eT]; exact h4, by rw [eT]; exact h5⟩, by rw [e 3 (by omega), eE]; exact h6, by rw [eE]; exact h7⟩, by rw [e 4 (by omega)]; exact h8, by rw [e 5 (by omega), eC, eR]; exact h9, fun s hs => ?_, fun v hv => ?_, fun v hv => ?_, fun g hg => ?_⟩, eL⟩
  · rw [e _ (by omega), eW s hs, eS]; exact h10 s hs
  · rw [eL v hv, eM]; exact hx v hv
  · rw [e _ (by omega), eG v hv]; exact h12 v hv
  · rw [e _ (by omega), eB g hg]; exact h13 g hg
theorem vb_pad {P : Int32} (h : vb b) (hP : ∀ v, v < 32 → bt P v = true → v < gM b) : vb (ub b 5 P) := by
  have e : ∀ i, i ≠ 5 → ub b 5 P i = b i := fun i hi => ub_ne hi
  obtain ⟨eC, eR, eT, eE, eS, eM⟩ := sm_of (b := b) (d := ub b 5 P) (fun i hi => e i (by omega))
  have eW : ∀ v, gW (ub b 5 P) v = gW b v := fun v => by unfold gW; rw [e _ (by omega)]
  have eG : ∀ v, gG (ub b 5 P) v = gG b v := fun v => by unfold gG; rw [e _ (by omega)]
  have eB : ∀ g, gB (ub b 5 P) g = gB b g := fun v => by unfold gB; rw [e _ (by omega)]
  have eL : ∀ v, gL (ub b 5 P) v = gL b v := fun v => by unfold gL; rw [e _ (by omega)]
  obtain ⟨h1, ⟨h2, h3⟩, ⟨⟨h4, h5⟩, h6, h7⟩, h8, h9, h10, h11, h12, h13⟩ := h
  refine ⟨by rw [eC, eR]; exact h1, ⟨by rw [e 0 (by omega), eC]; exact h2, by rw [e 1 (by omega), eR]; exact h3⟩, ⟨⟨by rw [e 2 (by omega), eT]; exact h4, by rw [eT]; exact h5⟩, by rw [e 3 (by omega), eE]; exact h6, by rw [eE]; exact h7⟩, by rw [e 4 (by omega)]; exact h8, by rw [ub_eq, eC, eR]; exact hP, fun s hs => ?_, fun v hv => ?_, fun v hv => ?_, fun g hg => ?_⟩
  · rw [e _ (by omega), eW s, eS]; exact h10 s hs
  · rw [e _ (by omega), eL v, eM]; exact h11 v hv
  · rw [e _ (by omega), eG v]; exact h12 v hv
  · rw [e _ (by omega), eB g]; exact h13 g hg
theorem vb_wB {s x : Nat} (h : vb b) (hs : s < gS b) (hx : x ≤ 4) : vb (wB b s x) ∧ gW (wB b s x) s = x ∧ ∀ t, t < 12 → t ≠ s → gW (wB b s x) t = gW b t := by
  have hn := vb_n h
  have := vb_wid (d := wB b s x) (x := fun t => if t = s then x else gW b t) h (fun i hi => ub_ne (by omega)) (fun t ht => ?_)
  · exact ⟨this.1, by rw [this.2 s (by omega), if_pos rfl], fun t ht hne => by rw [this.2 t ht, if_neg hne]⟩
  · by_cases e : t = s
    · subst e
      rw [if_pos rfl]
      exact ⟨ub_eq, hx, fun z => by omega⟩
    · rw [if_neg e]
      exact ⟨by show ub _ _ _ _ = _; rw [ub_ne (by omega)]; exact vb_w h ht, vb_w4 h ht, vb_w0 h ht⟩
theorem vb_wo {s o : Nat} (h : vb b) (hs : s < gS b) (ho : o < gS b) : vb (wo b s o) := by
  have hn := vb_n h
  refine (vb_wid (d := wo b s o) (x := fun t => if t = s ∨ t = o then 0 else gW b t) h (fun i hi => ?_) (fun t ht => ?_)).1
  · show ub _ _ _ _ = _
    rw [ub_ne (by omega), ub_ne (by omega)]
  · show ub _ _ _ _ = _ ∧ _
    by_cases e : t = o
    · subst e
      rw [if_pos (Or.inr rfl), ub_eq]
      exact ⟨rfl, (by omega), fun _ => rfl⟩
    · rw [ub_ne (by omega)]
      by_cases e2 : t = s
      · subst e2
        rw [if_pos (Or.inl rfl), ub_eq]
        exact ⟨rfl, (by omega), fun _ => rfl⟩
      · rw [ub_ne (by omega), if_neg (by omega)]
        exact ⟨vb_w h ht, vb_w4 h ht, vb_w0 h ht⟩
/-! wear -/
theorem bt_wbF (h : vb b) : ∀ k, k ≤ gS b → ∀ s, s < 32 → bt (wbF b k) s = (decide (s < k) && decide ((gE b : Int) * bD b < heat b s)) := by
  have hn := vb_n h
  intro k
  induction k with
  | zero => intro _ s _; show bt 0 s = _; rw [b_0, decide_eq_false (by omega), Bool.false_and]
  | succ k ih =>
    intro hk s hs
    show bt (wbF b k ||| _) s = _
    rw [b_or, ih (by omega) s hs]
    by_cases q : (gE b : Int) * bD b < heat b k
    · rw [if_pos q, bt_bi (by omega) hs]
      by_cases e : s = k
      · subst e
        rw [decide_eq_true rfl, Bool.or_true, decide_eq_true (by omega : s < s + 1), decide_eq_true q]
        rfl
      · rw [decide_eq_false e, Bool.or_false, decide_eq_decide.mpr (by omega : s < k ↔ s < k + 1)]
    · rw [if_neg q, b_0, Bool.or_false]
      by_cases e : s = k
      · subst e
        rw [decide_eq_false q, Bool.and_false, Bool.and_false]
      · rw [decide_eq_decide.mpr (by omega : s < k ↔ s < k + 1)]
theorem bt_wbs (h : vb b) {s : Nat} (hs : s < gS b) : bt (wbs b) s = decide ((gE b : Int) * bD b < heat b s) := by
  have hn := vb_n h
  unfold wbs
  rw [bt_wbF h _ (Nat.le_refl _) s (by omega), decide_eq_true hs, Bool.true_and]
theorem wear_w (h : vb b) {s : Nat} (hb : bt (wbs b) s = true) (hs : s < gS b) : 1 ≤ gW b s := by
  rw [bt_wbs h hs] at hb
  have hb := of_decide_eq_true hb
  have hd := bD_b h
  have he := vb_E h
  unfold heat at hb
  by_cases e : gW b s = 0
  · rw [if_pos e] at hb
    have : 0 ≤ (gE b : Int) * bD b := Int.mul_nonneg (by omega) (by omega)
    omega
  · omega
theorem nI_dec {n : Nat} (h : 1 ≤ n) : nI n - 1 = nI (n - 1) := by
  have : nI (n - 1) + nI 1 = nI n := by rw [nI_add]; congr 1; omega
  rw [← this, show (1 : Int32) = nI 1 from rfl]
  exact Int32.add_sub_cancel _ _
theorem vb_age (h : vb b) : vb (age b) ∧ ∀ s, s < 12 → gW (age b) s = if s < gS b ∧ bt (wbs b) s = true then gW b s - 1 else gW b s := by
  have hn := vb_n h
  refine vb_wid h (fun i hi => ?_) (fun s hs => ?_)
  · unfold age
    rw [if_neg (by omega)]
  · have e : 28 + s - 28 = s := by omega
    have w4 := vb_w4 h hs
    unfold age
    rw [e]
    by_cases q : s < gS b ∧ bt (wbs b) s = true
    · rw [if_pos ⟨by omega, by omega, q.2⟩, if_pos q, vb_w h hs, nI_dec (wear_w h q.2 q.1)]
      exact ⟨rfl, by omega, fun z => by omega⟩
    · rw [if_neg (fun z => q ⟨by omega, z.2.2⟩), if_neg q]
      exact ⟨vb_w h hs, w4, vb_w0 h hs⟩
theorem age_sm (b : Nat → Int32) : sm b (age b) := sm_of (fun i hi => by unfold age; rw [if_neg (by omega)])
theorem yr_v (h : vb b) : ∀ y, vb (yr b y) := by
  intro y
  induction y with
  | zero => exact h
  | succ y ih => exact (vb_age ih).1
theorem yr_sm (b : Nat → Int32) : ∀ y, sm b (yr b y) := by
  intro y
  induction y with
  | zero => exact ⟨rfl, rfl, rfl, rfl, rfl, rfl⟩
  | succ y ih =>
    obtain ⟨a1, a2, a3, a4, a5, a6⟩ := ih
    obtain ⟨c1, c2, c3, c4, c5, c6⟩ := age_sm (yr b y)
    exact ⟨c1.trans a1, c2.trans a2, c3.trans a3, c4.trans a4, c5.trans a5, c6.trans a6⟩
theorem yr_lo (b : Nat → Int32) : ∀ y i, i < 28 → yr b y i = b i := by
  intro y
  induction y with
  | zero => intro _ _; rfl
  | succ y ih =>
    intro i hi
    show age (yr b y) i = _
    unfold age
    rw [if_neg (by omega), ih i hi]
/-- all widths together -/
def tw (b : Nat → Int32) : Nat → Nat
  | 0 => 0
  | k + 1 => tw b k + gW b k
theorem tw_le (h : ∀ s, s < 12 → gW d s ≤ gW b s) : ∀ k, k ≤ 12 → tw d k ≤ tw b k := by
  intro k
  induction k with
  | zero => intro _; exact Nat.le_refl _
  | succ k ih =>
    intro hk
    have := ih (by omega)
    have := h k (by omega)
    show tw d k + _ ≤ tw b k + _
    omega
theorem tw_lt (h : ∀ s, s < 12 → gW d s ≤ gW b s) {s : Nat} (hs : gW d s < gW b s) : ∀ k, k ≤ 12 → s < k → tw d k < tw b k := by
  intro k
  induction k with
  | zero => intro _ h; omega
  | succ k ih =>
    intro hk hsk
    show tw d k + _ < tw b k + _
    by_cases e : s = k
    · subst e
      have := tw_le h s (by omega)
      omega
    · have := ih (by omega) (by omega)
      have := h k (by omega)
      omega
theorem tw_48 (h : vb b) : ∀ k, k ≤ 12 → tw b k ≤ 4 * k := by
  intro k
  induction k with
  | zero => intro _; exact Nat.le_refl _
  | succ k ih =>
    intro hk
    have := ih (by omega)
    have := vb_w4 h (show k < 12 by omega)
    show tw b k + _ ≤ _
    omega
theorem wbs_ne (h : vb b) (hz : wbs b ≠ 0) : ∃ s, s < gS b ∧ bt (wbs b) s = true := by
  apply Classical.byContradiction
  intro hn
  apply hz
  apply b_ext
  intro i hi
  rw [b_0]
  by_cases q : i < gS b
  · cases z : bt (wbs b) i with
    | false => rfl
    | true => exact absurd ⟨i, q, z⟩ hn
  · unfold wbs
    rw [bt_wbF h _ (Nat.le_refl _) i hi, decide_eq_false q, Bool.false_and]
theorem age_tw (h : vb b) (hz : wbs b ≠ 0) : tw (age b) 12 < tw b 12 := by
  obtain ⟨s, hs, hb⟩ := wbs_ne h hz
  have hn := vb_n h
  have ha := (vb_age h).2
  refine tw_lt (fun t ht => ?_) (s := s) ?_ 12 (by omega) (by omega)
  · rw [ha t ht]
    by_cases q : t < gS b ∧ bt (wbs b) t = true
    · rw [if_pos q]; omega
    · rw [if_neg q]; omega
  · rw [ha s (by omega), if_pos ⟨hs, hb⟩]
    have := wear_w h hb hs
    omega
theorem cal_48 (h : vb b) : cal b ≤ 48 := by
  apply Classical.byContradiction
  intro hn
  obtain ⟨h1, h2, h3⟩ := fst1_s (fun y => decide (wbs (yr b y) = 0)) 49
  have e : ∀ y, y ≤ 49 → tw (yr b y) 12 + y ≤ 48 := by
    intro y
    induction y with
    | zero => intro _; have := tw_48 h 12 (by omega); exact this
    | succ y ih =>
      intro hy
      have := ih (by omega)
      have := h3 y (by have : ¬ fst1 (fun y => decide (wbs (yr b y) = 0)) 49 ≤ 48 := hn; omega)
      have := age_tw (yr_v h y) (of_decide_eq_false this)
      show tw (age (yr b y)) 12 + _ ≤ _
      omega
  have := e 49 (by omega)
  omega
end DF
/-! Flow.settle over a block; SupplyGrid.now -/
theorem flowF_fr {f : Nat} {M M1 : sg_M} (h : flowF f M M1) : fr f (f + 16) M M1 := fun a k ha => ⟨h.1 a k (by omega), h.2 a k (by omega)⟩
theorem settle_b {N f a ld : Nat} {d : Nat → Int32} {M : sg_M} (hf : sg_K Yc f 1) (h : vb d) (hfq : 15 < f) (ha : a < f ∨ f + 16 ≤ a) (hla : Yc.2.2.1 a = 12) (hld : ld < f ∨ f + 15 ≤ ld) (hll : Yc.2.2.1 ld = 9) (hG : netG (gC d) (gR d) 13 M) (hw : ∀ s, s < 12 → M.1 a s = d (28 + s)) (hl : ∀ v, v < 9 → M.1 ld v = d (6 + v)) (hN : 1000 ≤ N) : ok (fX1_settle N f 13 a (d 5) ld M) (fun M1 => bsol d f M1 ∧ fr f (f + 16) M M1 ∧ M1.1 (f + 15) = M.1 (f + 15)) := by
  have hn := vb_n h
  refine ok_imp (settle_ok (N := N) hf (show sg_K Yc 13 4 from ⟨by decide, by decide⟩) h.1 (vb_W h) (vb_P h) (vb_L h) (by omega) ha hla hld hll hG (fun s hs => ?_) (fun v hv => ?_) hN) (fun M1 hM => ⟨hM.1, flowF_fr hM.2, ?_⟩)
  · have hs : s < gS d := hs
    rw [hw s (by omega)]; exact vb_w h (by omega)
  · have := h.1.2.2
    rw [hl v (by omega)]; exact vb_l h (by omega)
  · funext k
    exact hM.2.1 _ k (by omega)
theorem cNet_G {b : Nat → Int32} {q : Nat} {M : sg_M} (h : cNet q b M) : netG (gC b) (gR b) q M := h.2.1
theorem sm_G {b d : Nat → Int32} {q : Nat} {M : sg_M} (h : sm b d) (hG : netG (gC b) (gR b) q M) : netG (gC d) (gR d) q M := by rw [h.1, h.2.1]; exact hG
/-- what else is cached stays where only these places change -/
theorem cI_mk {b : Nat → Int32} {M M1 : sg_M} (h : cI b M) (hl : low M M1) (hP : cPr b M1) (hY : ∀ a k, 106 ≤ a → a < 157 → M1.1 a k = M.1 a k) (hp : ∀ a k, 173 ≤ a → a < 188 → M1.1 a k = M.1 a k ∧ M1.2 a k = M.2 a k) (hs : ∀ a k, 205 ≤ a → a < 209 → M1.1 a k = M.1 a k) (hL : ∀ a k, 228 ≤ a → a < 230 → M1.1 a k = M.1 a k) : cI b M1 := by
  obtain ⟨hv, hN, c1, c2, c3, c4, c5, c6, c7, c8, c9⟩ := h
  have s := cS_c ⟨c5, c6, c7⟩ hs
  have l := cL_c ⟨c8, c9⟩ hL
  exact ⟨hv, cNet_c hN (fun a k h1 h2 h3 => hl a k (by omega) (Or.inl (by omega))), hP, cYe_c c2 hY (cal_48 hv), cPg_c c3 (fun a k h1 h2 => (hp a k h1 (by omega)).1), cPs_c c4 (fun a k h1 h2 => hp a k (by omega) h2), s.1, s.2.1, s.2.2, l.1, l.2⟩
theorem cI_N {b : Nat → Int32} {M : sg_M} (h : cI b M) : cNet 13 b M := h.2.1
theorem cI_v {b : Nat → Int32} {M : sg_M} (h : cI b M) : vb b := h.1
/-- changes in the trial flow, in Bounded, in LoadTrials -/
theorem cI_tr {b : Nat → Int32} {M M1 : sg_M} (h : cI b M) (e : ∀ a k, (a < 71 ∨ 106 ≤ a) → a < 248 → M1.1 a k = M.1 a k ∧ M1.2 a k = M.2 a k) : cI b M1 := by
  refine cI_mk h (fun a k h1 h2 => (e a k (by omega) (by omega)).1) (fun z => ?_) (fun a k h1 h2 => (e a k (by omega) (by omega)).1) (fun a k h1 h2 => e a k (by omega) (by omega)) (fun a k h1 h2 => (e a k (by omega) (by omega)).1) (fun a k h1 h2 => (e a k (by omega) (by omega)).1)
  rw [(e 0 5 (by omega) (by omega)).1] at z
  exact bsol_c (h.2.2.1 z) (fun a k h1 h2 => e a k (by omega) (by omega))
def nowF (M M1 : sg_M) : Prop := (∀ a k, (a < 55 ∨ 71 ≤ a) → (a ≠ 0 ∨ k ≠ 5) → M1.1 a k = M.1 a k) ∧ ∀ a k, (a < 55 ∨ 71 ≤ a) → M1.2 a k = M.2 a k
theorem nowF_low {M M1 : sg_M} (h : nowF M M1) : low M M1 := fun a k h1 h2 => h.1 a k (Or.inl h1) h2
theorem now_ok {N : Nat} {b : Nat → Int32} {M : sg_M} (h : cI b M) (hN : 1000 ≤ N) : okA (fX10_now N 0 M) 55 (fun M1 => cI b M1 ∧ bsol b 55 M1 ∧ nowF M M1) := by
  obtain ⟨⟨n0, n1, n2, n3, n4, n7⟩, nG, nw, nl, ng, nb⟩ := cI_N h
  apply okA_of
  unfold fX10_now
  rw [show Yc.2.2.2 0 4 = 55 by decide, show Yc.2.2.2 0 1 = 13 by decide, show Yc.2.2.2 13 11 = 16 by decide, show Yc.2.2.2 13 12 = 17 by decide, n7]
  refine ok_if (fun z => ?_) (fun z => ?_)
  · refine ok_bv (settle_b (N := N) (f := 55) (a := 16) (ld := 17) (d := b) ⟨by decide, by decide⟩ h.1 (by omega) (Or.inl (by omega)) (by decide) (Or.inl (by omega)) (by decide) nG nw nl hN) (fun M1 hM => ok_m (ok_some ⟨rfl, ?_⟩))
    obtain ⟨hS, hF, -⟩ := hM
    have hS2 : bsol b 55 (sg_uI M1 0 5 1) := bsol_c hS (fun a k h1 h2 => ⟨uI_na (by omega), rfl⟩)
    have hn : nowF M (sg_uI M1 0 5 1) := ⟨fun a k h1 h2 => by rw [uI_at, if_neg (by omega)]; exact (hF a k (by omega)).1, fun a k h1 => (hF a k (by omega)).2⟩
    exact ⟨cI_mk h (nowF_low hn) (fun _ => hS2) (fun a k h1 h2 => hn.1 a k (by omega) (by omega)) (fun a k h1 h2 => ⟨hn.1 a k (by omega) (by omega), hn.2 a k (by omega)⟩) (fun a k h1 h2 => hn.1 a k (by omega) (by omega)) (fun a k h1 h2 => hn.1 a k (by omega) (by omega)), hS2, hn⟩
  · exact ok_some ⟨rfl, h, h.2.2.1 z, fun _ _ _ _ => rfl, fun _ _ _ => rfl⟩
