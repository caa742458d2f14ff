/-! the MOST: what all draw for it -/
theorem cpy_in {M : sg_M} {a b n k : Nat} (h : k < n) : (sg_cpy M a b 0 0 n).1 b k = M.1 a k := by
  show (if b = b then va_cpy (M.1 a) (M.1 b) 0 0 n k else _) = _
  rw [if_pos rfl]
  unfold va_cpy
  rw [if_pos ⟨Nat.zero_le _, by omega⟩, Nat.zero_add, Nat.sub_zero]
theorem cpy_na {M : sg_M} {a b n x k : Nat} (h : x ≠ b) : (sg_cpy M a b 0 0 n).1 x k = M.1 x k := if_neg h
theorem cpy_l {M : sg_M} {a b n : Nat} : (sg_cpy M a b 0 0 n).2 = M.2 := rfl
def aliv (b : Nat → Int32) (v : Nat) : Bool := !bt (bQ b) v
def mo (b : Nat → Int32) (u : Nat) : Nat → Int := fun v => bV2 b u v
def ol (b : Nat → Int32) (u : Nat) : List Nat := orS (mo b u) (aliv b) (gM b)
def amt (b : Nat → Int32) (lf : Nat → Nat) (v : Nat) : Nat := min (gL b v) (min (lf 0) (lf (gG b v)))
def dst (b : Nat → Int32) (p : (Nat → Nat) × (Nat → Nat)) (v : Nat) : (Nat → Nat) × (Nat → Nat) := (fun g => if g = 0 ∨ g = gG b v then p.1 g - amt b p.1 v else p.1 g, fun x => if x = v then amt b p.1 v else p.2 x)
theorem dst_1 {b : Nat → Int32} {p : (Nat → Nat) × (Nat → Nat)} {v g : Nat} : (dst b p v).1 g = if g = 0 ∨ g = gG b v then p.1 g - amt b p.1 v else p.1 g := rfl
theorem dst_2 {b : Nat → Int32} {p : (Nat → Nat) × (Nat → Nat)} {v x : Nat} : (dst b p v).2 x = if x = v then amt b p.1 v else p.2 x := rfl
def drs (b : Nat → Int32) (l : List Nat) : (Nat → Nat) × (Nat → Nat) := l.foldl (dst b) (gB b, fun _ => 0)
theorem drs_app {b : Nat → Int32} {l : List Nat} {v : Nat} : drs b (l ++ [v]) = dst b (drs b l) v := by unfold drs; rw [List.foldl_append]; rfl
def msT (b : Nat → Int32) (u : Nat) (l : List Nat) (v : Nat) : Int := bV2 b u v * ((drs b l).2 v : Int)
def mst (b : Nat → Int32) (u : Nat) : Int := fs (gM b) (msT b u (ol b u))
theorem snoc_ind {P : List Nat → Prop} (h0 : P []) (hs : ∀ l a, P l → P (l ++ [a])) (l : List Nat) : P l := by
  have : ∀ l : List Nat, P l.reverse := fun l => by
    induction l with
    | nil => exact h0
    | cons a l ih => rw [List.reverse_cons]; exact hs _ _ ih
  have := this l.reverse
  rw [List.reverse_reverse] at this
  exact this
section DR
variable {N : Nat} {b : Nat → Int32}
theorem drs_b (h : vb b) : ∀ l : List Nat, (∀ v, v ∈ l → v < 9) → (∀ g, g < 4 → (drs b l).1 g ≤ 999) ∧ ∀ v, (drs b l).2 v ≤ 99 ∧ (v ∉ l → (drs b l).2 v = 0) := by
  intro l
  induction l using snoc_ind with
  | h0 => intro _; exact ⟨fun g hg => vb_b9 h hg, fun v => ⟨Nat.zero_le _, fun _ => rfl⟩⟩
  | hs l w ih =>
    intro hl
    obtain ⟨h1, h2⟩ := ih (fun v hv => hl v (List.mem_append_left _ hv))
    have hw := hl w (List.mem_append_right _ (List.mem_singleton_self w))
    rw [drs_app]
    refine ⟨fun g hg => ?_, fun v => ⟨?_, fun hv => ?_⟩⟩
    · show (if _ then _ else _) ≤ _
      have := h1 g hg
      split
      · exact Nat.le_trans (Nat.sub_le _ _) this
      · exact this
    · show (if _ then _ else _) ≤ _
      have a1 : amt b (drs b l).1 w ≤ 99 := Nat.le_trans (Nat.min_le_left _ _) (vb_l99 h hw)
      have := (h2 v).1
      split <;> omega
    · show (if _ then _ else _) = _
      rw [List.mem_append] at hv
      rw [if_neg (fun z => hv (Or.inr (by rw [z]; exact List.mem_singleton_self w)))]
      exact (h2 v).2 (fun z => hv (Or.inl z))
theorem ol_m {u x : Nat} : x ∈ ol b u ↔ x < gM b ∧ aliv b x = true := (orS_s (gM b)).2 x
theorem ol_9 (h : vb b) {u : Nat} : ∀ v, v ∈ ol b u → v < 9 := fun v hv => by
  have := (ol_m.mp hv).1
  have := vb_m h
  omega
theorem take_9 (h : vb b) {u t : Nat} : ∀ v, v ∈ (ol b u).take t → v < 9 := fun v hv => ol_9 h v (List.mem_of_mem_take hv)
theorem mst_b (h : vb b) {u : Nat} (hu : u < gM b) {l : List Nat} (hl : ∀ v, v ∈ l → v < 9) : 0 ≤ fs (gM b) (msT b u l) ∧ fs (gM b) (msT b u l) ≤ 18919194624 := by
  have hm := vb_m h
  have h1 := fs_bd (n := gM b) (g := msT b u l) (B := 2102132736) (fun v hv => by
    have a := mvb h hu hv
    have c := ((drs_b h l hl).2 v).1
    unfold msT
    exact ⟨Int.mul_nonneg a.1 (by omega), Int.le_trans (Int.mul_le_mul a.2 (show ((drs b l).2 v : Int) ≤ 99 by omega) (by omega) (by omega)) (by omega)⟩)
  have h3 : (gM b : Int) * 2102132736 ≤ 9 * 2102132736 := Int.mul_le_mul_of_nonneg_right (by omega) (by omega)
  omega
/-- one more draws -/
theorem mst_add {u v : Nat} {l : List Nat} (h : vb b) (hl : ∀ v, v ∈ l → v < 9) (hv : v < gM b) (hn : v ∉ l) : fs (gM b) (msT b u (l ++ [v])) = fs (gM b) (msT b u l) + bV2 b u v * (amt b (drs b l).1 v : Int) := by
  have e0 := ((drs_b h l hl).2 v).2 hn
  rw [fs_pick hv, fs_pick (f := msT b u l) hv]
  have e1 : msT b u l v = 0 := by unfold msT; rw [e0]; exact Int.mul_zero _
  have e2 : msT b u (l ++ [v]) v = bV2 b u v * (amt b (drs b l).1 v : Int) := by
    unfold msT
    rw [drs_app]
    show _ * (((if v = v then _ else _) : Nat) : Int) = _
    rw [if_pos rfl]
  have e3 : fs (gM b) (fun i => if i = v then 0 else msT b u (l ++ [v]) i) = fs (gM b) (fun i => if i = v then 0 else msT b u l i) := fs_congr (fun i _ => by
    by_cases e : i = v
    · rw [if_pos e, if_pos e]
    · rw [if_neg e, if_neg e]
      unfold msT
      rw [drs_app]
      show _ * (((if i = v then _ else _) : Nat) : Int) = _
      rw [if_neg e])
  rw [e1, e2, e3, Int.add_zero]
theorem K90 : sg_K Yc 90 1 := ⟨by decide, by decide⟩
theorem y87_2 : Yc.2.2.2 87 2 = 88 := by decide
theorem y87_3 : Yc.2.2.2 87 3 = 89 := by decide
theorem y87_4 : Yc.2.2.2 87 4 = 90 := by decide
theorem y90_2 : Yc.2.2.2 90 2 = 91 := by decide
theorem yn_88 : Yc.2.2.1 88 = 9 := by decide
theorem yn_89 : Yc.2.2.1 89 = 4 := by decide
theorem yn_91 : Yc.2.2.1 91 = 9 := by decide
theorem strongest_ok {W : Int32} {m : Nat → Int} {M : sg_M} (h : vb b) (h5 : M.1 13 5 = nI (gM b)) (hx : ∀ v, v < gM b → M.2 91 v = lI (m v) ∧ 0 ≤ m v ∧ m v ≤ 21233664) {j : Nat} (hj : bst (fun k j => decide (m j < m k)) (fun v => bt W v) (gM b) = some j) (hN : 20 ≤ N) : fX0_strongest N 87 13 W M = some (nI j, M) := by
  have hm := vb_m h
  unfold fX0_strongest
  apply ok_eq
  refine ok_m (ok_m (ok_m ?_))
  unfold gX0_strongest_10
  refine ok_for 0 (gM b) (fun i s M1 => ∃ (ch : Int32) (g : Int), s = (87, 13, W, ch, lI g, nI i) ∧ M = M1 ∧ -1 ≤ g ∧ g ≤ 21233664 ∧ (bst (fun k j => decide (m j < m k)) (fun v => bt W v) i = none → g = -1) ∧ ∀ j, bst (fun k j => decide (m j < m k)) (fun v => bt W v) i = some j → ch = nI j ∧ g = m j) (by omega) (by omega) ⟨0, -1, rfl, rfl, (by omega), (by omega), fun _ => rfl, fun j e => by cases e⟩ ?_ ?_
  · rintro i s M1 back hi ⟨ch, g, rfl, rfl, g1, g2, hn, hg⟩ hb
    obtain ⟨x1, x2, x3⟩ := hx i hi
    unfold bX0_strongest_10
    dsimp only
    rw [h5, y87_4, y90_2, yn_91, nI_clamp (show i < 2 ^ 31 by omega), x1]
    refine ok_f (nI_ge hi (by omega)) (ok_if (fun z => ?_) (fun z => ?_))
    · have z := (bt_test1 (show i < 32 by omega)).mp z
      refine ok_t (ib_nI (by omega) (by omega)) (ok_if (fun y => ?_) (fun y => ?_))
      · have y : ¬ g < m i := fun q => lg_le.mp y ((lI_lt (by omega) (by omega) (by omega) (by omega)).mpr q)
        cases e : bst (fun k j => decide (m j < m k)) (fun v => bt W v) i with
        | none => have := hn e; omega
        | some k =>
          have hk := hg k e
          have e3 := bst_3 (lt := fun k j => decide (m j < m k)) (p := fun v => bt W v) z e (by rw [decide_eq_false (by omega)]; decide)
          exact ok_m (hb _ _ ⟨ch, g, by rw [nI_1], rfl, g1, g2, fun w => by (rw [e3] at w; cases w), fun j w => by rw [e3] at w; cases w; exact hk⟩)
      · have y : g < m i := by
          apply Classical.byContradiction
          intro q
          exact y (lg_le.mpr (fun w => q ((lI_lt (by omega) (by omega) (by omega) (by omega)).mp w)))
        refine ok_m (ok_t (ib_nI (by omega) (by omega)) (ok_m (ok_m (hb _ _ ⟨nI i, m i, by rw [nI_1], rfl, (by omega), (by omega), ?_⟩))))
        cases e : bst (fun k j => decide (m j < m k)) (fun v => bt W v) i with
        | none =>
          have e3 := bst_1 (lt := fun k j => decide (m j < m k)) (p := fun v => bt W v) z e
          exact ⟨fun w => by (rw [e3] at w; cases w), fun j w => by rw [e3] at w; cases w; exact ⟨rfl, rfl⟩⟩
        | some k =>
          have hk := hg k e
          have e3 := bst_2 (lt := fun k j => decide (m j < m k)) (p := fun v => bt W v) z e (decide_eq_true (by omega))
          exact ⟨fun w => by (rw [e3] at w; cases w), fun j w => by rw [e3] at w; cases w; exact ⟨rfl, rfl⟩⟩
    · have z : ¬ bt W i = true := fun q => z ((bt_test1 (show i < 32 by omega)).mpr q)
      have e3 := bst_no (lt := fun k j => decide (m j < m k)) (p := fun v => bt W v) z
      exact ok_m (hb _ _ ⟨ch, g, by rw [nI_1], rfl, g1, g2, fun w => hn (e3 ▸ w), fun j w => hg j (e3 ▸ w)⟩)
  · rintro s M1 back ⟨ch, g, rfl, rfl, g1, g2, hn, hg⟩
    unfold bX0_strongest_10
    dsimp only
    rw [h5]
    refine ok_t (nI_le (Nat.le_refl _) (by omega)) (ok_some ?_)
    rw [(hg j hj).1]
theorem nI_sub {a c : Nat} (h : c ≤ a) : nI a - nI c = nI (a - c) := by
  have : nI (a - c) + nI c = nI a := by rw [nI_add]; congr 1; omega
  rw [← this]
  exact Int32.add_sub_cancel _ _
theorem nI_min {a c : Nat} (ha : a < 2 ^ 31) (hc : c < 2 ^ 31) : (if nI a < nI c then nI a else nI c) = nI (min c a) := by
  by_cases e : a < c
  · rw [if_pos (nI_lt e hc), Nat.min_eq_right (by omega)]
  · rw [if_neg (nI_nlt (by omega) ha), Nat.min_eq_left (by omega)]
/-- what a Bounded holds while it draws -/
def bnd (b : Nat → Int32) (u : Nat) (l : List Nat) (M : sg_M) : Prop := (∀ g, g < 4 → M.1 89 g = nI ((drs b l).1 g)) ∧ (∀ v, v < 9 → M.1 88 v = nI ((drs b l).2 v)) ∧ M.2 87 0 = lI (fs (gM b) (msT b u l)) ∧ M.2 87 1 = lI (bD b)
theorem drawAll_ok {u v : Nat} {l : List Nat} {M : sg_M} (h : vb b) (hc : cNet 13 b M) (hl : ∀ v, v ∈ l → v < 9) (hB : bnd b u l M) (hu : u < gM b) (hv : v < gM b) (hn : v ∉ l) (hx : M.2 91 v = lI (bV2 b u v)) : ok (fX0_drawAll N 87 13 (nI v) M) (fun M1 => bnd b u (l ++ [v]) M1 ∧ (∀ a k, a ≠ 88 → a ≠ 89 → M1.1 a k = M.1 a k) ∧ ∀ a k, a ≠ 87 → M1.2 a k = M.2 a k) := by
  have hm := vb_m h
  obtain ⟨b1, b2⟩ := drs_b h l hl
  obtain ⟨B1, B2, B3, B4⟩ := hB
  have g4 := vb_g4 h (show v < 9 by omega)
  have l99 := vb_l99 h (show v < 9 by omega)
  have l0 := b1 0 (by omega)
  have lg := b1 (gG b v) g4
  have am : amt b (drs b l).1 v ≤ gL b v ∧ amt b (drs b l).1 v ≤ (drs b l).1 0 ∧ amt b (drs b l).1 v ≤ (drs b l).1 (gG b v) := ⟨Nat.min_le_left _ _, Nat.le_trans (Nat.min_le_right _ _) (Nat.min_le_left _ _), Nat.le_trans (Nat.min_le_right _ _) (Nat.min_le_right _ _)⟩
  have fin : ∀ M0 : sg_M, M0.1 89 0 = nI ((drs b l).1 0) → (∀ g, g < 4 → g ≠ 0 → M0.1 89 g = nI ((drs b (l ++ [v])).1 g)) → (∀ a k, a ≠ 89 → M0.1 a k = M.1 a k) → M0.2 = M.2 → ok (gX0_drawAll_52 N 87 (nI v) (nI (amt b (drs b l).1 v)) M0) (fun M1 => bnd b u (l ++ [v]) M1 ∧ (∀ a k, a ≠ 88 → a ≠ 89 → M1.1 a k = M.1 a k) ∧ ∀ a k, a ≠ 87 → M1.2 a k = M.2 a k) := fun M0 z0 zg zo zl => by
    unfold gX0_drawAll_52
    rw [y87_2, y87_3, y87_4, y90_2, yn_88, yn_89, yn_91, c_0, nI_clamp (show v < 2 ^ 31 by omega), z0, nI_sub am.2.1, lI_nI (by omega)]
    refine ok_t (by decide) (ok_t (by decide) (ok_m (ok_t (ib_nI (by omega) (by omega)) (ok_m (ok_t (ib_nI (by omega) (by omega)) (ok_m (ok_some ?_)))))))
    refine ⟨⟨fun g hg => ?_, fun x hx9 => ?_, ?_, ?_⟩, fun a k h1 h2 => ?_, fun a k h1 => ?_⟩
    · rw [uJ_i, uI_na (by omega)]
      by_cases e : g = 0
      · subst e
        rw [uI_eq, drs_app, dst_1, if_pos (Or.inl rfl)]
      · rw [uI_nb e]; exact zg g hg e
    · rw [uJ_i, drs_app, dst_2]
      by_cases e : x = v
      · subst e; rw [uI_eq, if_pos rfl]
      · rw [uI_nb e, uI_na (by omega), zo _ _ (by omega), if_neg e, B2 x hx9]
    · rw [uJ_eq]
      show M0.2 87 0 + _ * M0.2 91 v = _
      rw [zl, B3, hx, lI_mul, lI_add, mst_add h hl hv hn, Int.mul_comm]
    · rw [uJ_nb (by omega)]
      show M0.2 87 1 = _
      rw [zl, B4]
    · rw [uJ_i, uI_na h1, uI_na h2, zo a k h2]
    · rw [uJ_na h1]
      show M0.2 a k = _
      rw [zl]
  unfold fX0_drawAll
  rw [y13_13, y13_12, yn_18, yn_17, y87_3, yn_89, c_0, nI_clamp (show v < 2 ^ 31 by omega), hc.2.2.2.2.1 v (by omega), vb_g h (by omega), hc.2.2.2.1 v (by omega), vb_l h (by omega), B1 0 (by omega)]
  refine ok_t (ib_nI (by omega) (by omega)) (ok_m (ok_t (ib_nI (by omega) (by omega)) (ok_t (by decide) (ok_m ?_))))
  rw [nI_min (by omega) (by omega)]
  have ml : min (gL b v) ((drs b l).1 0) ≤ 99 := Nat.le_trans (Nat.min_le_left _ _) l99
  refine ok_if (fun z => ?_) (fun z => ?_)
  · have z := (nI_le0 (by omega)).mp z
    have e : min (gL b v) ((drs b l).1 0) = amt b (drs b l).1 v := by unfold amt; rw [z, Nat.min_self]
    rw [e]
    refine fin M (B1 0 (by omega)) (fun g hg hne => ?_) (fun _ _ _ => rfl) rfl
    rw [B1 g hg, drs_app, dst_1, if_neg (fun q => by omega)]
  · have z : gG b v ≠ 0 := fun q => z ((nI_le0 (by omega)).mpr q)
    rw [nI_clamp (show gG b v < 2 ^ 31 by omega), B1 _ g4, nI_min (by omega) (by omega)]
    have e : min (min (gL b v) ((drs b l).1 0)) ((drs b l).1 (gG b v)) = amt b (drs b l).1 v := by unfold amt; rw [Nat.min_assoc]
    rw [e]
    refine ok_t (ib_nI (by omega) (by omega)) (ok_m ?_)
    rw [nI_sub am.2.2]
    refine (ok_t (ib_nI (by omega) (by omega)) (ok_t (ib_nI (by omega) (by omega)) (ok_m (fin _ (by rw [uI_nb (by omega), B1 0 (by omega)]) (fun g hg hne => ?_) (fun a k ha => uI_na ha) rfl))))
    rw [drs_app, dst_1]
    by_cases e2 : g = gG b v
    · subst e2
      rw [uI_eq, if_pos (Or.inr rfl)]
    · rw [uI_nb e2, if_neg (fun q => by omega), B1 g hg]
end DR
