/-! feeder -/
def cB (p : Nat → Bool) : Nat → Nat
  | 0 => 0
  | k + 1 => cB p k + (if p k = true then 1 else 0)
theorem cB_le {p q : Nat → Bool} (h : ∀ i, p i = true → q i = true) : ∀ n, cB p n ≤ cB q n := by
  intro n
  induction n with
  | zero => exact Nat.le_refl _
  | succ n ih =>
    show cB p n + _ ≤ cB q n + _
    by_cases z : p n = true
    · rw [if_pos z, if_pos (h n z)]; omega
    · rw [if_neg z]; omega
theorem cB_lt {p q : Nat → Bool} (h : ∀ i, p i = true → q i = true) {k : Nat} (hp : ¬ p k = true) (hq : q k = true) : ∀ n, k < n → cB p n < cB q n := by
  intro n
  induction n with
  | zero => intro h; omega
  | succ n ih =>
    intro hk
    show cB p n + _ < cB q n + _
    by_cases e : k = n
    · subst e
      have := cB_le h k
      rw [if_neg hp, if_pos hq]
      omega
    · have := ih (by omega)
      by_cases z : p n = true
      · rw [if_pos z, if_pos (h n z)]; omega
      · rw [if_neg z]; omega
theorem cB_n {p : Nat → Bool} : ∀ n, cB p n ≤ n := by
  intro n
  induction n with
  | zero => exact Nat.le_refl _
  | succ n ih =>
    show cB p n + _ ≤ _
    split <;> omega
theorem nn_ex {x : Int32} (h : 0 ≤ x) : ∃ n, n < 2 ^ 31 ∧ x = nI n := by
  refine ib_ex (decide_eq_true ?_)
  have h0 : Int32.toInt 0 = 0 := by decide
  have := Int32.le_iff_toInt_le.mp h
  have := i32_b x
  omega
section FE
variable {N : Nat} {b : Nat → Int32}
/-- what comes to v by s, and from where -/
def fdv (b : Nat → Int32) (v s : Nat) : Int := if bB b s = v then thr b s else if bA b s = v then - thr b s else 0
def fdo (b : Nat → Int32) (v s : Nat) : Nat := if bB b s = v then bA b s else bB b s
def fd (b : Nat → Int32) (v : Nat) : Nat → Option Nat × Int
  | 0 => (none, 0)
  | k + 1 => if (fd b v k).2 < fdv b v k then (some (fdo b v k), fdv b v k) else fd b v k
theorem fd_s (v k : Nat) : fd b v (k + 1) = if (fd b v k).2 < fdv b v k then (some (fdo b v k), fdv b v k) else fd b v k := rfl
def fdr (b : Nat → Int32) (v : Nat) : Option Nat := if bt (b 5) v = true then none else (fd b v (gS b)).1
theorem fdv_b (h : vb b) {v s : Nat} (hs : s < gS b) : -75676778496 ≤ fdv b v s ∧ fdv b v s ≤ 75676778496 := by
  have := thr_b h hs
  unfold fdv
  split
  · omega
  · split <;> omega
theorem fd_b (h : vb b) {v : Nat} : ∀ k, k ≤ gS b → (0 ≤ (fd b v k).2 ∧ (fd b v k).2 ≤ 75676778496) ∧ ∀ u, (fd b v k).1 = some u → u < gM b ∧ bX b u < bX b v := by
  intro k
  induction k with
  | zero => intro _; exact ⟨⟨Int.le_refl 0, show (0 : Int) ≤ 75676778496 by omega⟩, fun u e => by cases e⟩
  | succ k ih =>
    intro hk
    have hb := fdv_b h (v := v) (show k < gS b by omega)
    obtain ⟨a1, a2⟩ := bAB h (show k < gS b by omega)
    have hi := ih (by omega)
    rw [fd_s]
    by_cases z : (fd b v k).2 < fdv b v k
    · rw [if_pos z]
      refine ⟨⟨by show 0 ≤ fdv b v k; omega, hb.2⟩, fun u e => ?_⟩
      have e : some (fdo b v k) = some u := e
      cases e
      have pos : 0 < fdv b v k := by omega
      unfold fdv at pos
      unfold fdo
      by_cases y : bB b k = v
      · rw [if_pos y] at pos
        rw [if_pos y]
        refine ⟨(by omega), ?_⟩
        unfold thr at pos
        apply Classical.byContradiction
        intro n
        have : (gW b k : Int) * (bX b (bB b k) - bX b (bA b k)) ≤ 0 := Int.mul_nonpos_of_nonneg_of_nonpos (by omega) (by rw [y]; omega)
        omega
      · rw [if_neg y] at pos
        rw [if_neg y]
        by_cases x : bA b k = v
        · rw [if_pos x] at pos
          refine ⟨(by omega), ?_⟩
          unfold thr at pos
          apply Classical.byContradiction
          intro n
          have : 0 ≤ (gW b k : Int) * (bX b (bB b k) - bX b (bA b k)) := Int.mul_nonneg (by omega) (by rw [x]; omega)
          omega
        · rw [if_neg x] at pos
          omega
    · rw [if_neg z]
      exact hi
theorem fdr_b (h : vb b) {v u : Nat} (e : fdr b v = some u) : u < gM b ∧ bX b u < bX b v := by
  unfold fdr at e
  by_cases z : bt (b 5) v = true
  · rw [if_pos z] at e; cases e
  · rw [if_neg z] at e
    exact (fd_b h (gS b) (Nat.le_refl _)).2 u e
theorem lt_of {x y : Int} (hx : -4611686018427387904 < x ∧ x < 4611686018427387904) (hy : -4611686018427387904 < y ∧ y < 4611686018427387904) : (lg_cmp (lI x) (lI y) ≤ 0 ↔ ¬ y < x) ∧ (0 < lg_cmp (lI x) (lI y) ↔ y < x) := by
  rw [lg_le, lg_gt, lI_lt (by omega) (by omega) (by omega) (by omega)]
  exact ⟨Iff.rfl, Iff.rfl⟩
set_option maxHeartbeats 1000000 in
theorem fedFrom_ok {v : Nat} {M : sg_M} (hc : cI b M) (hv : v < gM b) (hN : 1000 ≤ N) : okA (fX10_fedFrom N 0 (nI v) M) (oI (fdr b v)) (fun M1 => cI b M1 ∧ low M M1) := by
  apply okA_of
  have h := hc.1
  have hm := vb_m h
  have hn := vb_n h
  unfold fX10_fedFrom fdr
  rw [y0_1, c_pad (cf7 hc) (show v < 32 by omega), e_b]
  by_cases z : bt (b 5) v = true
  · rw [if_pos z, if_pos z]
    exact ok_f q1 (ok_some ⟨rfl, hc, low_refl⟩)
  rw [if_neg z, if_neg z]
  refine ok_t q0 ?_
  obtain ⟨M2, e2, c2, s2, f2⟩ := now_ok (N := N) hc hN
  rw [e2, e_b]
  refine ok_m (ok_m (ok_m ?_))
  have nG := cNet_G (cI_N c2)
  unfold gX10_fedFrom_26
  refine ok_for 0 (gS b) (fun i s M => s = (0, nI v, 55, oI (fd b v i).1, lI (fd b v i).2, nI i) ∧ M2 = M) (by omega) (by omega) ⟨rfl, rfl⟩ ?_ ?_
  · rintro i s M back hi ⟨rfl, rfl⟩ hb
    obtain ⟨a1, a2⟩ := bAB h hi
    have hw4 := vb_w4 h (show i < 12 by omega)
    have ht := thr_b h hi
    have hf := fdv_b h (v := v) hi
    have hg := (fd_b h (v := v) i (by omega)).1
    unfold bX10_fedFrom_26
    dsimp only
    rw [y0_1, y13_10, yn_15, cf6 c2, nI_clamp (show i < 2 ^ 31 by omega), nG.2.2.2 i hi]
    have last : ∀ t : Int32, (t = 0 → bA b i = v ∧ ¬ bB b i = v) → (¬ t = 0 → bB b i = v) → ok (gX10_fedFrom_78 N back 0 (nI v) 55 (oI (fd b v i).1) (lI (fd b v i).2) (nI i) t M2) (fun res => res.1 = oI (fd b v (gS b)).1 ∧ cI b res.2 ∧ low M res.2) := fun t t0 t1 => by
      unfold gX10_fedFrom_78
      rw [y0_1, y13_11, yn_16, c_rise K55 (c_fl c2 s2) hi, e_b, nI_clamp (show i < 2 ^ 31 by omega), (cI_N c2).2.2.1 i (by omega), vb_w h (by omega), lI_nI (by omega), lI_mul]
      show ok (if _ then sg_m (lI (thr b i)) _ else none) _
      have fin : ∀ y : Int64, y = lI (fdv b v i) → ok (gX10_fedFrom_115 N back 0 (nI v) 55 (oI (fd b v i).1) (lI (fd b v i).2) (nI i) t y M2) (fun res => res.1 = oI (fd b v (gS b)).1 ∧ cI b res.2 ∧ low M res.2) := fun y hy => by
        subst hy
        unfold gX10_fedFrom_115
        rw [y0_1, y13_9, y13_10, yn_14, yn_15, nI_clamp (show i < 2 ^ 31 by omega), nG.2.2.1 i hi, nG.2.2.2 i hi, nI_1]
        refine ok_m (ok_if (fun q => ?_) (fun q => ?_))
        · have q := (lt_of (by omega) (by omega)).1.mp q
          exact ok_m (hb _ _ ⟨by rw [fd_s, if_neg q], rfl⟩)
        · have q : (fd b v i).2 < fdv b v i := by
            apply Classical.byContradiction
            intro w
            exact q ((lt_of (by omega) (by omega)).1.mpr w)
          refine ok_m (ok_if (fun w => ?_) (fun w => ?_))
          · have w := t0 w
            refine ok_t (ib_nI (by omega) (by omega)) (ok_m (ok_m (hb _ _ ⟨?_, rfl⟩)))
            rw [fd_s, if_pos q]
            unfold fdo
            rw [if_neg w.2]
            rfl
          · have w := t1 w
            refine ok_t (ib_nI (by omega) (by omega)) (ok_m (ok_m (hb _ _ ⟨?_, rfl⟩)))
            rw [fd_s, if_pos q]
            unfold fdo
            rw [if_pos w]
            rfl
      refine ok_t (ib_nI (by omega) (by omega)) (ok_m (ok_if (fun w => ?_) (fun w => ?_)))
      · have w2 := t0 w
        refine fin _ ?_
        unfold fdv
        rw [if_neg w2.2, if_pos w2.1, lI_neg]
      · refine fin _ ?_
        unfold fdv
        rw [if_pos (t1 w)]
    refine ok_f (nI_ge hi (by omega)) (ok_t (ib_nI (by omega) (by omega)) (ok_if (fun w => ?_) (fun w => ?_)))
    · have w : bB b i = v := (nI_eq (show bB b i < 2 ^ 31 by omega) (show v < 2 ^ 31 by omega)).mp w
      unfold gX10_fedFrom_57
      exact ok_m (ok_f q1 (last 1 (fun y => absurd y q1) (fun _ => w)))
    · have w : ¬ bB b i = v := fun y => w (by rw [← y])
      unfold gX10_fedFrom_57
      rw [y0_1, y13_9, yn_14, nI_clamp (show i < 2 ^ 31 by omega), nG.2.2.1 i hi, nI_1]
      refine ok_m (ok_t q0 (ok_t (ib_nI (by omega) (by omega)) (ok_if (fun y => ?_) (fun y => ?_))))
      · have y : bA b i = v := (nI_eq (show bA b i < 2 ^ 31 by omega) (show v < 2 ^ 31 by omega)).mp y
        exact last 0 (fun _ => ⟨y, w⟩) (fun y => absurd q0 y)
      · have y : ¬ bA b i = v := fun x => y (by rw [← x])
        refine ok_m (hb _ _ ⟨?_, rfl⟩)
        rw [fd_s]
        unfold fdv
        rw [if_neg w, if_neg y, if_neg (by omega)]
  · rintro s M back ⟨rfl, rfl⟩
    unfold bX10_fedFrom_26
    dsimp only
    rw [y0_1, cf6 c2]
    exact ok_t (nI_le (Nat.le_refl _) (by omega)) (ok_some ⟨rfl, c2, nowF_low f2⟩)
theorem comesBy_ok {v s : Nat} {M : sg_M} (h : vb b) (hM : rS b M) (hs : s < gS b) (hv : v < 9) (hN : 20 ≤ N) : fX11_comesBy N 0 (nI s) (nI v) M = some (lI (fdv b v s), M) := by
  have hn := vb_n h
  have hm := vb_m h
  obtain ⟨a1, a2⟩ := bAB h hs
  unfold fX11_comesBy fdv
  rw [yr_7, yl_6, k_2, nI_1, nI_clamp (show 2 * s < 2 ^ 31 by omega), nI_clamp (show 2 * s + 1 < 2 ^ 31 by omega), r_A hM hs, r_B hM hs, r_thr h hM hs hN, e_b, if_pos (ib_nI (by omega) (by omega))]
  by_cases y : bB b s = v
  · rw [if_pos y, if_pos (by rw [y])]
  · rw [if_neg y, if_neg (fun q => y ((nI_eq (by omega) (by omega)).mp q)), if_pos (ib_nI (by omega) (by omega)), e_b]
    by_cases x : bA b s = v
    · rw [if_pos x, if_pos (by rw [x]), lI_neg]
    · rw [if_neg x, if_neg (fun q => x ((nI_eq (by omega) (by omega)).mp q))]
      rfl
theorem feederOf_ok {v : Nat} {M : sg_M} (h : vb b) (hM : rS b M) (hv : v < gM b) (hN : 1000 ≤ N) : fX11_feederOf N 0 (nI v) M = some (oI (fdr b v), M) := by
  have hn := vb_n h
  have hm := vb_m h
  apply ok_eq
  unfold fX11_feederOf fdr
  rw [yr_1, yl_1, c_5, hM.2, r_isOf (show v < 32 by omega), e_b]
  refine ok_t (by decide) ?_
  by_cases z : bt (b 5) v = true
  · rw [if_pos z, if_pos z]
    exact ok_f q1 (ok_some rfl)
  rw [if_neg z, if_neg z]
  refine ok_t q0 (ok_m (ok_m (ok_m ?_)))
  unfold gX11_feederOf_23
  refine ok_for 0 (gS b) (fun i s M1 => s = (0, nI v, lI (fd b v i).2, oI (fd b v i).1, nI i) ∧ M = M1) (by omega) (by omega) ⟨rfl, rfl⟩ ?_ ?_
  · rintro i s M1 back hi ⟨rfl, rfl⟩ hb
    obtain ⟨a1, a2⟩ := bAB h hi
    have hf := fdv_b h (v := v) hi
    have hg := (fd_b h (v := v) i (by omega)).1
    unfold bX11_feederOf_23
    dsimp only
    rw [r_8 hM, comesBy_ok h hM hi (by omega) (by omega), e_b, comesBy_ok h hM hi (by omega) (by omega), e_b, yr_7, yl_6, k_2, nI_1, nI_1, nI_clamp (show 2 * i < 2 ^ 31 by omega), nI_clamp (show 2 * i + 1 < 2 ^ 31 by omega), r_A hM hi, r_B hM hi]
    refine ok_f (nI_ge hi (by omega)) (ok_if (fun q => ?_) (fun q => ?_))
    · have q := (lt_of (by omega) (by omega)).2.mp q
      refine ok_m (ok_t (ib_nI (by omega) (by omega)) (ok_t (ib_nI (by omega) (by omega)) (ok_m (ok_m (hb _ _ ⟨?_, rfl⟩)))))
      rw [fd_s, if_pos q, nI_add]
      have e : nI (bA b i + bB b i) - nI v = nI (fdo b v i) := by
        unfold fdv at q
        unfold fdo
        by_cases y : bB b i = v
        · rw [if_pos y, nI_sub (by omega)]; congr 1; omega
        · rw [if_neg y] at q
          rw [if_neg y]
          by_cases x : bA b i = v
          · rw [nI_sub (by omega)]; congr 1; omega
          · rw [if_neg x] at q
            omega
      rw [e]
      rfl
    · have q : ¬ (fd b v i).2 < fdv b v i := fun y => q ((lt_of (by omega) (by omega)).2.mpr y)
      exact ok_m (hb _ _ ⟨by rw [fd_s, if_neg q], rfl⟩)
  · rintro s M1 back ⟨rfl, rfl⟩
    unfold bX11_feederOf_23
    dsimp only
    rw [r_8 hM]
    exact ok_t (nI_le (Nat.le_refl _) (by omega)) (ok_some rfl)
/-- step by step -/
def chn (b : Nat → Int32) (v : Nat) : Nat → Option Nat
  | 0 => some v
  | k + 1 => match chn b v k with
    | none => none
    | some u => fdr b u
theorem chn_n {v k : Nat} (e : chn b v k = none) : ∀ j, k ≤ j → chn b v j = none := by
  intro j
  induction j with
  | zero => intro h; have : k = 0 := by omega
            subst this; exact e
  | succ j ih =>
    intro h
    by_cases q : k = j + 1
    · subst q; exact e
    · show (match chn b v j with | none => none | some u => fdr b u) = none
      rw [ih (by omega)]
theorem chn_k {v k u : Nat} (e : chn b v k = some u) : chn b v (k + 1) = fdr b u := by
  show (match chn b v k with | none => none | some u => fdr b u) = _
  rw [e]
def rkX (b : Nat → Int32) (u : Nat) : Nat := cB (fun x => decide (bX b x < bX b u)) (gM b)
theorem rkX_lt {u v : Nat} (hu : u < gM b) (h : bX b u < bX b v) : rkX b u < rkX b v := cB_lt (p := fun x => decide (bX b x < bX b u)) (q := fun x => decide (bX b x < bX b v)) (k := u) (fun i z => decide_eq_true (by have := of_decide_eq_true z; omega)) (by rw [decide_eq_false (by omega)]; decide) (decide_eq_true h) _ hu
theorem chn_b (h : vb b) {v : Nat} (hv : v < gM b) : ∀ k u, chn b v k = some u → u < gM b ∧ rkX b u + k ≤ gM b - 1 := by
  intro k
  induction k with
  | zero =>
    intro u e
    cases e
    refine ⟨hv, ?_⟩
    have h1 : rkX b v < cB (fun _ => true) (gM b) := cB_lt (p := fun x => decide (bX b x < bX b v)) (q := fun _ => true) (k := v) (fun i _ => rfl) (by rw [decide_eq_false (by omega)]; decide) rfl _ hv
    have := cB_n (p := fun _ => true) (gM b)
    omega
  | succ k ih =>
    intro u e
    cases q : chn b v k with
    | none => rw [chn_n q (k + 1) (by omega)] at e; cases e
    | some w =>
      rw [chn_k q] at e
      obtain ⟨h1, h2⟩ := ih w q
      obtain ⟨h3, h4⟩ := fdr_b h e
      have := rkX_lt h3 h4
      exact ⟨h3, (by omega)⟩
theorem chn_9 (h : vb b) {v k : Nat} (hv : v < gM b) (hk : gM b ≤ k) : chn b v k = none := by
  cases q : chn b v k with
  | none => rfl
  | some w => have := (chn_b h hv k w q).2; omega
theorem q_feeder {x y : Int32} (hN : 1000 ≤ N) : bth b (fX10_feeder N 0 x y) (fX11_feeder N 0 x y) := by
  intro Mc Mr hc hr
  have h := hc.1
  have hm := vb_m h
  unfold fX10_feeder fX11_feeder
  rw [c_hn hc, r_nod h hr, e_b, e_b]
  by_cases hx : sg_ib x (gM b) = true
  case neg => simp only [if_neg hx, if_pos q0]; exact ⟨-2, ⟨_, rfl, hc, low_refl⟩, ⟨_, rfl, rEq_refl⟩⟩
  simp only [if_pos hx, if_neg q1]
  by_cases hy : 0 ≤ y
  case neg =>
    rw [if_neg hy, if_neg hy]
    exact ⟨-2, ⟨_, rfl, hc, low_refl⟩, ⟨_, rfl, rEq_refl⟩⟩
  rw [if_pos hy, if_pos hy]
  obtain ⟨v, hv, rfl⟩ := ib_ex hx
  obtain ⟨n, hn, rfl⟩ := nn_ex hy
  obtain ⟨M1, e1, S1, F1⟩ := r_lay (N := N) h hr hN
  have o1 : ∀ k, (oI (chn b v k) = -1 ↔ chn b v k = none) := fun k => oI_n1 (fun j e => by have := (chn_b h hv k j e).1; omega)
  rw [e1, e_bv, y0_1, cf5 hc]
  refine ⟨oI (chn b v n), okA_of ?_, okA_of ?_⟩
  · by_cases q : n < gM b
    · rw [if_pos (nI_lt q (by omega))]
      refine ok_m (ok_m ?_)
      unfold gX10_feeder_33
      refine ok_for 0 n (fun i s M => s = (0, nI n, oI (chn b v i), nI i) ∧ cI b M ∧ low Mc M) (by omega) (by omega) ⟨rfl, hc, low_refl⟩ ?_ ?_
      · rintro i s M back hi ⟨rfl, c1, l1⟩ hb
        unfold bX10_feeder_33
        dsimp only
        refine ok_f (nI_ge hi (by omega)) (ok_if (fun z => ?_) (fun z => ?_))
        · have z := (o1 i).mp z
          rw [z, chn_n z n (by omega)]
          exact ok_some ⟨rfl, c1, l1⟩
        · cases e : chn b v i with
          | none => exact absurd ((o1 i).mpr e) z
          | some u =>
            refine ok_a (fedFrom_ok (N := N) c1 (chn_b h hv i u e).1 hN) (fun M3 h3 => ok_m (ok_m (hb _ _ ⟨by rw [chn_k e, nI_1], h3.1, low_tr l1 h3.2⟩)))
      · rintro s M back ⟨rfl, c1, l1⟩
        unfold bX10_feeder_33
        dsimp only
        exact ok_t (nI_le (Nat.le_refl _) (by omega)) (ok_some ⟨rfl, c1, l1⟩)
    · rw [if_neg (nI_nlt (by omega) (by omega)), chn_9 h hv (by omega)]
      exact ok_some ⟨rfl, hc, low_refl⟩
  · refine ok_m (ok_m ?_)
    unfold gX11_feeder_24
    refine ok_lp (fun m s M => ∃ i, i ≤ n ∧ i ≤ gM b ∧ m = gM b - i ∧ s = (0, nI n, oI (chn b v i), nI i) ∧ M1 = M) ?_ N (gM b) _ M1 ⟨0, (by omega), (by omega), rfl, rfl, rfl⟩ (by omega)
    rintro m s M back ⟨i, hi1, hi2, rfl, rfl, rfl⟩ hb
    unfold bX11_feeder_24
    dsimp only
    by_cases e : i = n
    · subst e
      exact ok_t (nI_le (Nat.le_refl _) (by omega)) (ok_some ⟨rfl, rsF_rEq F1⟩)
    refine ok_f (nI_ge (by omega) (by omega)) (ok_if (fun z => ?_) (fun z => ?_))
    · have z := (o1 i).mp z
      rw [z, chn_n z n (by omega)]
      exact ok_some ⟨rfl, rsF_rEq F1⟩
    · cases e : chn b v i with
      | none => exact absurd ((o1 i).mpr e) z
      | some u =>
        have hu := chn_b h hv i u e
        rw [show oI (some u) = nI u from rfl, feederOf_ok h S1 hu.1 hN, e_b, ← chn_k e, nI_1]
        exact ok_m (ok_m (hb (gM b - (i + 1)) _ _ (by omega) ⟨i + 1, (by omega), (by omega), rfl, rfl, rfl⟩))
end FE
