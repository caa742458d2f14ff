/-! lines: strap, pad, load, budget -/
section LI
variable {N sz : Nat} {yb : Nat → Nat}
/-- the draft, both -/
def drf (f : Nat → Int32) (Mc Mr : sg_M) : Prop := vb f ∧ cNet 2 f Mc ∧ Mc.1 2 8 = 0 ∧ rTab (stp (gC f) (gR f)) Mr ∧ Mc.1 1 12 = Mr.1 0 19 ∧ (∀ v, v < 9 → bt (Mr.1 0 20) v = decide (0 < gL f v)) ∧ ∀ v, v < 9 → gL f v = 0 → f (15 + v) = 0
def c4F (M M1 : sg_M) : Prop := (∀ a k, (a = 0 ∨ 12 ≤ a ∨ (a = 1 ∧ (k = 0 ∨ k = 3 ∨ k = 4))) → M1.1 a k = M.1 a k) ∧ M1.2 = M.2
theorem c4F_tr {M M1 M2 : sg_M} (h : c4F M M1) (h2 : c4F M1 M2) : c4F M M2 := ⟨fun a k q => (h2.1 a k q).trans (h.1 a k q), h2.2.trans h.2⟩
theorem c4F_3 {M M1 : sg_M} (h : c3F M M1) : c4F M M1 := ⟨fun a k q => h.1 a k (by omega), h.2⟩
theorem c4F_2 {M M1 : sg_M} (h : c2F M M1) : c4F M M1 := c4F_3 (c3F_2 h)
theorem c4F_1 {M M1 : sg_M} (h : c1F M M1) : c4F M M1 := c4F_3 (c3F_1 h)
theorem c4F_u {M : sg_M} {j k : Nat} {x : Int32} (hk : (2 ≤ j ∧ j < 12) ∨ (j = 1 ∧ k = 12)) : c4F M (sg_uI M j k x) := ⟨fun a i h => by rw [uI_at, if_neg (by omega)], rfl⟩
def r4F (M M1 : sg_M) : Prop := (∀ a k, (a = 1 ∨ a = 3 ∨ a = 4 ∨ a = 5 ∨ a = 7 ∨ (a = 0 ∧ (k = 4 ∨ k = 10 ∨ k = 12))) → M1.1 a k = M.1 a k) ∧ M1.2 = M.2
theorem r4F_tr {M M1 M2 : sg_M} (h : r4F M M1) (h2 : r4F M1 M2) : r4F M M2 := ⟨fun a k q => (h2.1 a k q).trans (h.1 a k q), h2.2.trans h.2⟩
theorem r4F_2 {M M1 : sg_M} (h : r2F M M1) : r4F M M1 := ⟨fun a k q => h.1 a k (by omega), h.2⟩
theorem r4F_1 {M M1 : sg_M} (h : r1F M M1) : r4F M M1 := r4F_2 (r2F_1 h)
theorem r4F_u {M : sg_M} {j k : Nat} {x : Int32} (hk : j = 2 ∨ (j = 0 ∧ 13 ≤ k)) : r4F M (sg_uI M j k x) := ⟨fun a i h => by rw [uI_at, if_neg (by omega)], rfl⟩
theorem drf_c {f : Nat → Int32} {Mc Mr Mc1 Mr1 : sg_M} (h : drf f Mc Mr) (c : ∀ a k, ((2 ≤ a ∧ a < 9) ∨ (a = 1 ∧ k = 12)) → Mc1.1 a k = Mc.1 a k) (r : ∀ a k, (a = 6 ∨ (a = 0 ∧ (k = 8 ∨ 19 ≤ k))) → Mr1.1 a k = Mr.1 a k) : drf f Mc1 Mr1 := by
  obtain ⟨h1, h2, h3, h4, h5, h6, h7⟩ := h
  exact ⟨h1, cNet_s h2 (fun a k g1 g2 => c a k (by omega)), by rw [c 2 8 (by omega), h3], ⟨by rw [r 0 8 (by omega)]; exact h4.1, fun s hs => by rw [r 6 _ (by omega), r 6 _ (by omega)]; exact h4.2 s hs⟩, by rw [c 1 12 (by omega), r 0 19 (by omega), h5], fun v hv => by rw [r 0 20 (by omega), h6 v hv], h7⟩
/-- how a line comes out: class, reference, the block that stands then (before the line is counted) -/
def lo3 (sz : Nat) (yb : Nat → Nat) (p : Nat) (Mc Mr : sg_M) (rc : Option (Int32 × sg_M)) (rr : Option sg_M) : Prop := (∃ p2 g Mc1 Mr1, rc = some (1, Mc1) ∧ rr = some Mr1 ∧ sim sz yb p2 Mc1 Mr1 ∧ p < p2 ∧ drf g Mc1 Mr1 ∧ g 4 = Mr.1 2 4 ∧ Mr1.1 2 = ub g 4 (g 4 + 1) ∧ c4F Mc Mc1 ∧ r4F Mr Mr1 ∧ Mc1.1 1 1 = Mc.1 1 1 ∧ Mc1.1 1 2 = Mc.1 1 2 ∧ Mr1.1 0 18 = Mr.1 0 18) ∨ (∃ Mc1 Mr1, rc = some (0, Mc1) ∧ rr = some Mr1 ∧ fl2 Mc1 Mr1 ∧ c4F Mc Mc1 ∧ r4F Mr Mr1)
/-- the sign at the end, the class having it in hand -/
theorem rt_bad {M : sg_M} (hg : ¬ M.1 0 17 = 0) : ∃ M1, gX11_readText_20 N 0 M = some M1 ∧ M1.1 0 17 = M.1 0 17 ∧ M1.1 0 18 = M.1 0 18 ∧ r4F M M1 := by
  unfold gX11_readText_20 gX11_readText_40
  rw [r_bd hg, e_b, if_pos q0, r_bd hg, e_b, if_pos q0, yr_2, yl_2, if_pos (by decide), if_pos (by decide), e_m]
  exact ⟨_, rfl, uI_na (by omega), uI_na (by omega), r4F_u (by omega)⟩
theorem s_sign2 {p : Nat} {Mc Mr : sg_M} (h : sim2 sz yb p Mc Mr) (hN : 1000 ≤ N) : (∃ Mr1, kn sz yb p = 3 ∧ gX11_readText_20 N 0 Mr = some Mr1 ∧ sim sz yb (be sz yb p) Mc Mr1 ∧ p < be sz yb p ∧ Mr1.1 2 = ub (Mr.1 2) 4 (Mr.1 2 4 + 1) ∧ r4F Mr Mr1 ∧ (∀ a k, (a = 6 ∨ (a = 0 ∧ (k = 8 ∨ 19 ≤ k))) → Mr1.1 a k = Mr.1 a k) ∧ Mr1.1 0 18 = Mr.1 0 18) ∨ (∃ Mc1 Mr1, ¬ kn sz yb p = 3 ∧ fX6_fail N 1 1 Mc = some (0, Mc1) ∧ gX11_readText_20 N 0 Mr = some Mr1 ∧ fl2 Mc1 Mr1 ∧ c2F Mc Mc1 ∧ r4F Mr Mr1) := by
  obtain ⟨g1, g2, g3, g4, g5, g6⟩ := id h
  have kb := kn_b (sz := sz) (yb := yb) (p := p)
  by_cases k3 : kn sz yb p = 3
  · left
    obtain ⟨Mr2, x1, x2, x3⟩ := s_adv (N := N) h hN
    have bb := be_b (yb := yb) g3
    have fb := fi_b (yb := yb) g3
    have lt : fi sz yb p < sz := by
      apply Classical.byContradiction
      intro n
      unfold kn at k3
      rw [if_neg n] at k3
      cases k3
    unfold gX11_readText_20 gX11_readText_40
    rw [r_gd g6, e_b, if_neg q1, g5.2.2.1, if_pos (show nI (min (kn sz yb p) 4) = 3 by rw [k3]; rfl), r_gd g6, e_b, if_neg q1, x1, e_bv, yr_2, yl_2, if_pos (by decide), if_pos (by decide), c_4, e_m]
    have w2 : Mr2.1 2 = Mr.1 2 := funext fun k => x3.1 2 k (by omega)
    refine ⟨_, k3, rfl, sim_1 x2 (fun _ _ _ => rfl) (fun a k ha => by rw [uI_na (by omega)]), by have := bb.2.2 lt; omega, ?_, r4F_tr (r4F_1 x3) (r4F_u (by omega)), fun a k ha => ?_, ?_⟩
    · funext k
      rw [uI_at, w2]
      unfold ub
      by_cases e : k = 4
      · rw [if_pos ⟨rfl, e⟩, if_pos e]
      · rw [if_neg (fun z => e z.2), if_neg e]
    · rw [uI_na (by omega), x3.1 a k (by omega)]
    · rw [uI_na (by omega), x3.1 0 18 (by omega)]
  · right
    obtain ⟨Mc2, Mr2, x1, x2, x3, x4, x5⟩ := s_fail (N := N) (k := 1) h q1
    unfold gX11_readText_20 gX11_readText_40
    rw [r_gd g6, e_b, if_neg q1, g5.2.2.1, if_neg (show ¬ nI (min (kn sz yb p) 4) = 3 from fun z => k3 (by have := (nI_eq (by omega) (show 3 < 2 ^ 31 by omega)).mp z; omega)), x2, e_bv, r_bd x3.2.2, e_b, if_pos q0, yr_2, yl_2, if_pos (by decide), if_pos (by decide), c_4, e_m]
    exact ⟨Mc2, _, k3, x1, rfl, ⟨by rw [uI_na (by omega)]; exact x3.1, by rw [uI_na (by omega)]; exact x3.2.1, by rw [uI_na (by omega)]; exact x3.2.2⟩, x4, r4F_tr (r4F_2 x5) (r4F_u (by omega))⟩
/-- the sign at the end: done -/
theorem s_end {p : Nat} {f g : Nat → Int32} {Mc0 Mr0 Mc Mr : sg_M} {p0 : Nat} (h : sim sz yb p Mc Mr) (hp : p0 ≤ p) (hd : drf g Mc Mr) (hg : g 4 = Mr0.1 2 4) (w2 : Mr.1 2 = g) (cF : c4F Mc0 Mc) (rF : r4F Mr0 Mr) (e1 : Mc.1 1 1 = Mc0.1 1 1 ∧ Mc.1 1 2 = Mc0.1 1 2 ∧ Mr.1 0 18 = Mr0.1 0 18) (hN : 1000 ≤ N) : lo3 sz yb p0 Mc0 Mr0 (sg_b (fX6_needSign N 1 Mc) (fun (x7 : Int32) (M6 : sg_M) => if sg_bz x7 = true then some (x7, M6) else none)) (gX11_readText_20 N 0 Mr) := by
  obtain ⟨M1, x1, x2, x3⟩ := s_step (N := N) h hN
  obtain ⟨g1, g2, g3, g4, g5, g6⟩ := id x2
  have kb := kn_b (sz := sz) (yb := yb) (p := p)
  unfold fX6_needSign
  rw [x1, e_bv, g4.2.2.1]
  rcases s_sign2 (N := N) x2 hN with ⟨Mr2, k3, y1, y2, y3, y4, y5, y6, y7⟩ | ⟨Mc2, Mr2, k3, y1, y2, y3, y4, y5⟩
  · rw [if_pos (show nI (kn sz yb p) = 3 by rw [k3]; rfl), y1]
    unfold gX6_needSign_20
    rw [e_b, if_pos (by decide)]
    refine Or.inl ⟨be sz yb p, g, M1, Mr2, rfl, rfl, y2, (by omega), drf_c hd (fun a k ha => x3.1 a k (by omega)) y6, hg, by rw [y4, w2], c4F_tr cF (c4F_1 x3), r4F_tr rF y5, ?_, ?_, ?_⟩
    · rw [x3.1 1 1 (by omega), e1.1]
    · rw [x3.1 1 2 (by omega), e1.2.1]
    · rw [y7, e1.2.2]
  · rw [if_neg (show ¬ nI (kn sz yb p) = 3 from fun z => k3 ((nI_eq (by omega) (show 3 < 2 ^ 31 by omega)).mp z)), y1, y2, e_b, if_pos q0, e_b, if_pos (by decide)]
    exact Or.inr ⟨Mc2, Mr2, rfl, rfl, y3, c4F_tr cF (c4F_tr (c4F_1 x3) (c4F_2 y4)), r4F_tr rF y5⟩
end LI
