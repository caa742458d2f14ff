/-! the relation of the two -/
/-- an act taken back: d before, e after -/
def unA (k s a : Int32) (d e : Nat → Int32) : Prop := (k = 0 ∧ ∃ t, t < gS e ∧ s = nI t ∧ d = ub e (28 + t) a) ∨ (k = 1 ∧ ∃ v, v < gM e ∧ s = nI v ∧ d = ub e 5 (e 5 ^^^ bi v)) ∨ (k = 2 ∧ ∃ v, v < gM e ∧ s = nI v ∧ d = ub e (6 + v) a) ∨ (k = 3 ∧ d = fun i => if 28 ≤ i ∧ i < 28 + gS e ∧ bt s (i - 28) = true then e i + 1 else e i)
def hist (b : Nat → Int32) (n : Nat) (T K S A : Nat → Int32) : Prop := ∃ B : Nat → Nat → Int32, B n = b ∧ ∀ i, i < n → vb (B i) ∧ (∀ k, k < 40 → T (42 * i + k) = B i k) ∧ K i = T (42 * i + 40) ∧ A i = T (42 * i + 41) ∧ unA (K i) (S i) (A i) (B i) (B (i + 1))
/-- a Net, over a block, so many acts, the ways back -/
def nstG (q : Nat) (b : Nat → Int32) (n : Nat) (T : Nat → Int32) (M : sg_M) : Prop := vb b ∧ cNet q b M ∧ M.1 q 8 = nI n ∧ n ≤ 20 ∧ hist b n T (M.1 (q + 7)) (M.1 (q + 8)) (M.1 (q + 9))
def nstN (q : Nat) (b : Nat → Int32) (n : Nat) (M : sg_M) : Prop := (∀ k, k < 9 → M.1 q k = 0) ∧ (∀ k, k < 40 → b k = 0) ∧ n = 0
def nst (q : Nat) (b : Nat → Int32) (n : Nat) (T : Nat → Int32) (M : sg_M) : Prop := nstG q b n T M ∨ nstN q b n M
def byR (x : Int32) : Prop := x.toInt8.toInt32 = x
def rdr (Mc Mr : sg_M) : Prop := (∃ sz, sz ≤ 700 ∧ Mc.1 1 0 = nI sz ∧ Mr.1 0 10 = nI sz ∧ ∀ i, i < sz → Mc.1 12 i = Mr.1 7 i &&& 255 ∧ byR (Mr.1 7 i)) ∧ Mc.1 1 1 = Mr.1 0 17 ∧ Mc.1 1 2 = Mr.1 0 18
def imb (Mr : sg_M) (k : Nat) : Nat → Int32 := fun j => if j < 40 then Mr.1 4 (881 * k + j) else 0
def imgs (Mc Mr : sg_M) : Prop := ∀ k, k < 3 → Mc.1 54 k = Mr.1 5 k ∧ (Mc.1 54 k ≠ 0 → ∃ m, Mr.1 4 (881 * k + 40) = nI m ∧ nst (24 + 10 * k) (imb Mr k) m (fun j => Mr.1 4 (881 * k + 41 + j)) Mc)
def CR (Mc Mr : sg_M) : Prop := rdr Mc Mr ∧ imgs Mc Mr ∧ (∀ k, 40 ≤ k → Mr.1 1 k = 0) ∧ ∃ n, Mr.1 0 4 = nI n ∧ ((nstG 13 (Mr.1 1) n (Mr.1 3) Mc ∧ caches (Mr.1 1) Mc) ∨ (nstN 13 (Mr.1 1) n Mc ∧ (Mc.1 0 5 ≠ 0 → Mc.1 55 0 = 0)))
theorem nst_c {q n : Nat} {b T : Nat → Int32} {M M1 : sg_M} (h : nst q b n T M) (e : ∀ a k, q ≤ a → a < q + 10 → M1.1 a k = M.1 a k) : nst q b n T M1 := by
  rcases h with ⟨h1, h2, h3, h4, h5⟩ | ⟨h1, h2, h3⟩
  · refine Or.inl ⟨h1, cNet_c h2 (fun a k g1 g2 _ => e a k g1 (by omega)), by rw [e q 8 (by omega) (by omega), h3], h4, ?_⟩
    rw [show M1.1 (q + 7) = M.1 (q + 7) from funext fun k => e _ k (by omega) (by omega), show M1.1 (q + 8) = M.1 (q + 8) from funext fun k => e _ k (by omega) (by omega), show M1.1 (q + 9) = M.1 (q + 9) from funext fun k => e _ k (by omega) (by omega)]
    exact h5
  · exact Or.inr ⟨fun k hk => by rw [e q k (by omega) (by omega), h1 k hk], h2, h3⟩
theorem nstG_c {q n : Nat} {b T : Nat → Int32} {M M1 : sg_M} (h : nstG q b n T M) (e : ∀ a k, q ≤ a → a < q + 10 → M1.1 a k = M.1 a k) : nstG q b n T M1 := by
  obtain ⟨h1, h2, h3, h4, h5⟩ := h
  refine ⟨h1, cNet_c h2 (fun a k g1 g2 _ => e a k g1 (by omega)), by rw [e q 8 (by omega) (by omega), h3], h4, ?_⟩
  rw [show M1.1 (q + 7) = M.1 (q + 7) from funext fun k => e _ k (by omega) (by omega), show M1.1 (q + 8) = M.1 (q + 8) from funext fun k => e _ k (by omega) (by omega), show M1.1 (q + 9) = M.1 (q + 9) from funext fun k => e _ k (by omega) (by omega)]
  exact h5
theorem rdr_c {Mc Mr Mc1 Mr1 : sg_M} (h : rdr Mc Mr) (e1 : ∀ k, k < 3 → Mc1.1 1 k = Mc.1 1 k) (e2 : ∀ k, Mc1.1 12 k = Mc.1 12 k) (e3 : Mr1.1 0 10 = Mr.1 0 10 ∧ Mr1.1 0 17 = Mr.1 0 17 ∧ Mr1.1 0 18 = Mr.1 0 18) (e4 : Mr1.1 7 = Mr.1 7) : rdr Mc1 Mr1 := by
  obtain ⟨⟨sz, h1, h2, h3, h4⟩, h5, h6⟩ := h
  exact ⟨⟨sz, h1, by rw [e1 0 (by omega), h2], by rw [e3.1, h3], fun i hi => by rw [e2 i, e4]; exact h4 i hi⟩, by rw [e1 1 (by omega), e3.2.1, h5], by rw [e1 2 (by omega), e3.2.2, h6]⟩
theorem imgs_c {Mc Mr Mc1 Mr1 : sg_M} (h : imgs Mc Mr) (e1 : ∀ a k, 23 ≤ a → a < 55 → Mc1.1 a k = Mc.1 a k) (e3 : Mr1.1 4 = Mr.1 4) (e4 : Mr1.1 5 = Mr.1 5) : imgs Mc1 Mr1 := fun k hk => by
  obtain ⟨h1, h2⟩ := h k hk
  refine ⟨by rw [e1 54 k (by omega) (by omega), e4, h1], fun z => ?_⟩
  rw [e1 54 k (by omega) (by omega)] at z
  obtain ⟨m, g1, g2⟩ := h2 z
  refine ⟨m, by rw [e3, g1], ?_⟩
  have : imb Mr1 k = imb Mr k := by unfold imb; rw [e3]
  rw [this, e3]
  exact nst_c g2 (fun a j g1 g2 => e1 a j (by omega) (by omega))
/-- both sides of a call -/
def dua {α : Type} (fc gr : sg_M → Option (α × sg_M)) : Prop := ∀ Mc Mr, CR Mc Mr → ∃ A Mc1 Mr1, fc Mc = some (A, Mc1) ∧ gr Mr = some (A, Mr1) ∧ CR Mc1 Mr1
def nog {α : Type} (fc gr : sg_M → Option (α × sg_M)) : Prop := ∀ Mc Mr, (∀ k, k < 9 → Mc.1 13 k = 0) → (∀ k, k < 40 → Mr.1 1 k = 0) → ∃ A, fc Mc = some (A, Mc) ∧ okA (gr Mr) A (rEq Mr)
theorem dua_q {α : Type} {fc gr : sg_M → Option (α × sg_M)} (hg : ∀ b, bth b fc gr) (hn : nog fc gr) : dua fc gr := by
  rintro Mc Mr ⟨hR, hI, hz, n, h4, hD⟩
  rcases hD with ⟨hG, hC⟩ | ⟨hG, hC⟩
  · obtain ⟨A, ⟨Mc1, e1, c1, l1⟩, ⟨Mr1, e2, r1⟩⟩ := hg (Mr.1 1) Mc Mr ⟨hG.1, hG.2.1, hC⟩ rfl
    have w1 : Mr1.1 1 = Mr.1 1 := r1.1 1 (by omega)
    refine ⟨A, Mc1, Mr1, e1, e2, rdr_c hR (fun k hk => l1 1 k (by omega) (by omega)) (fun k => l1 12 k (by omega) (by omega)) ⟨r1.2 10 (by omega), r1.2 17 (by omega), r1.2 18 (by omega)⟩ (r1.1 7 (by omega)), imgs_c hI (fun a k g1 g2 => l1 a k g2 (by omega)) (r1.1 4 (by omega)) (r1.1 5 (by omega)), fun k hk => by rw [w1, hz k hk], n, by rw [r1.2 4 (by omega), h4], Or.inl ⟨?_, ?_⟩⟩
    · rw [w1, r1.1 3 (by omega)]
      exact nstG_c hG (fun a k g1 g2 => l1 a k (by omega) (by omega))
    · rw [w1]; exact c1.2.2
  · obtain ⟨A, e1, ⟨Mr1, e2, r1⟩⟩ := hn Mc Mr hG.1 hG.2.1
    have w1 : Mr1.1 1 = Mr.1 1 := r1.1 1 (by omega)
    refine ⟨A, Mc, Mr1, e1, e2, rdr_c hR (fun _ _ => rfl) (fun _ => rfl) ⟨r1.2 10 (by omega), r1.2 17 (by omega), r1.2 18 (by omega)⟩ (r1.1 7 (by omega)), imgs_c hI (fun _ _ _ _ => rfl) (r1.1 4 (by omega)) (r1.1 5 (by omega)), fun k hk => by rw [w1, hz k hk], n, by rw [r1.2 4 (by omega), h4], Or.inr ⟨?_, hC⟩⟩
    rw [w1]; exact hG
/-! no grid -/
section NG
variable {N : Nat} {Mc Mr : sg_M}
theorem ib_0 {x : Int32} : ¬ sg_ib x 0 = true := fun z => by have := of_decide_eq_true z; omega
theorem n_hn {x : Int32} (h : ∀ k, k < 9 → Mc.1 13 k = 0) : fX10_hasNode N 0 x Mc = some (0, Mc) := by rw [c_hasNode (n := 0) (h 5 (by omega)) (by omega), if_neg ib_0]
theorem n_hs {x : Int32} (h : ∀ k, k < 9 → Mc.1 13 k = 0) : fX10_hasStrap N 0 x Mc = some (0, Mc) := by rw [c_hasStrap (n := 0) (h 6 (by omega)) (by omega), if_neg ib_0]
theorem n_ng (h : ∀ k, k < 9 → Mc.1 13 k = 0) : fX10_noGrid N 0 Mc = some (1, Mc) := by rw [c_noGrid (n := 0) (h 5 (by omega)) (by omega), if_pos rfl]
theorem rn_nod {x : Int32} (h : ∀ k, k < 40 → Mr.1 1 k = 0) : fX11_isNode N 0 x Mr = some (0, Mr) := by rw [r_isNode (n := 0) (by rw [h 0 (by omega), h 1 (by omega)]; rfl) (by omega), if_neg ib_0]
theorem rn_grd (h : ∀ k, k < 40 → Mr.1 1 k = 0) : fX11_isGrid N 0 Mr = some (0, Mr) := by rw [r_isGrid, h 4 (by omega), if_pos (by decide)]
theorem rn_str (h : ∀ k, k < 40 → Mr.1 1 k = 0) : fX11_straps N 0 Mr = some (0, Mr) := by
  unfold fX11_straps
  rw [rn_grd h, e_b, if_pos q0]
theorem rn_stp {x : Int32} (h : ∀ k, k < 40 → Mr.1 1 k = 0) : fX11_isStrap N 0 x Mr = some (0, Mr) := by
  unfold fX11_isStrap
  rw [rn_str h, e_b, show (0 : Int32) - 1 = nI 0 - 1 from rfl, nI_pd (by omega), r_in (by omega), e_b, if_neg ib_0]
  rfl
theorem rn_asks (h : ∀ k, k < 40 → Mr.1 1 k = 0) : fX11_asks N 0 Mr = some (0, Mr) := by
  unfold fX11_asks gX11_asks_11
  rw [rn_grd h, e_b, if_pos q0, rn_grd h, e_b]
  rfl
theorem rn_lw (h : ∀ k, k < 40 → Mr.1 1 k = 0) : fX11_laysWidened N 0 Mr = some (0, Mr) := by
  unfold fX11_laysWidened
  rw [rn_grd h, e_b, if_pos q0]
theorem n_strap {x y : Int32} : nog (fX10_strap N 0 x y) (fX11_strap N 0 x y) := by
  intro Mc Mr hc hr
  unfold fX10_strap fX11_strap
  simp only [n_hn hc, n_hs hc, n_ng hc, rn_nod hr, rn_stp hr, rn_grd hr, rn_str hr, rn_asks hr, rn_lw hr, e_b, if_true, eq_self, q10, if_false]
  exact ⟨_, rfl, ⟨_, rfl, rEq_refl⟩⟩
theorem n_between {x y : Int32} : nog (fX10_between N 0 x y) (fX11_between N 0 x y) := by
  intro Mc Mr hc hr
  unfold fX10_between fX11_between
  simp only [n_hn hc, n_hs hc, n_ng hc, rn_nod hr, rn_stp hr, rn_grd hr, rn_str hr, rn_asks hr, rn_lw hr, e_b, if_true, eq_self, q10, if_false]
  exact ⟨_, rfl, ⟨_, rfl, rEq_refl⟩⟩
theorem n_node {x y : Int32} : nog (fX10_node N 0 x y) (fX11_node N 0 x y) := by
  intro Mc Mr hc hr
  unfold fX10_node fX11_node
  simp only [n_hn hc, n_hs hc, n_ng hc, rn_nod hr, rn_stp hr, rn_grd hr, rn_str hr, rn_asks hr, rn_lw hr, e_b, if_true, eq_self, q10, if_false]
  exact ⟨_, rfl, ⟨_, rfl, rEq_refl⟩⟩
theorem n_budget {x : Int32} : nog (fX10_budget N 0 x) (fX11_budget N 0 x) := by
  intro Mc Mr hc hr
  unfold fX10_budget fX11_budget
  simp only [n_hn hc, n_hs hc, n_ng hc, rn_nod hr, rn_stp hr, rn_grd hr, rn_str hr, rn_asks hr, rn_lw hr, e_b, if_true, eq_self, q10, if_false]
  exact ⟨_, rfl, ⟨_, rfl, rEq_refl⟩⟩
theorem n_drop {x y : Int32} : nog (fX10_drop N 0 x y) (fX11_drop N 0 x y) := by
  intro Mc Mr hc hr
  unfold fX10_drop fX11_drop
  simp only [n_hn hc, n_hs hc, n_ng hc, rn_nod hr, rn_stp hr, rn_grd hr, rn_str hr, rn_asks hr, rn_lw hr, e_b, if_true, eq_self, q10, if_false]
  exact ⟨_, rfl, ⟨_, rfl, rEq_refl⟩⟩
theorem n_through {x y : Int32} : nog (fX10_through N 0 x y) (fX11_through N 0 x y) := by
  intro Mc Mr hc hr
  unfold fX10_through fX11_through
  simp only [n_hn hc, n_hs hc, n_ng hc, rn_nod hr, rn_stp hr, rn_grd hr, rn_str hr, rn_asks hr, rn_lw hr, e_b, if_true, eq_self, q10, if_false]
  exact ⟨_, rfl, ⟨_, rfl, rEq_refl⟩⟩
theorem n_gives {x y : Int32} : nog (fX10_gives N 0 x y) (fX11_gives N 0 x y) := by
  intro Mc Mr hc hr
  unfold fX10_gives fX11_gives
  simp only [n_hn hc, n_hs hc, n_ng hc, rn_nod hr, rn_stp hr, rn_grd hr, rn_str hr, rn_asks hr, rn_lw hr, e_b, if_true, eq_self, q10, if_false]
  exact ⟨_, rfl, ⟨_, rfl, rEq_refl⟩⟩
theorem n_chief : nog (fX10_chief N 0) (fX11_chief N 0) := by
  intro Mc Mr hc hr
  unfold fX10_chief fX11_chief
  simp only [n_hn hc, n_hs hc, n_ng hc, rn_nod hr, rn_stp hr, rn_grd hr, rn_str hr, rn_asks hr, rn_lw hr, e_b, if_true, eq_self, q10, if_false]
  exact ⟨_, rfl, ⟨_, rfl, rEq_refl⟩⟩
theorem n_area : nog (fX10_area N 0) (fX11_area N 0) := by
  intro Mc Mr hc hr
  unfold fX10_area fX11_area
  simp only [n_hn hc, n_hs hc, n_ng hc, rn_nod hr, rn_stp hr, rn_grd hr, rn_str hr, rn_asks hr, rn_lw hr, e_b, if_true, eq_self, q10, if_false]
  exact ⟨_, rfl, ⟨_, rfl, rEq_refl⟩⟩
theorem n_worst : nog (fX10_worst N 0) (fX11_worst N 0) := by
  intro Mc Mr hc hr
  unfold fX10_worst fX11_worst
  simp only [n_hn hc, n_hs hc, n_ng hc, rn_nod hr, rn_stp hr, rn_grd hr, rn_str hr, rn_asks hr, rn_lw hr, e_b, if_true, eq_self, q10, if_false]
  exact ⟨_, rfl, ⟨_, rfl, rEq_refl⟩⟩
theorem n_over : nog (fX10_over N 0) (fX11_over N 0) := by
  intro Mc Mr hc hr
  unfold fX10_over fX11_over
  simp only [n_hn hc, n_hs hc, n_ng hc, rn_nod hr, rn_stp hr, rn_grd hr, rn_str hr, rn_asks hr, rn_lw hr, e_b, if_true, eq_self, q10, if_false]
  exact ⟨_, rfl, ⟨_, rfl, rEq_refl⟩⟩
theorem n_holds : nog (fX10_holds N 0) (fX11_holds N 0) := by
  intro Mc Mr hc hr
  unfold fX10_holds fX11_holds
  simp only [n_hn hc, n_hs hc, n_ng hc, rn_nod hr, rn_stp hr, rn_grd hr, rn_str hr, rn_asks hr, rn_lw hr, e_b, if_true, eq_self, q10, if_false]
  exact ⟨_, rfl, ⟨_, rfl, rEq_refl⟩⟩
theorem n_loss {y : Int32} : nog (fX10_loss N 0 y) (fX11_loss N 0 y) := by
  intro Mc Mr hc hr
  unfold fX10_loss fX11_loss
  rw [r_isPart, e_b]
  simp only [n_hn hc, n_hs hc, n_ng hc, rn_nod hr, rn_stp hr, rn_grd hr, rn_str hr, rn_asks hr, rn_lw hr, e_b, if_true, eq_self, q10, if_false]
  by_cases q : sg_ib y 2 = true
  · rw [if_pos q, if_neg q1]
    exact ⟨_, rfl, ⟨_, rfl, rEq_refl⟩⟩
  · rw [if_neg q, if_pos q0]
    exact ⟨_, rfl, ⟨_, rfl, rEq_refl⟩⟩
theorem n_moves {x y z : Int32} : nog (fX10_moves N 0 x y z) (fX11_moves N 0 x y z) := by
  intro Mc Mr hc hr
  unfold fX10_moves fX11_moves
  simp only [n_hn hc, n_hs hc, n_ng hc, rn_nod hr, rn_stp hr, rn_grd hr, rn_str hr, rn_asks hr, rn_lw hr, e_b, if_true, eq_self, q10, if_false]
  exact ⟨_, rfl, ⟨_, rfl, rEq_refl⟩⟩
theorem n_resists {x y z : Int32} : nog (fX10_resists N 0 x y z) (fX11_resists N 0 x y z) := by
  intro Mc Mr hc hr
  unfold fX10_resists fX11_resists
  simp only [n_hn hc, n_hs hc, n_ng hc, rn_nod hr, rn_stp hr, rn_grd hr, rn_str hr, rn_asks hr, rn_lw hr, e_b, if_true, eq_self, q10, if_false]
  exact ⟨_, rfl, ⟨_, rfl, rEq_refl⟩⟩
theorem n_most {x y : Int32} : nog (fX10_most N 0 x y) (fX11_most N 0 x y) := by
  intro Mc Mr hc hr
  unfold fX10_most fX11_most
  simp only [n_hn hc, n_hs hc, n_ng hc, rn_nod hr, rn_stp hr, rn_grd hr, rn_str hr, rn_asks hr, rn_lw hr, e_b, if_true, eq_self, q10, if_false]
  exact ⟨_, rfl, ⟨_, rfl, rEq_refl⟩⟩
theorem n_drawn {x y : Int32} : nog (fX10_drawn N 0 x y) (fX11_drawn N 0 x y) := by
  intro Mc Mr hc hr
  unfold fX10_drawn fX11_drawn
  simp only [n_hn hc, n_hs hc, n_ng hc, rn_nod hr, rn_stp hr, rn_grd hr, rn_str hr, rn_asks hr, rn_lw hr, e_b, if_true, eq_self, q10, if_false]
  exact ⟨_, rfl, ⟨_, rfl, rEq_refl⟩⟩
theorem n_tight {x : Int32} : nog (fX10_tight N 0 x) (fX11_tight N 0 x) := by
  intro Mc Mr hc hr
  unfold fX10_tight fX11_tight
  simp only [n_hn hc, n_hs hc, n_ng hc, rn_nod hr, rn_stp hr, rn_grd hr, rn_str hr, rn_asks hr, rn_lw hr, e_b, if_true, eq_self, q10, if_false]
  exact ⟨_, rfl, ⟨_, rfl, rEq_refl⟩⟩
theorem n_foe : nog (fX10_foe N 0) (fX11_foe N 0) := by
  intro Mc Mr hc hr
  unfold fX10_foe fX11_foe
  simp only [n_hn hc, n_hs hc, n_ng hc, rn_nod hr, rn_stp hr, rn_grd hr, rn_str hr, rn_asks hr, rn_lw hr, e_b, if_true, eq_self, q10, if_false]
  exact ⟨_, rfl, ⟨_, rfl, rEq_refl⟩⟩
theorem n_unsafe : nog (fX10_unsafe N 0) (fX11_unsafe N 0) := by
  intro Mc Mr hc hr
  unfold fX10_unsafe fX11_unsafe
  simp only [n_hn hc, n_hs hc, n_ng hc, rn_nod hr, rn_stp hr, rn_grd hr, rn_str hr, rn_asks hr, rn_lw hr, e_b, if_true, eq_self, q10, if_false]
  exact ⟨_, rfl, ⟨_, rfl, rEq_refl⟩⟩
theorem n_heat {x y : Int32} : nog (fX10_heat N 0 x y) (fX11_heat N 0 x y) := by
  intro Mc Mr hc hr
  unfold fX10_heat fX11_heat
  simp only [n_hn hc, n_hs hc, n_ng hc, rn_nod hr, rn_stp hr, rn_grd hr, rn_str hr, rn_asks hr, rn_lw hr, e_b, if_true, eq_self, q10, if_false]
  exact ⟨_, rfl, ⟨_, rfl, rEq_refl⟩⟩
theorem n_hottest : nog (fX10_hottest N 0) (fX11_hottest N 0) := by
  intro Mc Mr hc hr
  unfold fX10_hottest fX11_hottest
  simp only [n_hn hc, n_hs hc, n_ng hc, rn_nod hr, rn_stp hr, rn_grd hr, rn_str hr, rn_asks hr, rn_lw hr, e_b, if_true, eq_self, q10, if_false]
  exact ⟨_, rfl, ⟨_, rfl, rEq_refl⟩⟩
theorem n_wearing : nog (fX10_wearing N 0) (fX11_wearing N 0) := by
  intro Mc Mr hc hr
  unfold fX10_wearing fX11_wearing
  simp only [n_hn hc, n_hs hc, n_ng hc, rn_nod hr, rn_stp hr, rn_grd hr, rn_str hr, rn_asks hr, rn_lw hr, e_b, if_true, eq_self, q10, if_false]
  exact ⟨_, rfl, ⟨_, rfl, rEq_refl⟩⟩
theorem n_reached {x : Int32} : nog (fX10_reached N 0 x) (fX11_reached N 0 x) := by
  intro Mc Mr hc hr
  unfold fX10_reached fX11_reached
  simp only [n_hn hc, n_hs hc, n_ng hc, rn_nod hr, rn_stp hr, rn_grd hr, rn_str hr, rn_asks hr, rn_lw hr, e_b, if_true, eq_self, q10, if_false]
  exact ⟨_, rfl, ⟨_, rfl, rEq_refl⟩⟩
theorem n_parts : nog (fX10_parts N 0) (fX11_parts N 0) := by
  intro Mc Mr hc hr
  unfold fX10_parts fX11_parts
  simp only [n_hn hc, n_hs hc, n_ng hc, rn_nod hr, rn_stp hr, rn_grd hr, rn_str hr, rn_asks hr, rn_lw hr, e_b, if_true, eq_self, q10, if_false]
  exact ⟨_, rfl, ⟨_, rfl, rEq_refl⟩⟩
theorem n_share {x y z : Int32} : nog (fX10_share N 0 x y z) (fX11_share N 0 x y z) := by
  intro Mc Mr hc hr
  unfold fX10_share fX11_share
  simp only [n_hn hc, n_hs hc, n_ng hc, rn_nod hr, rn_stp hr, rn_grd hr, rn_str hr, rn_asks hr, rn_lw hr, e_b, if_true, eq_self, q10, if_false]
  exact ⟨_, rfl, ⟨_, rfl, rEq_refl⟩⟩
theorem n_feeder {x y : Int32} : nog (fX10_feeder N 0 x y) (fX11_feeder N 0 x y) := by
  intro Mc Mr hc hr
  unfold fX10_feeder fX11_feeder
  simp only [n_hn hc, n_hs hc, n_ng hc, rn_nod hr, rn_stp hr, rn_grd hr, rn_str hr, rn_asks hr, rn_lw hr, e_b, if_true, eq_self, q10, if_false]
  exact ⟨_, rfl, ⟨_, rfl, rEq_refl⟩⟩
theorem n_calms : nog (fX10_calms N 0) (fX11_calms N 0) := by
  intro Mc Mr hc hr
  unfold fX10_calms fX11_calms
  simp only [n_hn hc, n_hs hc, n_ng hc, rn_nod hr, rn_stp hr, rn_grd hr, rn_str hr, rn_asks hr, rn_lw hr, e_b, if_true, eq_self, q10, if_false]
  exact ⟨_, rfl, ⟨_, rfl, rEq_refl⟩⟩
theorem n_lasts : nog (fX10_lasts N 0) (fX11_lasts N 0) := by
  intro Mc Mr hc hr
  unfold fX10_lasts fX11_lasts
  simp only [n_hn hc, n_hs hc, n_ng hc, rn_nod hr, rn_stp hr, rn_grd hr, rn_str hr, rn_asks hr, rn_lw hr, e_b, if_true, eq_self, q10, if_false]
  exact ⟨_, rfl, ⟨_, rfl, rEq_refl⟩⟩
theorem n_worn {x : Int32} : nog (fX10_worn N 0 x) (fX11_worn N 0 x) := by
  intro Mc Mr hc hr
  unfold fX10_worn fX11_worn
  simp only [n_hn hc, n_hs hc, n_ng hc, rn_nod hr, rn_stp hr, rn_grd hr, rn_str hr, rn_asks hr, rn_lw hr, e_b, if_true, eq_self, q10, if_false]
  exact ⟨_, rfl, ⟨_, rfl, rEq_refl⟩⟩
theorem n_aged {x y : Int32} : nog (fX10_aged N 0 x y) (fX11_aged N 0 x y) := by
  intro Mc Mr hc hr
  unfold fX10_aged fX11_aged
  rw [show (100 : Int64) = lI (((101 : Nat) : Int) - 1) from rfl, r_in (n := 101) (by omega), e_b]
  simp only [n_hn hc, n_hs hc, n_ng hc, rn_nod hr, rn_stp hr, rn_grd hr, rn_str hr, rn_asks hr, rn_lw hr, e_b, if_true, eq_self, q10, if_false]
  by_cases q : sg_ib x 101 = true
  · rw [if_pos q, if_neg q1]
    exact ⟨_, rfl, ⟨_, rfl, rEq_refl⟩⟩
  · rw [if_neg q, if_pos q0]
    exact ⟨_, rfl, ⟨_, rfl, rEq_refl⟩⟩
theorem n_pad {x : Int32} : nog (fX10_pad N 0 x) (fX11_pad N 0 x) := by
  intro Mc Mr hc hr
  unfold fX10_pad fX11_pad
  simp only [n_hn hc, n_hs hc, n_ng hc, rn_nod hr, rn_stp hr, rn_grd hr, rn_str hr, rn_asks hr, rn_lw hr, e_b, if_true, eq_self, q10, if_false]
  exact ⟨_, rfl, ⟨_, rfl, rEq_refl⟩⟩
theorem n_pads {x : Int32} : nog (fX10_pads N 0 x) (fX11_pads N 0 x) := by
  intro Mc Mr hc hr
  unfold fX10_pads fX11_pads
  simp only [n_hn hc, n_hs hc, n_ng hc, rn_nod hr, rn_stp hr, rn_grd hr, rn_str hr, rn_asks hr, rn_lw hr, e_b, if_true, eq_self, q10, if_false]
  exact ⟨_, rfl, ⟨_, rfl, rEq_refl⟩⟩
theorem n_padded {x y : Int32} : nog (fX10_padded N 0 x y) (fX11_padded N 0 x y) := by
  intro Mc Mr hc hr
  unfold fX10_padded fX11_padded
  simp only [n_hn hc, n_hs hc, n_ng hc, rn_nod hr, rn_stp hr, rn_grd hr, rn_str hr, rn_asks hr, rn_lw hr, e_b, if_true, eq_self, q10, if_false]
  exact ⟨_, rfl, ⟨_, rfl, rEq_refl⟩⟩
theorem n_enough : nog (fX10_enough N 0) (fX11_enough N 0) := by
  intro Mc Mr hc hr
  unfold fX10_enough fX11_enough
  simp only [n_hn hc, n_hs hc, n_ng hc, rn_nod hr, rn_stp hr, rn_grd hr, rn_str hr, rn_asks hr, rn_lw hr, e_b, if_true, eq_self, q10, if_false]
  exact ⟨_, rfl, ⟨_, rfl, rEq_refl⟩⟩
theorem n_widens : nog (fX10_widens N 0) (fX11_widens N 0) := by
  intro Mc Mr hc hr
  unfold fX10_widens fX11_widens
  simp only [n_hn hc, n_hs hc, n_ng hc, rn_nod hr, rn_stp hr, rn_grd hr, rn_str hr, rn_asks hr, rn_lw hr, e_b, if_true, eq_self, q10, if_false]
  exact ⟨_, rfl, ⟨_, rfl, rEq_refl⟩⟩
theorem n_widen {x : Int32} : nog (fX10_widen N 0 x) (fX11_widen N 0 x) := by
  intro Mc Mr hc hr
  unfold fX10_widen fX11_widen
  simp only [n_hn hc, n_hs hc, n_ng hc, rn_nod hr, rn_stp hr, rn_grd hr, rn_str hr, rn_asks hr, rn_lw hr, e_b, if_true, eq_self, q10, if_false]
  by_cases q : x < 0
  · rw [if_pos q]
    exact ⟨_, rfl, ⟨_, rfl, rEq_refl⟩⟩
  · rw [if_neg q]
    exact ⟨_, rfl, ⟨_, rfl, rEq_refl⟩⟩
theorem n_wide : nog (fX10_wide N 0) (fX11_wide N 0) := by
  intro Mc Mr hc hr
  unfold fX10_wide fX11_wide
  simp only [n_hn hc, n_hs hc, n_ng hc, rn_nod hr, rn_stp hr, rn_grd hr, rn_str hr, rn_asks hr, rn_lw hr, e_b, if_true, eq_self, q10, if_false]
  exact ⟨_, rfl, ⟨_, rfl, rEq_refl⟩⟩
theorem n_slims : nog (fX10_slims N 0) (fX11_slims N 0) := by
  intro Mc Mr hc hr
  unfold fX10_slims fX11_slims
  simp only [n_hn hc, n_hs hc, n_ng hc, rn_nod hr, rn_stp hr, rn_grd hr, rn_str hr, rn_asks hr, rn_lw hr, e_b, if_true, eq_self, q10, if_false]
  exact ⟨_, rfl, ⟨_, rfl, rEq_refl⟩⟩
theorem n_slim {x : Int32} : nog (fX10_slim N 0 x) (fX11_slim N 0 x) := by
  intro Mc Mr hc hr
  unfold fX10_slim fX11_slim
  simp only [n_hn hc, n_hs hc, n_ng hc, rn_nod hr, rn_stp hr, rn_grd hr, rn_str hr, rn_asks hr, rn_lw hr, e_b, if_true, eq_self, q10, if_false]
  exact ⟨_, rfl, ⟨_, rfl, rEq_refl⟩⟩
theorem n_fewest : nog (fX10_fewest N 0) (fX11_fewest N 0) := by
  intro Mc Mr hc hr
  unfold fX10_fewest fX11_fewest
  simp only [n_hn hc, n_hs hc, n_ng hc, rn_nod hr, rn_stp hr, rn_grd hr, rn_str hr, rn_asks hr, rn_lw hr, e_b, if_true, eq_self, q10, if_false]
  exact ⟨_, rfl, ⟨_, rfl, rEq_refl⟩⟩
theorem n_few {x : Int32} : nog (fX10_few N 0 x) (fX11_few N 0 x) := by
  intro Mc Mr hc hr
  unfold fX10_few fX11_few
  simp only [n_hn hc, n_hs hc, n_ng hc, rn_nod hr, rn_stp hr, rn_grd hr, rn_str hr, rn_asks hr, rn_lw hr, e_b, if_true, eq_self, q10, if_false]
  exact ⟨_, rfl, ⟨_, rfl, rEq_refl⟩⟩
theorem n_without {x y : Int32} : nog (fX10_without N 0 x y) (fX11_without N 0 x y) := by
  intro Mc Mr hc hr
  unfold fX10_without fX11_without
  simp only [n_hn hc, n_hs hc, n_ng hc, rn_nod hr, rn_stp hr, rn_grd hr, rn_str hr, rn_asks hr, rn_lw hr, e_b, if_true, eq_self, q10, if_false]
  exact ⟨_, rfl, ⟨_, rfl, rEq_refl⟩⟩
theorem n_lost {x : Int32} : nog (fX10_lost N 0 x) (fX11_lost N 0 x) := by
  intro Mc Mr hc hr
  unfold fX10_lost fX11_lost
  simp only [n_hn hc, n_hs hc, n_ng hc, rn_nod hr, rn_stp hr, rn_grd hr, rn_str hr, rn_asks hr, rn_lw hr, e_b, if_true, eq_self, q10, if_false]
  exact ⟨_, rfl, ⟨_, rfl, rEq_refl⟩⟩
theorem n_vital : nog (fX10_vital N 0) (fX11_vital N 0) := by
  intro Mc Mr hc hr
  unfold fX10_vital fX11_vital
  simp only [n_hn hc, n_hs hc, n_ng hc, rn_nod hr, rn_stp hr, rn_grd hr, rn_str hr, rn_asks hr, rn_lw hr, e_b, if_true, eq_self, q10, if_false]
  exact ⟨_, rfl, ⟨_, rfl, rEq_refl⟩⟩
theorem n_spare : nog (fX10_spare N 0) (fX11_spare N 0) := by
  intro Mc Mr hc hr
  unfold fX10_spare fX11_spare
  simp only [n_hn hc, n_hs hc, n_ng hc, rn_nod hr, rn_stp hr, rn_grd hr, rn_str hr, rn_asks hr, rn_lw hr, e_b, if_true, eq_self, q10, if_false]
  exact ⟨_, rfl, ⟨_, rfl, rEq_refl⟩⟩
theorem n_pairs : nog (fX10_pairs N 0) (fX11_pairs N 0) := by
  intro Mc Mr hc hr
  unfold fX10_pairs fX11_pairs
  simp only [n_hn hc, n_hs hc, n_ng hc, rn_nod hr, rn_stp hr, rn_grd hr, rn_str hr, rn_asks hr, rn_lw hr, e_b, if_true, eq_self, q10, if_false]
  exact ⟨_, rfl, ⟨_, rfl, rEq_refl⟩⟩
theorem n_pair {x : Int32} : nog (fX10_pair N 0 x) (fX11_pair N 0 x) := by
  intro Mc Mr hc hr
  unfold fX10_pair fX11_pair
  simp only [n_hn hc, n_hs hc, n_ng hc, rn_nod hr, rn_stp hr, rn_grd hr, rn_str hr, rn_asks hr, rn_lw hr, e_b, if_true, eq_self, q10, if_false]
  exact ⟨_, rfl, ⟨_, rfl, rEq_refl⟩⟩
theorem n_chance {x y : Int32} : nog (fX10_chance N 0 x y) (fX11_chance N 0 x y) := by
  intro Mc Mr hc hr
  unfold fX10_chance fX11_chance
  simp only [n_hn hc, n_hs hc, n_ng hc, rn_nod hr, rn_stp hr, rn_grd hr, rn_str hr, rn_asks hr, rn_lw hr, e_b, if_true, eq_self, q10, if_false]
  exact ⟨_, rfl, ⟨_, rfl, rEq_refl⟩⟩
theorem n_luck {x y z : Int32} : nog (fX10_luck N 0 x y z) (fX11_luck N 0 x y z) := by
  intro Mc Mr hc hr
  unfold fX10_luck fX11_luck
  simp only [n_hn hc, n_hs hc, n_ng hc, rn_nod hr, rn_stp hr, rn_grd hr, rn_str hr, rn_asks hr, rn_lw hr, e_b, if_true, eq_self, q10, if_false]
  exact ⟨_, rfl, ⟨_, rfl, rEq_refl⟩⟩
theorem n_room {x : Int32} : nog (fX10_room N 0 x) (fX11_room N 0 x) := by
  intro Mc Mr hc hr
  unfold fX10_room fX11_room
  simp only [n_hn hc, n_hs hc, n_ng hc, rn_nod hr, rn_stp hr, rn_grd hr, rn_str hr, rn_asks hr, rn_lw hr, e_b, if_true, eq_self, q10, if_false]
  exact ⟨_, rfl, ⟨_, rfl, rEq_refl⟩⟩
end NG
section DU
variable {N : Nat}
theorem d_strap {x y : Int32} (hN : 1000 ≤ N) : dua (fX10_strap N 0 x y) (fX11_strap N 0 x y) := dua_q (fun _ => q_strap hN) n_strap
theorem d_between {x y : Int32} (hN : 1000 ≤ N) : dua (fX10_between N 0 x y) (fX11_between N 0 x y) := dua_q (fun _ => q_between hN) n_between
theorem d_node {x y : Int32} (hN : 1000 ≤ N) : dua (fX10_node N 0 x y) (fX11_node N 0 x y) := dua_q (fun _ => q_node hN) n_node
theorem d_budget {x : Int32} (hN : 1000 ≤ N) : dua (fX10_budget N 0 x) (fX11_budget N 0 x) := dua_q (fun _ => q_budget) n_budget
theorem d_drop {x y : Int32} (hN : 1000 ≤ N) : dua (fX10_drop N 0 x y) (fX11_drop N 0 x y) := dua_q (fun _ => q_drop hN) n_drop
theorem d_through {x y : Int32} (hN : 1000 ≤ N) : dua (fX10_through N 0 x y) (fX11_through N 0 x y) := dua_q (fun _ => q_through hN) n_through
theorem d_gives {x y : Int32} (hN : 1000 ≤ N) : dua (fX10_gives N 0 x y) (fX11_gives N 0 x y) := dua_q (fun _ => q_gives hN) n_gives
theorem d_chief (hN : 1000 ≤ N) : dua (fX10_chief N 0) (fX11_chief N 0) := dua_q (fun _ => q_chief hN) n_chief
theorem d_area (hN : 1000 ≤ N) : dua (fX10_area N 0) (fX11_area N 0) := dua_q (fun _ => q_area hN) n_area
theorem d_worst (hN : 1000 ≤ N) : dua (fX10_worst N 0) (fX11_worst N 0) := dua_q (fun _ => q_worst hN) n_worst
theorem d_over (hN : 1000 ≤ N) : dua (fX10_over N 0) (fX11_over N 0) := dua_q (fun _ => q_over hN) n_over
theorem d_holds (hN : 1000 ≤ N) : dua (fX10_holds N 0) (fX11_holds N 0) := dua_q (fun _ => q_holds hN) n_holds
theorem d_loss {y : Int32} (hN : 1000 ≤ N) : dua (fX10_loss N 0 y) (fX11_loss N 0 y) := dua_q (fun _ => q_loss hN) n_loss
theorem d_moves {x y z : Int32} (hN : 1000 ≤ N) : dua (fX10_moves N 0 x y z) (fX11_moves N 0 x y z) := dua_q (fun _ => q_moves hN) n_moves
theorem d_resists {x y z : Int32} (hN : 1000 ≤ N) : dua (fX10_resists N 0 x y z) (fX11_resists N 0 x y z) := dua_q (fun _ => q_resists hN) n_resists
theorem d_most {x y : Int32} (hN : 1000 ≤ N) : dua (fX10_most N 0 x y) (fX11_most N 0 x y) := dua_q (fun _ => q_most hN) n_most
theorem d_drawn {x y : Int32} (hN : 1000 ≤ N) : dua (fX10_drawn N 0 x y) (fX11_drawn N 0 x y) := dua_q (fun _ => q_drawn hN) n_drawn
theorem d_tight {x : Int32} (hN : 1000 ≤ N) : dua (fX10_tight N 0 x) (fX11_tight N 0 x) := dua_q (fun _ => q_tight hN) n_tight
theorem d_foe (hN : 1000 ≤ N) : dua (fX10_foe N 0) (fX11_foe N 0) := dua_q (fun _ => q_foe hN) n_foe
theorem d_unsafe (hN : 1000 ≤ N) : dua (fX10_unsafe N 0) (fX11_unsafe N 0) := dua_q (fun _ => q_unsafe hN) n_unsafe
theorem d_heat {x y : Int32} (hN : 1000 ≤ N) : dua (fX10_heat N 0 x y) (fX11_heat N 0 x y) := dua_q (fun _ => q_heat hN) n_heat
theorem d_hottest (hN : 1000 ≤ N) : dua (fX10_hottest N 0) (fX11_hottest N 0) := dua_q (fun _ => q_hottest hN) n_hottest
theorem d_wearing (hN : 1000 ≤ N) : dua (fX10_wearing N 0) (fX11_wearing N 0) := dua_q (fun _ => q_wearing hN) n_wearing
theorem d_reached {x : Int32} (hN : 1000 ≤ N) : dua (fX10_reached N 0 x) (fX11_reached N 0 x) := dua_q (fun _ => q_reached hN) n_reached
theorem d_parts (hN : 1000 ≤ N) : dua (fX10_parts N 0) (fX11_parts N 0) := dua_q (fun _ => q_parts hN) n_parts
theorem d_share {x y z : Int32} (hN : 1000 ≤ N) : dua (fX10_share N 0 x y z) (fX11_share N 0 x y z) := dua_q (fun _ => q_share hN) n_share
theorem d_feeder {x y : Int32} (hN : 1000 ≤ N) : dua (fX10_feeder N 0 x y) (fX11_feeder N 0 x y) := dua_q (fun _ => q_feeder hN) n_feeder
theorem d_calms (hN : 1000 ≤ N) : dua (fX10_calms N 0) (fX11_calms N 0) := dua_q (fun _ => q_calms hN) n_calms
theorem d_lasts (hN : 1000 ≤ N) : dua (fX10_lasts N 0) (fX11_lasts N 0) := dua_q (fun _ => q_lasts hN) n_lasts
theorem d_worn {x : Int32} (hN : 1000 ≤ N) : dua (fX10_worn N 0 x) (fX11_worn N 0 x) := dua_q (fun _ => q_worn hN) n_worn
theorem d_aged {x y : Int32} (hN : 1000 ≤ N) : dua (fX10_aged N 0 x y) (fX11_aged N 0 x y) := dua_q (fun _ => q_aged hN) n_aged
theorem d_pad {x : Int32} (hN : 1000 ≤ N) : dua (fX10_pad N 0 x) (fX11_pad N 0 x) := dua_q (fun _ => q_pad hN) n_pad
theorem d_pads {x : Int32} (hN : 1000 ≤ N) : dua (fX10_pads N 0 x) (fX11_pads N 0 x) := dua_q (fun _ => q_pads hN) n_pads
theorem d_padded {x y : Int32} (hN : 1000 ≤ N) : dua (fX10_padded N 0 x y) (fX11_padded N 0 x y) := dua_q (fun _ => q_padded hN) n_padded
theorem d_enough (hN : 1000 ≤ N) : dua (fX10_enough N 0) (fX11_enough N 0) := dua_q (fun _ => q_enough hN) n_enough
theorem d_widens (hN : 1000 ≤ N) : dua (fX10_widens N 0) (fX11_widens N 0) := dua_q (fun _ => q_widens hN) n_widens
theorem d_widen {x : Int32} (hN : 1000 ≤ N) : dua (fX10_widen N 0 x) (fX11_widen N 0 x) := dua_q (fun _ => q_widen hN) n_widen
theorem d_wide (hN : 1000 ≤ N) : dua (fX10_wide N 0) (fX11_wide N 0) := dua_q (fun _ => q_wide hN) n_wide
theorem d_slims (hN : 1000 ≤ N) : dua (fX10_slims N 0) (fX11_slims N 0) := dua_q (fun _ => q_slims hN) n_slims
theorem d_slim {x : Int32} (hN : 1000 ≤ N) : dua (fX10_slim N 0 x) (fX11_slim N 0 x) := dua_q (fun _ => q_slim hN) n_slim
theorem d_fewest (hN : 1000 ≤ N) : dua (fX10_fewest N 0) (fX11_fewest N 0) := dua_q (fun _ => q_fewest hN) n_fewest
theorem d_few {x : Int32} (hN : 1000 ≤ N) : dua (fX10_few N 0 x) (fX11_few N 0 x) := dua_q (fun _ => q_few hN) n_few
theorem d_without {x y : Int32} (hN : 1000 ≤ N) : dua (fX10_without N 0 x y) (fX11_without N 0 x y) := dua_q (fun _ => q_without hN) n_without
theorem d_lost {x : Int32} (hN : 1000 ≤ N) : dua (fX10_lost N 0 x) (fX11_lost N 0 x) := dua_q (fun _ => q_lost hN) n_lost
theorem d_vital (hN : 1000 ≤ N) : dua (fX10_vital N 0) (fX11_vital N 0) := dua_q (fun _ => q_vital hN) n_vital
theorem d_spare (hN : 1000 ≤ N) : dua (fX10_spare N 0) (fX11_spare N 0) := dua_q (fun _ => q_spare hN) n_spare
theorem d_pairs (hN : 1000 ≤ N) : dua (fX10_pairs N 0) (fX11_pairs N 0) := dua_q (fun _ => q_pairs hN) n_pairs
theorem d_pair {x : Int32} (hN : 1000 ≤ N) : dua (fX10_pair N 0 x) (fX11_pair N 0 x) := dua_q (fun _ => q_pair hN) n_pair
theorem d_chance {x y : Int32} (hN : 1000 ≤ N) : dua (fX10_chance N 0 x y) (fX11_chance N 0 x y) := dua_q (fun _ => q_chance hN) n_chance
theorem d_luck {x y z : Int32} (hN : 1000 ≤ N) : dua (fX10_luck N 0 x y z) (fX11_luck N 0 x y z) := dua_q (fun _ => q_luck hN) n_luck
theorem d_room {x : Int32} (hN : 1000 ≤ N) : dua (fX10_room N 0 x) (fX11_room N 0 x) := dua_q (fun _ => q_room hN) n_room
end DU
