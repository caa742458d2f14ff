/-! a grid as a block of 40 numbers (the reference's row) -/
def gC (b : Nat → Int32) : Nat := (b 0).toNatClampNeg
def gR (b : Nat → Int32) : Nat := (b 1).toNatClampNeg
def gT (b : Nat → Int32) : Nat := (b 2).toNatClampNeg
def gE (b : Nat → Int32) : Nat := (b 3).toNatClampNeg
def gW (b : Nat → Int32) (s : Nat) : Nat := (b (28 + s)).toNatClampNeg
def gL (b : Nat → Int32) (v : Nat) : Nat := (b (6 + v)).toNatClampNeg
def gG (b : Nat → Int32) (v : Nat) : Nat := (b (15 + v)).toNatClampNeg
def gB (b : Nat → Int32) (g : Nat) : Nat := (b (24 + g)).toNatClampNeg
def gM (b : Nat → Int32) : Nat := gC b * gR b
def gS (b : Nat → Int32) : Nat := ns (gC b) (gR b)
def vb (b : Nat → Int32) : Prop := shp (gC b) (gR b) ∧ (b 0 = nI (gC b) ∧ b 1 = nI (gR b)) ∧ ((b 2 = nI (gT b) ∧ gT b ≤ 999) ∧ (b 3 = nI (gE b) ∧ 1 ≤ gE b ∧ gE b ≤ 999)) ∧ ¬ b 4 ≤ 0 ∧ (∀ v, v < 32 → bt (b 5) v = true → v < gC b * gR b) ∧ (∀ s, s < 12 → b (28 + s) = nI (gW b s) ∧ gW b s ≤ 4 ∧ (gS b ≤ s → gW b s = 0)) ∧ (∀ v, v < 9 → b (6 + v) = nI (gL b v) ∧ gL b v ≤ 99 ∧ (gM b ≤ v → gL b v = 0)) ∧ (∀ v, v < 9 → b (15 + v) = nI (gG b v) ∧ gG b v < 4) ∧ ∀ g, g < 4 → b (24 + g) = nI (gB b g) ∧ gB b g ≤ 999
/-- the answer is A, and Q holds of the store -/
def okA {α : Type} (f : Option (α × sg_M)) (A : α) (Q : sg_M → Prop) : Prop := ∃ M, f = some (A, M) ∧ Q M
theorem okA_of {α : Type} {f : Option (α × sg_M)} {A : α} {Q : sg_M → Prop} (h : ok f (fun res => res.1 = A ∧ Q res.2)) : okA f A Q := by
  obtain ⟨⟨a, M⟩, rfl, e, q⟩ := h
  have e : a = A := e
  subst e
  exact ⟨M, rfl, q⟩
theorem okA_to {α : Type} {f : Option (α × sg_M)} {A : α} {Q : sg_M → Prop} (h : okA f A Q) : ok f (fun res => res.1 = A ∧ Q res.2) := by
  obtain ⟨M, rfl, q⟩ := h
  exact ⟨_, rfl, rfl, q⟩
theorem ok_a {α β : Type} {f : Option (α × sg_M)} {K : α → sg_M → Option β} {P : β → Prop} {A : α} {Q : sg_M → Prop} (hf : okA f A Q) (hk : ∀ M, Q M → ok (K A M) P) : ok (sg_b f K) P := by
  obtain ⟨M, rfl, q⟩ := hf
  exact hk M q
theorem okA_imp {α : Type} {f : Option (α × sg_M)} {A : α} {Q Q2 : sg_M → Prop} (h : okA f A Q) (hi : ∀ M, Q M → Q2 M) : okA f A Q2 := by
  obtain ⟨M, e, q⟩ := h
  exact ⟨M, e, hi M q⟩
section VB
variable {b : Nat → Int32}
theorem vb_s (h : vb b) : shp (gC b) (gR b) := h.1
theorem vb_m (h : vb b) : 1 ≤ gM b ∧ gM b ≤ 9 := ⟨Nat.mul_pos h.1.1 h.1.2.1, h.1.2.2⟩
theorem vb_n (h : vb b) : gS b ≤ 12 := ns_le h.1
theorem vb_0 (h : vb b) : b 0 = nI (gC b) := h.2.1.1
theorem vb_1 (h : vb b) : b 1 = nI (gR b) := h.2.1.2
theorem vb_01 (h : vb b) : b 0 * b 1 = nI (gM b) := by rw [vb_0 h, vb_1 h, nI_mul]; rfl
theorem vb_2 (h : vb b) : b 2 = nI (gT b) := h.2.2.1.1.1
theorem vb_T (h : vb b) : gT b ≤ 999 := h.2.2.1.1.2
theorem vb_3 (h : vb b) : b 3 = nI (gE b) := h.2.2.1.2.1
theorem vb_E (h : vb b) : 1 ≤ gE b ∧ gE b ≤ 999 := h.2.2.1.2.2
theorem vb_4 (h : vb b) : ¬ b 4 ≤ 0 := h.2.2.2.1
theorem vb_P (h : vb b) : ∀ v, v < 32 → bt (b 5) v = true → v < gC b * gR b := h.2.2.2.2.1
theorem vb_w (h : vb b) {s : Nat} (hs : s < 12) : b (28 + s) = nI (gW b s) := (h.2.2.2.2.2.1 s hs).1
theorem vb_w4 (h : vb b) {s : Nat} (hs : s < 12) : gW b s ≤ 4 := (h.2.2.2.2.2.1 s hs).2.1
theorem vb_w0 (h : vb b) {s : Nat} (hs : s < 12) (h2 : gS b ≤ s) : gW b s = 0 := (h.2.2.2.2.2.1 s hs).2.2 h2
theorem vb_W (h : vb b) : ∀ s, s < ns (gC b) (gR b) → gW b s ≤ 4 := fun s hs => vb_w4 h (by have := ns_le h.1; omega)
theorem vb_l (h : vb b) {v : Nat} (hv : v < 9) : b (6 + v) = nI (gL b v) := (h.2.2.2.2.2.2.1 v hv).1
theorem vb_l99 (h : vb b) {v : Nat} (hv : v < 9) : gL b v ≤ 99 := (h.2.2.2.2.2.2.1 v hv).2.1
theorem vb_l0 (h : vb b) {v : Nat} (hv : v < 9) (h2 : gM b ≤ v) : gL b v = 0 := (h.2.2.2.2.2.2.1 v hv).2.2 h2
theorem vb_L (h : vb b) : ∀ v, v < gC b * gR b → gL b v ≤ 99 := fun v hv => vb_l99 h (by have := h.1.2.2; omega)
theorem vb_g (h : vb b) {v : Nat} (hv : v < 9) : b (15 + v) = nI (gG b v) := (h.2.2.2.2.2.2.2.1 v hv).1
theorem vb_g4 (h : vb b) {v : Nat} (hv : v < 9) : gG b v < 4 := (h.2.2.2.2.2.2.2.1 v hv).2
theorem vb_b (h : vb b) {g : Nat} (hg : g < 4) : b (24 + g) = nI (gB b g) := (h.2.2.2.2.2.2.2.2 g hg).1
theorem vb_b9 (h : vb b) {g : Nat} (hg : g < 4) : gB b g ≤ 999 := (h.2.2.2.2.2.2.2.2 g hg).2
end VB
abbrev bD (b : Nat → Int32) : Int := dD (gC b) (gR b) (gW b) (b 5)
abbrev bX (b : Nat → Int32) (v : Nat) : Int := xN (gC b) (gR b) (gW b) (b 5) (gL b) v
abbrev bV2 (b : Nat → Int32) (v u : Nat) : Int := mv (gC b) (gR b) (gW b) (b 5) v u
abbrev bQ (b : Nat → Int32) : Int32 := dead (gC b) (gR b) (gW b) (b 5)
abbrev bSt (b : Nat → Int32) : Nat := stC (gC b) (gR b) (gW b) (b 5) (gL b) (gM b)
abbrev bMx (b : Nat → Int32) : Int := mxX (gC b) (gR b) (gW b) (b 5) (gL b) (gM b)
abbrev bA (b : Nat → Int32) (s : Nat) : Nat := sA (gC b) (gR b) s
abbrev bB (b : Nat → Int32) (s : Nat) : Nat := sB (gC b) (gR b) s
/-- it holds -/
def hold (b : Nat → Int32) : Bool := decide (bSt b = 0) && decide (bMx b ≤ (gT b : Int) * bD b)
section BK
variable {b : Nat → Int32}
theorem bD_b (h : vb b) : 0 < bD b ∧ bD b ≤ 169869312 := ⟨dD_pos h.1, dD_le h.1 (vb_W h) (vb_P h)⟩
theorem bX_b (h : vb b) {v : Nat} (hv : v < gM b) : 0 ≤ bX b v ∧ bX b v ≤ 18919194624 := xN_b h.1 (vb_W h) (vb_P h) (vb_L h) hv
theorem bMx_b (h : vb b) : 0 ≤ bMx b ∧ bMx b ≤ 18919194624 := mxX_b h.1 (vb_W h) (vb_P h) (vb_L h) _ (Nat.le_refl _)
theorem bSt_b (h : vb b) : bSt b ≤ 9 := Nat.le_trans (stC_le _) (vb_m h).2
theorem bAB (h : vb b) {s : Nat} (hs : s < gS b) : bA b s < bB b s ∧ bB b s < gM b := sAB h.1 hs
/-- the reference, solved for its row -/
def rS (b : Nat → Int32) (M : sg_M) : Prop := rSol (gC b) (gR b) (gW b) (b 5) M ∧ M.1 1 = b
theorem r_lay {N : Nat} {M : sg_M} (h : vb b) (h1 : M.1 1 = b) (hN : 1000 ≤ N) : ok (fX11_lays N 0 M) (fun M1 => rS b M1 ∧ rsF M M1) := by
  unfold fX11_lays
  rw [yr_1, yl_1, if_pos (show sg_ib (5 : Int32) 40 = true by decide), c_5, h1]
  refine ok_bv (solves_ok (N := N) h.1 (vb_W h) (vb_P h) (by rw [h1]; exact vb_0 h) (by rw [h1]; exact vb_1 h) (by rw [h1]; exact vb_4 h) (fun s hs => by rw [h1]; exact vb_w h (by have := vb_n h; have : s < gS b := hs; omega)) hN) (fun M1 hM => ok_some ⟨⟨hM.1, ?_⟩, hM.2⟩)
  funext k
  rw [rsF_1 hM.2 k, h1]
theorem rS_nd {M : sg_M} (h : vb b) (h1 : M.1 1 = b) : M.1 1 0 * M.1 1 1 = nI (gC b * gR b) := by rw [h1]; exact vb_01 h
theorem rS_L {M : sg_M} (h : vb b) (h1 : M.1 1 = b) : ∀ v, v < gC b * gR b → M.1 1 (6 + v) = nI (gL b v) ∧ gL b v ≤ 99 := fun v hv => by
  have : v < 9 := by have := h.1.2.2; omega
  rw [h1]
  exact ⟨vb_l h this, vb_l99 h this⟩
theorem r_drp {N v : Nat} {M : sg_M} (h : vb b) (hM : rS b M) (hv : v < gM b) (hN : 20 ≤ N) : fX11_dropOf N 0 (nI v) M = some (lI (bX b v), M) := ok_eq (dropOf_ok h.1 hM.1 (rS_L h hM.2) hv hN)
theorem r_mst {N : Nat} {M : sg_M} (h : vb b) (hM : rS b M) (hN : 20 ≤ N) : fX11_mostDrop N 0 M = some (lI (bMx b), M) := ok_eq (mostDrop_ok h.1 (vb_W h) (vb_P h) hM.1 (rS_nd h hM.2) (rS_L h hM.2) hN)
theorem r_dl {N : Nat} {M : sg_M} (h : vb b) (hM : rS b M) (hN : 20 ≤ N) : fX11_deadLoads N 0 M = some (nI (bSt b), M) := ok_eq (deadLoads_ok h.1 hM.1.1 (rS_nd h hM.2) (rS_L h hM.2) hN)
theorem r_mov {N u v : Nat} {M : sg_M} (h : vb b) (hM : rS b M) (hu : u < gM b) (hv : v < gM b) : fX11_movesOf N 0 (nI u) (nI v) M = some (lI (bV2 b u v), M) := moves_ok h.1 hM.1 hu hv
theorem r_nd {N : Nat} {M : sg_M} (h : vb b) (h1 : M.1 1 = b) : fX11_nodes N 0 M = some (nI (gM b), M) := r_nodesE (rS_nd h h1)
theorem r_nod {N : Nat} {x : Int32} {M : sg_M} (h : vb b) (h1 : M.1 1 = b) : fX11_isNode N 0 x M = some (if sg_ib x (gM b) = true then 1 else 0, M) := r_isNode (rS_nd h h1) (by have := (vb_m h).2; omega)
theorem r_grd {N : Nat} {M : sg_M} (h : vb b) (h1 : M.1 1 = b) : fX11_isGrid N 0 M = some (1, M) := by rw [r_isGrid, h1, if_neg (vb_4 h)]
theorem r_dd {N v : Nat} {M : sg_M} (hM : rS b M) (hv : v < 32) : fX11_isDead N 0 (nI v) M = some (if bt (bQ b) v = true then 1 else 0, M) := by rw [r_isDead hv, hM.1.1]
theorem r_whole {M : sg_M} (hM : rS b M) : M.2 0 26 = lI (bD b) := hM.1.2.2.2.1
theorem r_8 {M : sg_M} (hM : rS b M) : M.1 0 8 = nI (gS b) := hM.1.2.2.1.1
theorem r_A {M : sg_M} (hM : rS b M) {s : Nat} (hs : s < gS b) : M.1 6 (2 * s) = nI (bA b s) := (hM.1.2.2.1.2 s hs).1
theorem r_B {M : sg_M} (hM : rS b M) {s : Nat} (hs : s < gS b) : M.1 6 (2 * s + 1) = nI (bB b s) := (hM.1.2.2.1.2 s hs).2
theorem r_stp {N : Nat} {M : sg_M} (h : vb b) (h1 : M.1 1 = b) (hN : 20 ≤ N) : okA (fX11_straps N 0 M) (nI (gS b)) (fun M1 => rTab (stp (gC b) (gR b)) M1 ∧ rFr M M1) := okA_of <| r_straps h.1 hN (by rw [h1]; exact vb_0 h) (by rw [h1]; exact vb_1 h) (by rw [h1]; exact vb_4 h)
theorem rFr_rsF {M M1 : sg_M} (h : rFr M M1) : rsF M M1 := ⟨fun a k h6 _ _ h0 => h.2 a k h6 (by omega), fun a k _ _ => by rw [h.1]⟩
theorem rsF_11 {M M1 : sg_M} (h : rsF M M1) : M1.1 1 = M.1 1 := by funext k; exact rsF_1 h k
theorem rsF_refl {M : sg_M} : rsF M M := ⟨fun _ _ _ _ _ _ => rfl, fun _ _ _ _ => rfl⟩
theorem r_istp {N : Nat} {x : Int32} {M : sg_M} (h : vb b) (h1 : M.1 1 = b) (hN : 20 ≤ N) : okA (fX11_isStrap N 0 x M) (if sg_ib x (gS b) = true then 1 else 0) (fun M1 => rTab (stp (gC b) (gR b)) M1 ∧ rFr M M1) := by
  apply okA_of
  unfold fX11_isStrap
  refine ok_a (r_stp (N := N) h h1 hN) (fun M1 hx => ?_)
  have hn := vb_n h
  rw [nI_pd (by omega), r_in (by omega), e_b, if_pos bz01]
  exact ok_some ⟨rfl, hx⟩
/-- it holds, by the reference -/
theorem r_hold {N : Nat} {M : sg_M} (h : vb b) (h1 : M.1 1 = b) (hN : 1000 ≤ N) : okA (fX11_doesHold N 0 M) (if hold b = true then 1 else 0) (fun M1 => rS b M1 ∧ rsF M M1) := by
  apply okA_of
  have hm := bMx_b h
  have hd := bD_b h
  have hT := vb_T h
  have hst := bSt_b h
  unfold fX11_doesHold
  refine ok_bv (r_lay (N := N) h h1 hN) (fun M1 hM => ?_)
  rw [r_dl h hM.1 (by omega), e_b]
  refine ok_if (fun z => ?_) (fun z => ?_)
  · have z : bSt b = 0 := (nI_z (by omega)).mp z
    rw [r_mst h hM.1 (by omega), e_b, yr_1, yl_1, c_2, hM.1.2, vb_2 h, r_whole hM.1, lI_nI (by omega), lI_mul]
    refine ok_t (by decide) ?_
    have b1 : 0 ≤ (gT b : Int) * bD b ∧ (gT b : Int) * bD b ≤ 999 * 169869312 := ⟨Int.mul_nonneg (by omega) (by omega), Int.mul_le_mul (by omega) hd.2 (by omega) (by omega)⟩
    refine ok_if (fun q => ?_) (fun q => ?_)
    · refine ok_some ⟨?_, hM.1, hM.2⟩
      have q := (lI_lt (by omega) (by omega) (by omega) (by omega)).mp (lg_gt.mp q)
      rw [if_neg]
      unfold hold
      rw [decide_eq_false (show ¬ bMx b ≤ (gT b : Int) * bD b by omega), Bool.and_false]
      decide
    · refine ok_some ⟨?_, hM.1, hM.2⟩
      have q : ¬ (gT b : Int) * bD b < bMx b := fun y => q (lg_gt.mpr ((lI_lt (by omega) (by omega) (by omega) (by omega)).mpr y))
      rw [if_pos]
      unfold hold
      rw [decide_eq_true z, decide_eq_true (show bMx b ≤ (gT b : Int) * bD b by omega)]
      rfl
  · refine ok_some ⟨?_, hM.1, hM.2⟩
    have z : ¬ bSt b = 0 := fun y => z ((nI_z (by omega)).mpr y)
    rw [if_neg]
    unfold hold
    rw [decide_eq_false z, Bool.false_and]
    decide
theorem r_asks {N : Nat} {M : sg_M} (h : vb b) (h1 : M.1 1 = b) (hN : 1000 ≤ N) : okA (fX11_asks N 0 M) 1 (fun M1 => rS b M1 ∧ rsF M M1) := by
  apply okA_of
  unfold fX11_asks
  rw [r_grd h h1, e_b]
  refine ok_f (by decide) (ok_bv (r_lay (N := N) h h1 hN) (fun M1 hM => ?_))
  unfold gX11_asks_11
  rw [r_grd h hM.1.2, e_b]
  exact ok_t (by decide) (ok_some ⟨rfl, hM⟩)
/-- what goes through a strap; its heat; times the number below -/
def thr (b : Nat → Int32) (s : Nat) : Int := (gW b s : Int) * (bX b (bB b s) - bX b (bA b s))
def heat (b : Nat → Int32) (s : Nat) : Int := if gW b s = 0 then 0 else ((bX b (bB b s) - bX b (bA b s)).natAbs : Int)
theorem thr_b (h : vb b) {s : Nat} (hs : s < gS b) : -75676778496 ≤ thr b s ∧ thr b s ≤ 75676778496 := by
  obtain ⟨h1, h2⟩ := bAB h hs
  have x1 := bX_b h h2
  have x2 := bX_b h (show bA b s < gM b by omega)
  have hn := vb_n h
  have hw := vb_w4 h (show s < 12 by omega)
  unfold thr
  have e1 : (gW b s : Int).natAbs ≤ 4 := by omega
  have e2 : (bX b (bB b s) - bX b (bA b s)).natAbs ≤ 18919194624 := by omega
  have e3 := Nat.mul_le_mul e1 e2
  rw [← Int.natAbs_mul] at e3
  omega
theorem heat_b (h : vb b) {s : Nat} (hs : s < gS b) : 0 ≤ heat b s ∧ heat b s ≤ 18919194624 := by
  obtain ⟨h1, h2⟩ := bAB h hs
  have x1 := bX_b h h2
  have x2 := bX_b h (show bA b s < gM b by omega)
  unfold heat
  by_cases e : gW b s = 0
  · rw [if_pos e]; omega
  · rw [if_neg e]; omega
theorem r_thr {N s : Nat} {M : sg_M} (h : vb b) (hM : rS b M) (hs : s < gS b) (hN : 20 ≤ N) : fX11_throughOf N 0 (nI s) M = some (lI (thr b s), M) := by
  obtain ⟨h1, h2⟩ := bAB h hs
  have hn := vb_n h
  have hw := vb_w4 h (show s < 12 by omega)
  unfold fX11_throughOf
  rw [yr_1, yr_7, yl_1, yl_6, k_28, k_2, nI_1, if_pos (ib_nI (by omega) (by omega)), if_pos (ib_nI (by omega) (by omega)), nI_clamp (show 2 * s + 1 < 2 ^ 31 by omega), nI_clamp (show 2 * s < 2 ^ 31 by omega), nI_clamp (show 28 + s < 2 ^ 31 by omega), r_B hM hs, r_drp h hM h2 hN, e_b, if_pos (ib_nI (by omega) (by omega)), r_A hM hs, r_drp h hM (by omega) hN, e_b, hM.2, vb_w h (by omega), lI_nI (by omega), lI_sub, lI_mul]
  rfl
theorem r_heat {N s : Nat} {M : sg_M} (h : vb b) (hM : rS b M) (hs : s < gS b) (hN : 20 ≤ N) : fX11_heatOf N 0 (nI s) M = some (lI (heat b s), M) := by
  obtain ⟨h1, h2⟩ := bAB h hs
  have hn := vb_n h
  have hw := vb_w4 h (show s < 12 by omega)
  have x1 := bX_b h h2
  have x2 := bX_b h (show bA b s < gM b by omega)
  unfold fX11_heatOf
  rw [yr_1, yr_7, yl_1, yl_6, k_28, k_2, nI_1, if_pos (ib_nI (by omega) (by omega)), nI_clamp (show 28 + s < 2 ^ 31 by omega), hM.2, vb_w h (by omega)]
  unfold heat
  by_cases e : gW b s = 0
  · rw [if_pos ((nI_z (by omega)).mpr e), if_pos e]
    rfl
  · rw [if_neg (fun z => e ((nI_z (by omega)).mp z)), if_neg e, if_pos (ib_nI (by omega) (by omega)), nI_clamp (show 2 * s + 1 < 2 ^ 31 by omega), nI_clamp (show 2 * s < 2 ^ 31 by omega), r_B hM hs, r_drp h hM h2 hN, e_b, if_pos (ib_nI (by omega) (by omega)), r_A hM hs, r_drp h hM (by omega) hN, e_b, lI_sub, lI_abs (by omega)]
end BK
