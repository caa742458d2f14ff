/-! a fresh draft behind the first line -/
section FR
variable {N sz : Nat} {yb : Nat → Nat}
def newC (c r T E W : Nat) (Z : sg_M) : Prop := (Z.1 2 0 = nI c ∧ Z.1 2 1 = nI r ∧ Z.1 2 2 = nI T ∧ Z.1 2 3 = nI E ∧ Z.1 2 4 = 0 ∧ Z.1 2 7 = 0 ∧ Z.1 2 8 = 0) ∧ netG c r 2 Z ∧ (∀ s, s < 12 → Z.1 5 s = if s < ns c r then nI W else 0) ∧ (∀ v, v < 9 → Z.1 6 v = 0) ∧ (∀ v, v < 9 → Z.1 7 v = 0) ∧ (∀ g, g < 4 → Z.1 8 g = 999) ∧ Z.1 1 12 = 0
def newR (c r T E W : Nat) (F : Nat → Int32) : Prop := (F 0 = nI c ∧ F 1 = nI r ∧ F 2 = nI T ∧ F 3 = nI E ∧ F 4 = 1 ∧ F 5 = 0) ∧ (∀ v, v < 9 → F (6 + v) = 0) ∧ (∀ v, v < 9 → F (15 + v) = 0) ∧ (∀ g, g < 4 → F (24 + g) = 999) ∧ ∀ s, s < 12 → F (28 + s) = if s < ns c r then nI W else 0
theorem new_drf {c r T E W : Nat} {F : Nat → Int32} {Z Mr : sg_M} (hs : shp c r) (hT : T ≤ 999) (hE : 1 ≤ E ∧ E ≤ 999) (hW : W ≤ 4) (z : newC c r T E W Z) (f : newR c r T E W F) (t : rTab (stp c r) Mr) (r19 : Mr.1 0 19 = 0) (r20 : Mr.1 0 20 = 0) : drf F (sg_uI Z 2 4 1) Mr := by
  obtain ⟨hc, hr⟩ := shp_le hs
  obtain ⟨⟨z0, z1, z2, z3, z4, z7, z8⟩, zG, zw, zl, zg, zb, z12⟩ := z
  obtain ⟨⟨f0, f1, f2, f3, f4, f5⟩, fl, fg, fb, fw⟩ := f
  have eC : gC F = c := by unfold gC; rw [f0, nI_clamp (by omega)]
  have eR : gR F = r := by unfold gR; rw [f1, nI_clamp (by omega)]
  have eT : gT F = T := by unfold gT; rw [f2, nI_clamp (by omega)]
  have eE : gE F = E := by unfold gE; rw [f3, nI_clamp (by omega)]
  have eL : ∀ v, v < 9 → gL F v = 0 := fun v hv => by unfold gL; rw [fl v hv]; rfl
  have eG : ∀ v, v < 9 → gG F v = 0 := fun v hv => by unfold gG; rw [fg v hv]; rfl
  have eB : ∀ g, g < 4 → gB F g = 999 := fun v hv => by unfold gB; rw [fb v hv]; rfl
  have eW : ∀ s, s < 12 → gW F s = if s < ns c r then W else 0 := fun s hs => by
    unfold gW; rw [fw s hs]
    by_cases q : s < ns c r
    · rw [if_pos q, if_pos q, nI_clamp (by omega)]
    · rw [if_neg q, if_neg q]; rfl
  have eS : gS F = ns c r := by unfold gS; rw [eC, eR]
  refine ⟨⟨by rw [eC, eR]; exact hs, ⟨by rw [eC, f0], by rw [eR, f1]⟩, ⟨⟨by rw [eT, f2], by rw [eT]; exact hT⟩, by rw [eE, f3], by rw [eE]; exact hE⟩, by rw [f4]; decide, fun v hv q => ?_, fun s hs2 => ?_, fun v hv => ?_, fun v hv => ?_, fun g hg => ?_⟩, ⟨⟨?_, ?_, ?_, ?_, ?_, ?_⟩, ?_, fun s hs2 => ?_, fun v hv => ?_, fun v hv => ?_, fun g hg => ?_⟩, ?_, ?_, ?_, fun v hv => ?_, fun v hv _ => fg v hv⟩
  · rw [f5, b_0] at q; cases q
  · rw [eW s hs2, fw s hs2, eS]
    by_cases q : s < ns c r
    · rw [if_pos q, if_pos q]; exact ⟨rfl, hW, fun n => absurd q (by omega)⟩
    · rw [if_neg q, if_neg q]; exact ⟨rfl, (by omega), fun _ => rfl⟩
  · rw [eL v hv, fl v hv]; exact ⟨rfl, (by omega), fun _ => rfl⟩
  · rw [eG v hv, fg v hv]; exact ⟨rfl, (by omega)⟩
  · rw [eB g hg, fb g hg]; exact ⟨rfl, (by omega)⟩
  · rw [uI_nb (by omega), z0, f0]
  · rw [uI_nb (by omega), z1, f1]
  · rw [uI_nb (by omega), z2, f2]
  · rw [uI_nb (by omega), z3, f3]
  · rw [uI_eq, f4]
  · rw [uI_nb (by omega), z7, f5]
  · rw [eC, eR]
    obtain ⟨k5, k6, kA, kB⟩ := zG
    exact ⟨by rw [uI_nb (by omega)]; exact k5, by rw [uI_nb (by omega)]; exact k6, fun s hs => by rw [uI_na (by omega)]; exact kA s hs, fun s hs => by rw [uI_na (by omega)]; exact kB s hs⟩
  · rw [uI_na (by omega), fw s hs2]; exact zw s hs2
  · rw [uI_na (by omega), fl v hv]; exact zl v hv
  · rw [uI_na (by omega), fg v hv]; exact zg v hv
  · rw [uI_na (by omega), fb g hg]; exact zb g hg
  · rw [uI_nb (by omega), z8]
  · rw [eC, eR]; exact t
  · rw [uI_na (by omega), z12, r19]
  · rw [r20, b_0, eL v hv]; rfl
def rF5 (N : Nat) (x11 : Int32) (M18 : sg_M) : Option sg_M := if sg_ib (0 : Int32) (Yr.2.2.1 (Yr.2.2.2 0 2)) = true then if sg_ib (1 : Int32) (Yr.2.2.1 (Yr.2.2.2 0 2)) = true then sg_bv (fX11_laysStraps N 0 (M18.1 (Yr.2.2.2 0 2) ((0 : Int32)).toNatClampNeg) (M18.1 (Yr.2.2.2 0 2) ((1 : Int32)).toNatClampNeg) M18) (fun M20 : sg_M => sg_m (0 : Int32) (fun x21 : Int32 => gX11_readFirst_158 N (0, x11, x21) M20)) else none else none
theorem rF5_ok {c r : Nat} {W : Int32} {M : sg_M} (hs : shp c r) (h0 : M.1 2 0 = nI c) (h1 : M.1 2 1 = nI r) (hN : 1000 ≤ N) : ok (rF5 N W M) (fun M1 => rTab (stp c r) M1 ∧ (∀ g, g < 4 → M1.1 2 (24 + g) = 999) ∧ (∀ s, s < ns c r → M1.1 2 (28 + s) = W) ∧ (∀ a k, a ≠ 6 → (a ≠ 0 ∨ k ≠ 8) → (a ≠ 2 ∨ k < 24 ∨ 28 + ns c r ≤ k) → M1.1 a k = M.1 a k) ∧ M1.2 = M.2) := by
  have h12 := ns_le hs
  have hl : (stp c r).length = ns c r := rfl
  unfold rF5
  rw [yr_2, yl_2, c_0, c_1, h0, h1]
  refine ok_t (by decide) (ok_t (by decide) (ok_bv (r_lays (N := N) (M := M) hs (by omega)) (fun M2 h2 => ok_m ?_)))
  obtain ⟨⟨t8, t6⟩, fJ, fI⟩ := h2
  unfold gX11_readFirst_158
  refine ok_for 0 (ns c r) (fun i s M1 => s = (0, W, nI i) ∧ (∀ s, s < i → M1.1 2 (28 + s) = W) ∧ (∀ a k, (a ≠ 2 ∨ k < 28 ∨ 28 + i ≤ k) → M1.1 a k = M2.1 a k) ∧ M1.2 = M.2) (by omega) (by omega) ⟨rfl, fun s z => absurd z (by omega), fun _ _ _ => rfl, fJ⟩ ?_ ?_
  · rintro i s M1 back hi ⟨rfl, w1, w2, w3⟩ hb
    unfold bX11_readFirst_158
    dsimp only
    rw [w2 0 8 (by omega), t8, hl, yr_2, yl_2, k_28, nI_clamp (show 28 + i < 2 ^ 31 by omega)]
    refine ok_f (nI_ge hi (by omega)) (ok_t (ib_nI (by omega) (by omega)) (ok_m (ok_m (hb _ _ ⟨by rw [nI_1], fun s hs => ?_, fun a k ha => ?_, w3⟩))))
    · by_cases e : s = i
      · subst e; rw [uI_eq]
      · rw [uI_nb (by omega)]; exact w1 s (by omega)
    · rw [uI_at, if_neg (by omega)]; exact w2 a k (by omega)
  · rintro s M1 back ⟨rfl, w1, w2, w3⟩
    unfold bX11_readFirst_158
    dsimp only
    rw [w2 0 8 (by omega), t8, hl]
    refine ok_t (nI_le (Nat.le_refl _) (by omega)) (ok_m ?_)
    unfold gX11_readFirst_184
    refine ok_for 0 4 (fun i s M3 => s = (0, nI i) ∧ (∀ g, g < i → M3.1 2 (24 + g) = 999) ∧ (∀ a k, (a ≠ 2 ∨ k < 24 ∨ 28 ≤ k) → M3.1 a k = M1.1 a k) ∧ M3.2 = M.2) (by omega) (by omega) ⟨rfl, fun s z => absurd z (by omega), fun _ _ _ => rfl, w3⟩ ?_ ?_
    · rintro i s M3 back2 hi ⟨rfl, v1, v2, v3⟩ hb
      unfold bX11_readFirst_184
      dsimp only
      rw [yr_2, yl_2, k_24, nI_clamp (show 24 + i < 2 ^ 31 by omega)]
      refine ok_f (show ¬ (4 : Int32) ≤ nI i from (show ¬ nI 4 ≤ nI i from nI_ge hi (by omega))) (ok_t (ib_nI (by omega) (by omega)) (ok_m (ok_m (hb _ _ ⟨by rw [nI_1], fun s hs => ?_, fun a k ha => ?_, v3⟩))))
      · by_cases e : s = i
        · subst e; rw [uI_eq]
        · rw [uI_nb (by omega)]; exact v1 s (by omega)
      · rw [uI_at, if_neg (by omega)]; exact v2 a k (by omega)
    · rintro s M3 back2 ⟨rfl, v1, v2, v3⟩
      unfold bX11_readFirst_184
      dsimp only
      refine ok_t (show (4 : Int32) ≤ nI 4 by decide) (ok_some ⟨⟨?_, fun s hs => ?_⟩, v1, fun s hs => ?_, fun a k h6 h8 h2 => ?_, v3⟩)
      · rw [v2 0 8 (by omega), w2 0 8 (by omega), t8]
      · rw [v2 6 _ (by omega), w2 6 _ (by omega), v2 6 _ (by omega), w2 6 _ (by omega)]; exact t6 s hs
      · rw [v2 2 _ (by omega)]; exact w1 s hs
      · rw [v2 a k (by omega), w2 a k (by omega), fI a k h6 h8]
end FR
