/-! the reference's draws, mostOf -/
section RD
variable {N : Nat} {b : Nat → Int32}
def rowA (l : List Nat) (M : sg_M) : Prop := ∀ j, j < l.length → M.1 12 j = nI (l.getD j 0)
theorem getD_app {l l2 : List Nat} {j : Nat} : (l ++ l2).getD j 0 = if j < l.length then l.getD j 0 else l2.getD (j - l.length) 0 := by
  by_cases h : j < l.length
  · rw [if_pos h]; exact getD_app0 h
  · rw [if_neg h, List.getD_eq_getElem?_getD, List.getElem?_append_right (by omega), ← List.getD_eq_getElem?_getD]
theorem getD_take {l : List Nat} {k j : Nat} (h : j < k) : (l.take k).getD j 0 = l.getD j 0 := by
  rw [List.getD_eq_getElem?_getD, List.getD_eq_getElem?_getD, List.getElem?_take, if_pos h]
theorem getD_drop {l : List Nat} {k j : Nat} : (l.drop k).getD j 0 = l.getD (k + j) 0 := by
  rw [List.getD_eq_getElem?_getD, List.getD_eq_getElem?_getD, List.getElem?_drop]
set_option maxHeartbeats 1000000 in
theorem draws_ok {u : Nat} {M : sg_M} (h : vb b) (hM : rS b M) (hu : u < gM b) (hN : 1000 ≤ N) : ok (fX11_draws N 0 (nI u) M) (fun M1 => (∀ g, g < 4 → M1.1 14 g = nI ((drs b (ol b u)).1 g)) ∧ (∀ v, v < gM b → M1.1 13 v = nI ((drs b (ol b u)).2 v)) ∧ rdF M M1) := by
  have hm := vb_m h
  have nm1 : ∀ k, 1 ≤ k → k < 100 → nI k - 1 = nI (k - 1) := fun k h1 _ => nI_dec h1
  unfold fX11_draws
  refine ok_m (ok_m ?_)
  unfold gX11_draws_4
  refine ok_for 0 (gM b) (fun i s M1 => s = (0, nI u, nI (orS (mo b u) (aliv b) i).length, nI i) ∧ rdF M M1 ∧ rowA (orS (mo b u) (aliv b) i) M1 ∧ ∀ v, v < i → M1.1 13 v = 0) (by omega) (by omega) ⟨rfl, ⟨fun _ _ _ _ _ => rfl, rfl⟩, fun j hj => absurd hj (by show ¬ j < 0; omega), fun v hv => absurd hv (by omega)⟩ ?_ ?_
  · rintro i s M1 back hi ⟨rfl, hF, hA, hZ⟩ hb
    have S1 := rS_rd hM hF
    have ll := orS_len (m := mo b u) (al := aliv b) i
    obtain ⟨ls, lm⟩ := orS_s (m := mo b u) (al := aliv b) i
    generalize hl : orS (mo b u) (aliv b) i = l at *
    unfold bX11_draws_4
    dsimp only
    rw [r_nd h S1.2, e_b, yr_28, yl_13, nI_clamp (show i < 2 ^ 31 by omega)]
    refine ok_f (nI_ge hi (by omega)) (ok_t (ib_nI (by omega) (by omega)) (ok_m ?_))
    have F2 : rdF M (sg_uI M1 13 i 0) := ⟨fun a k h1 h2 h3 => by rw [uI_na h2]; exact hF.1 a k h1 h2 h3, hF.2⟩
    have S2 := rS_rd hM F2
    have Z2 : ∀ v, v < i + 1 → (sg_uI M1 13 i 0).1 13 v = 0 := fun v hv => by
      by_cases e : v = i
      · subst e; exact uI_eq
      · rw [uI_nb e]; exact hZ v (by omega)
    have A2 : rowA l (sg_uI M1 13 i 0) := fun j hj => by rw [uI_na (by omega)]; exact hA j hj
    rw [r_dd S2 (show i < 32 by omega), e_b]
    refine ok_if (fun z => ?_) (fun z => ?_)
    · have z : aliv b i = true := by
        unfold aliv
        cases q : bt (bQ b) i with
        | false => rfl
        | true => rw [if_pos q] at z; exact absurd z q1
      have hni : i ∉ l := fun q => by have := ((lm i).mp q).1; omega
      refine ok_m ?_
      unfold gX11_draws_33
      refine ok_lp (fun n s M3 => ∃ k, k ≤ l.length ∧ n = k ∧ s = (0, nI u, nI l.length, nI i, nI k) ∧ rdF M M3 ∧ (∀ v, v < i + 1 → M3.1 13 v = 0) ∧ (∀ j, j < k → M3.1 12 j = nI (l.getD j 0)) ∧ (∀ j, k ≤ j → j < l.length → M3.1 12 (j + 1) = nI (l.getD j 0)) ∧ ∀ j, k ≤ j → j < l.length → ahd (mo b u) i (l.getD j 0)) ?_ N l.length _ _ ⟨l.length, by omega, rfl, rfl, F2, Z2, fun j hj => A2 j hj, fun j h1 h2 => absurd h2 (by omega), fun j h1 h2 => absurd h2 (by omega)⟩ (by omega)
      rintro n s M3 back2 ⟨k, hk, rfl, rfl, F3, Z3, C3, D3, H3⟩ hb2
      have S3 := rS_rd hM F3
      have put : (n = 0 ∨ ¬ ahd (mo b u) i (l.getD (n - 1) 0)) → ok (gX11_draws_78 N back 0 (nI u) (nI l.length) (nI i) (nI n) M3) (fun M1 => (∀ g, g < 4 → M1.1 14 g = nI ((drs b (ol b u)).1 g)) ∧ (∀ v, v < gM b → M1.1 13 v = nI ((drs b (ol b u)).2 v)) ∧ rdF M M1) := fun hor => by
        have sn := srt_ins ls hk hni H3 hor
        have en : orS (mo b u) (aliv b) (i + 1) = l.take n ++ i :: l.drop n := by
          refine srt_u (orS_s (i + 1)).1 sn (fun x => ?_)
          rw [(orS_s (i + 1)).2 x, List.mem_append, List.mem_cons]
          have hx := lm x
          have ht : x ∈ l ↔ x ∈ l.take n ∨ x ∈ l.drop n := by
            rw [← List.mem_append, List.take_append_drop]
          constructor
          · intro q
            by_cases e : x = i
            · exact Or.inr (Or.inl e)
            · rcases ht.mp (hx.mpr ⟨by omega, q.2⟩) with y | y
              · exact Or.inl y
              · exact Or.inr (Or.inr y)
          · rintro (q | q | q)
            · have := hx.mp (ht.mpr (Or.inl q))
              exact ⟨by omega, this.2⟩
            · subst q; exact ⟨by omega, z⟩
            · have := hx.mp (ht.mpr (Or.inr q))
              exact ⟨by omega, this.2⟩
        have tl : (l.take n).length = n := by rw [List.length_take]; omega
        have el : (l.take n ++ i :: l.drop n).length = l.length + 1 := by
          rw [List.length_append, List.length_cons, tl, List.length_drop]; omega
        unfold gX11_draws_78
        rw [yr_27, yl_12, nI_clamp (show n < 2 ^ 31 by omega)]
        refine ok_t (ib_nI (by omega) (by omega)) (ok_m (ok_m (ok_m (hb _ _ ⟨by rw [en, el, nI_1, nI_1], ⟨fun a k h1 h2 h3 => by rw [uI_na h1]; exact F3.1 a k h1 h2 h3, F3.2⟩, fun j hj => ?_, fun v hv => by rw [uI_na (by omega)]; exact Z3 v hv⟩))))
        rw [en, el] at hj
        rw [en, getD_app, tl]
        by_cases e1 : j < n
        · rw [if_pos e1, uI_nb (by omega), C3 j e1, getD_take e1]
        · rw [if_neg e1]
          by_cases e2 : j = n
          · subst e2
            rw [uI_eq, Nat.sub_self]
            rfl
          · rw [uI_nb e2]
            have := D3 (j - 1) (by omega) (by omega)
            rw [show j - 1 + 1 = j by omega] at this
            rw [this, show j - n = (j - n - 1) + 1 by omega]
            show _ = nI ((l.drop n).getD (j - n - 1) 0)
            rw [getD_drop, show n + (j - n - 1) = j - 1 by omega]
      unfold bX11_draws_33
      dsimp only
      refine ok_if (fun y => ?_) (fun y => ?_)
      · exact put (Or.inl ((nI_le0 (by omega)).mp y))
      · have y : n ≠ 0 := fun q => y ((nI_le0 (by omega)).mpr q)
        rw [nm1 n (by omega) (by omega), yr_27, yl_12, nI_clamp (show n - 1 < 2 ^ 31 by omega), nI_clamp (show n < 2 ^ 31 by omega), C3 (n - 1) (by omega)]
        have hp : l.getD (n - 1) 0 < gM b := by have := ((lm _).mp (getD_mem (show n - 1 < l.length by omega))).1; omega
        obtain ⟨a1, a2⟩ := r_ahd (N := N) (v := i) (x := l.getD (n - 1) 0) h S3 hu hi hp
        refine ok_t (ib_nI (by omega) (by omega)) ?_
        by_cases q : ahd (mo b u) i (l.getD (n - 1) 0)
        · rw [a1 q]
          refine ok_bs (ok_f q1 (ok_t (ib_nI (by omega) (by omega)) (ok_t (ib_nI (by omega) (by omega)) (ok_m (ok_m ?_)))))
          rw [C3 (n - 1) (by omega), show nI n + -1 = nI (n - 1) by rw [← nm1 n (by omega) (by omega), Int32.sub_eq_add_neg]]
          refine hb2 (n - 1) _ _ (by omega) ⟨n - 1, (by omega), rfl, rfl, ⟨fun a k h1 h2 h3 => by rw [uI_na h1]; exact F3.1 a k h1 h2 h3, F3.2⟩, fun v hv => by rw [uI_na (by omega)]; exact Z3 v hv, fun j hj => by rw [uI_nb (by omega)]; exact C3 j (by omega), fun j h1 h2 => ?_, fun j h1 h2 => ?_⟩
          · by_cases e : j = n - 1
            · subst e
              rw [show n - 1 + 1 = n by omega, uI_eq]
            · rw [uI_nb (by omega)]; exact D3 j (by omega) h2
          · by_cases e : j = n - 1
            · rw [e]; exact q
            · exact H3 j (by omega) h2
        · rw [a2 q]
          exact ok_bs (ok_t rfl (put (Or.inr q)))
    · have z : ¬ aliv b i = true := by
        unfold aliv
        intro q
        rw [if_neg (by simpa using q)] at z
        exact z rfl
      have en : orS (mo b u) (aliv b) (i + 1) = l := by
        show (if _ then _ else _) = _
        rw [if_neg z, hl]
      exact ok_m (hb _ _ ⟨by rw [en, nI_1], F2, by rw [en]; exact A2, Z2⟩)
  · rintro s M1 back ⟨rfl, hF, hA, hZ⟩
    have S1 := rS_rd hM hF
    have L9 : (ol b u).length ≤ gM b := orS_len _
    unfold bX11_draws_4
    dsimp only
    rw [r_nd h S1.2, e_b]
    refine ok_t (nI_le (Nat.le_refl _) (by omega)) (ok_m ?_)
    show ok (gX11_draws_97 N (0, nI (ol b u).length, nI 0) M1) _
    unfold gX11_draws_97
    refine ok_for 0 4 (fun i s M2 => s = (0, nI (ol b u).length, nI i) ∧ rdF M M2 ∧ rowA (ol b u) M2 ∧ (∀ v, v < gM b → M2.1 13 v = 0) ∧ ∀ g, g < i → M2.1 14 g = nI (gB b g)) (by omega) (by omega) ⟨rfl, hF, hA, hZ, fun g hg => absurd hg (by omega)⟩ ?_ ?_
    · rintro i s M2 back2 hi ⟨rfl, F2, A2, Z2, B2⟩ hb
      have S2 := rS_rd hM F2
      unfold bX11_draws_97
      dsimp only
      rw [yr_1, yr_29, yl_1, yl_14, k_24, nI_clamp (show i < 2 ^ 31 by omega), nI_clamp (show 24 + i < 2 ^ 31 by omega), S2.2, vb_b h hi]
      refine ok_f (show ¬ nI 4 ≤ nI i from nI_ge hi (by omega)) (ok_t (ib_nI (by omega) (by omega)) (ok_t (ib_nI (by omega) (by omega)) (ok_m (ok_m (hb _ _ ⟨by rw [nI_1], ⟨fun a k h1 h2 h3 => by rw [uI_na h3]; exact F2.1 a k h1 h2 h3, F2.2⟩, fun j hj => by rw [uI_na (by omega)]; exact A2 j hj, fun v hv => by rw [uI_na (by omega)]; exact Z2 v hv, fun g hg => ?_⟩)))))
      by_cases e : g = i
      · subst e; exact uI_eq
      · rw [uI_nb e]; exact B2 g (by omega)
    · rintro s M2 back2 ⟨rfl, F2, A2, Z2, B2⟩
      unfold bX11_draws_97
      dsimp only
      refine ok_t (by decide) (ok_m ?_)
      show ok (gX11_draws_125 N (0, nI (ol b u).length, nI 0) M2) _
      unfold gX11_draws_125
      refine ok_for 0 (ol b u).length (fun t s M3 => s = (0, nI (ol b u).length, nI t) ∧ rdF M M3 ∧ rowA (ol b u) M3 ∧ (∀ v, v < gM b → M3.1 13 v = nI ((drs b ((ol b u).take t)).2 v)) ∧ ∀ g, g < 4 → M3.1 14 g = nI ((drs b ((ol b u).take t)).1 g)) (by omega) (by omega) ⟨rfl, F2, A2, fun v hv => by rw [Z2 v hv]; rfl, B2⟩ ?_ ?_
      · rintro t s M3 back3 ht ⟨rfl, F3, A3, D3, B3⟩ hb
        have S3 := rS_rd hM F3
        have ml := getD_mem ht
        have hv := (ol_m.mp ml).1
        generalize hvv : (ol b u).getD t 0 = v at *
        obtain ⟨b1, b2⟩ := drs_b h ((ol b u).take t) (take_9 h)
        have g4 := vb_g4 h (show v < 9 by omega)
        have l99 := vb_l99 h (show v < 9 by omega)
        have l0 := b1 0 (by omega)
        have lg := b1 (gG b v) g4
        have am : amt b (drs b ((ol b u).take t)).1 v ≤ gL b v ∧ amt b (drs b ((ol b u).take t)).1 v ≤ (drs b ((ol b u).take t)).1 0 ∧ amt b (drs b ((ol b u).take t)).1 v ≤ (drs b ((ol b u).take t)).1 (gG b v) := ⟨Nat.min_le_left _ _, Nat.le_trans (Nat.min_le_right _ _) (Nat.min_le_left _ _), Nat.le_trans (Nat.min_le_right _ _) (Nat.min_le_right _ _)⟩
        have eT : (ol b u).take (t + 1) = (ol b u).take t ++ [v] := by rw [take_s ht, hvv]
        unfold bX11_draws_125
        dsimp only
        rw [yr_27, yl_12, yr_1, yl_1, yr_28, yl_13, yr_29, yl_14, nI_clamp (show t < 2 ^ 31 by omega), A3 t ht, hvv, e_m, e_m, k_15, k_6, nI_clamp (show 15 + v < 2 ^ 31 by omega), nI_clamp (show 6 + v < 2 ^ 31 by omega), nI_clamp (show v < 2 ^ 31 by omega), S3.2, vb_g h (by omega), vb_l h (by omega), nI_clamp (show gG b v < 2 ^ 31 by omega), c_0, B3 0 (by omega), B3 _ g4, nI_min (by omega) (by omega), nI_min (by have := Nat.min_le_left ((drs b ((ol b u).take t)).1 0) ((drs b ((ol b u).take t)).1 (gG b v)); omega) (by omega)]
        refine ok_f (nI_ge ht (by omega)) (ok_t (ib_nI (by omega) (by omega)) (ok_t (ib_nI (by omega) (by omega)) (ok_t (ib_nI (by omega) (by omega)) (ok_t (by decide) (ok_t (ib_nI (by omega) (by omega)) (ok_m (ok_t (ib_nI (by omega) (by omega)) (ok_m (ok_t (by decide) (ok_t (by decide) (ok_m ?_)))))))))))
        show ok (if nI (gG b v) ≤ 0 then _ else _) _
        have eam : nI (min (gL b v) (min ((drs b ((ol b u).take t)).1 0) ((drs b ((ol b u).take t)).1 (gG b v)))) = nI (amt b (drs b ((ol b u).take t)).1 v) := rfl
        rw [eam, uI_na (a := 14) (by omega), B3 0 (by omega), nI_sub am.2.1]
        generalize hM5 : sg_uI (sg_uI M3 13 v (nI (amt b (drs b ((ol b u).take t)).1 v))) 14 0 (nI ((drs b ((ol b u).take t)).1 0 - amt b (drs b ((ol b u).take t)).1 v)) = M5
        have F5 : rdF M M5 := by
          rw [← hM5]
          exact ⟨fun a k h1 h2 h3 => by rw [uI_na h3, uI_na h2]; exact F3.1 a k h1 h2 h3, F3.2⟩
        have A5 : rowA (ol b u) M5 := fun j hj => by rw [← hM5, uI_na (by omega), uI_na (by omega)]; exact A3 j hj
        have D5 : ∀ x, x < gM b → M5.1 13 x = nI ((drs b ((ol b u).take (t + 1))).2 x) := fun x hx => by
          rw [← hM5, uI_na (by omega), eT, drs_app, dst_2]
          by_cases e : x = v
          · subst e; rw [uI_eq, if_pos rfl]
          · rw [uI_nb e, if_neg e]; exact D3 x hx
        have Z5 : M5.1 14 0 = nI ((drs b ((ol b u).take (t + 1))).1 0) := by
          rw [← hM5, uI_eq, eT, drs_app, dst_1, if_pos (Or.inl rfl)]
        have O5 : ∀ g, g < 4 → g ≠ 0 → M5.1 14 g = nI ((drs b ((ol b u).take t)).1 g) := fun g hg hne => by
          rw [← hM5, uI_nb hne, uI_na (by omega)]; exact B3 g hg
        refine ok_if (fun z => ?_) (fun z => ?_)
        · have z := (nI_le0 (by omega)).mp z
          refine ok_m (hb _ _ ⟨by rw [nI_1], F5, A5, D5, fun g hg => ?_⟩)
          by_cases e : g = 0
          · subst e; exact Z5
          · rw [O5 g hg e, eT, drs_app, dst_1, if_neg (by omega)]
        · have z : gG b v ≠ 0 := fun q => z ((nI_le0 (by omega)).mpr q)
          rw [O5 _ g4 z, nI_sub am.2.2]
          refine ok_t (ib_nI (by omega) (by omega)) (ok_t (ib_nI (by omega) (by omega)) (ok_m (ok_m (hb _ _ ⟨by rw [nI_1], ⟨fun a k h1 h2 h3 => by rw [uI_na h3]; exact F5.1 a k h1 h2 h3, F5.2⟩, fun j hj => by rw [uI_na (by omega)]; exact A5 j hj, fun x hx => by rw [uI_na (by omega)]; exact D5 x hx, fun g hg => ?_⟩))))
          by_cases e : g = gG b v
          · subst e
            rw [uI_eq, eT, drs_app, dst_1, if_pos (Or.inr rfl)]
          · rw [uI_nb e]
            by_cases e0 : g = 0
            · subst e0; exact Z5
            · rw [O5 g hg e0, eT, drs_app, dst_1, if_neg (by omega)]
      · rintro s M3 back3 ⟨rfl, F3, A3, D3, B3⟩
        unfold bX11_draws_125
        dsimp only
        rw [List.take_length] at D3 B3
        exact ok_t (nI_le (Nat.le_refl _) (by omega)) (ok_some ⟨B3, D3, F3⟩)
theorem mostOf_ok {u : Nat} {M : sg_M} (h : vb b) (hM : rS b M) (hu : u < gM b) (hN : 1000 ≤ N) : okA (fX11_mostOf N 0 (nI u) M) (lI (mst b u)) (fun M1 => rdF M M1) := by
  have hm := vb_m h
  apply okA_of
  unfold fX11_mostOf
  refine ok_bv (draws_ok (N := N) h hM hu hN) (fun M1 h1 => ok_m (ok_m ?_))
  obtain ⟨-, D1, F1⟩ := h1
  have S1 := rS_rd hM F1
  unfold gX11_mostOf_10
  refine ok_for 0 (gM b) (fun i s M2 => s = (0, nI u, lI (fs i (msT b u (ol b u))), nI i) ∧ M1 = M2) (by omega) (by omega) ⟨rfl, rfl⟩ ?_ ?_
  · rintro i s M2 back hi ⟨rfl, rfl⟩ hb
    have := ((drs_b h (ol b u) (ol_9 h)).2 i).1
    unfold bX11_mostOf_10
    dsimp only
    rw [r_nd h S1.2, e_b, r_mov h S1 hu hi, e_b, yr_28, yl_13, nI_clamp (show i < 2 ^ 31 by omega), D1 i hi, lI_nI (by omega), lI_mul, lI_add, nI_1]
    exact ok_f (nI_ge hi (by omega)) (ok_t (ib_nI (by omega) (by omega)) (ok_m (ok_m (hb _ _ ⟨rfl, rfl⟩))))
  · rintro s M2 back ⟨rfl, rfl⟩
    unfold bX11_mostOf_10
    dsimp only
    rw [r_nd h S1.2, e_b]
    exact ok_t (nI_le (Nat.le_refl _) (by omega)) (ok_some ⟨rfl, F1⟩)
end RD
