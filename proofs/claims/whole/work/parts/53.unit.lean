/-! as if 1 were drawn at a node alone -/
def uL (v : Nat) : Nat → Nat := fun u => if u = v then 1 else 0
theorem fs_pk {n k : Nat} {f : Nat → Int} (hk : k < n) (h : ∀ i, i < n → i ≠ k → f i = 0) : fs n f = f k := fs_one hk h
theorem xN_unit {c r : Nat} {w : Nat → Nat} {P : Int32} {u v : Nat} (hu : u < c * r) (hv : v < c * r) : xN c r w P (uL v) u = mv c r w P u v := by
  rw [xN_mv hu]
  by_cases h : unk c r w P v = true
  · obtain ⟨h1, h2⟩ := Ul_in hv h
    rw [fs_one h1 (fun i hi hne => ?_), h2]
    · unfold uL
      rw [if_pos rfl]
      exact Int.mul_one _
    · unfold uL
      rw [if_neg]
      · exact Int.mul_zero _
      · intro z
        exact hne (Ul_inj hi h1 (z.trans h2.symm))
  · have e : mv c r w P u v = 0 := by
      unfold mv
      rw [if_neg (fun z => h z.2)]
    rw [e]
    refine (fs_congr (fun q hq => ?_)).trans (fs_zero _)
    unfold uL
    rw [if_neg]
    · exact Int.mul_zero _
    · intro z
      exact h (z ▸ (Ul_at hq).2)
section UN
variable {N : Nat} {b : Nat → Int32}
theorem unit_ok {f v : Nat} {P : Int32} {M : sg_M} (hf : sg_K Yc f 1) (hfq : 17 < f) (h : vb b) (hN13 : cNet 13 b M) (hP : ∀ v, v < 32 → bt P v = true → v < gC b * gR b) (hv : v < gM b) (hN : 1000 ≤ N) : ok (fX1_settleUnit N f 13 P (nI v) M) (fun M1 => solved (gC b) (gR b) (gW b) P (uL v) f M1 ∧ fr f (f + 16) M M1) := by
  have hm := vb_m h
  have hn := vb_n h
  unfold fX1_settleUnit
  rw [rc1_8 hf, lc1_8 hf, y13_11, nI_clamp (show v < 2 ^ 31 by omega)]
  refine ok_bv (fillI_ok (N := N) (a := f + 15) (x := 0) (by rw [lc1_8 hf]; omega) hN) (fun M1 h1 => ?_)
  rw [lc1_8 hf] at h1
  obtain ⟨a1, a2, a3⟩ := h1
  have nt : ∀ a k, a ≠ f + 15 → (sg_uI M1 (f + 15) v 1).1 a k = M.1 a k := fun a k ha => by rw [uI_na ha, a3 a k ha]
  have hc1 : cNet 13 b (sg_uI M1 (f + 15) v 1) := cNet_c hN13 (fun a k q1 q2 _ => nt a k (by omega))
  refine ok_t (ib_nI (by omega) (by omega)) (ok_m (ok_bv (settle_ok (N := N) (c := gC b) (r := gR b) (w := gW b) (P := P) (L := uL v) hf (show sg_K Yc 13 4 from ⟨by decide, by decide⟩) h.1 (vb_W h) hP (fun u hu => by unfold uL; split <;> omega) (by omega) (by omega) yn_16 (by omega) (lc1_8 hf) (cNet_G hc1) (fun s hs => ?_) (fun u hu => ?_) hN) (fun M2 h2 => ok_some ⟨h2.1, fun a k ha => ⟨?_, ?_⟩⟩)))
  · have hs : s < gS b := hs
    exact (hc1.2.2.1 s (by omega)).trans (vb_w h (by omega))
  · have hu : u < gM b := hu
    unfold uL
    by_cases e : u = v
    · subst e; rw [uI_eq, if_pos rfl]; rfl
    · rw [uI_nb e, a2 u (by omega), if_neg e]; rfl
  · rw [h2.2.1 a k (by omega), nt a k (by omega)]
  · rw [h2.2.2 a k (by omega)]
    show M1.2 a k = _
    rw [a1]
theorem mvb (h : vb b) {u v : Nat} (hu : u < gM b) (hv : v < gM b) : 0 ≤ bV2 b u v ∧ bV2 b u v ≤ 21233664 := mv_b h.1 (vb_W h) (vb_P h) hu hv
theorem un_x {f u v : Nat} {P : Int32} {M : sg_M} (h : vb b) (hS : solved (gC b) (gR b) (gW b) P (uL v) f M) (hu : u < gM b) (hv : v < gM b) : M.2 (f + 1) u = lI (mv (gC b) (gR b) (gW b) P u v) := by
  have hm := vb_m h
  rw [hS.2.2.1 u (by omega), if_pos (show u < gC b * gR b from hu), xN_unit hu hv]
theorem fr71 {M M1 : sg_M} (h : cI b M) (hf : fr 71 87 M M1) : cI b M1 ∧ low M M1 := ⟨cI_tr h (fun a k h1 _ => hf a k (by omega)), fun a k h1 _ => (hf a k (by omega)).1⟩
theorem q_moves {x y z : Int32} (hN : 1000 ≤ N) : bth b (fX10_moves N 0 x y z) (fX11_moves N 0 x y z) := by
  intro Mc Mr hc hr
  have h := hc.1
  have hm := vb_m h
  have hd := bD_b h
  unfold fX10_moves fX11_moves
  rw [c_hn hc, r_nod h hr, e_b, e_b]
  by_cases hx : sg_ib x (gM b) = true
  case neg => simp only [if_neg hx, if_pos q0]; exact ⟨-2, ⟨_, rfl, hc, low_refl⟩, ⟨_, rfl, rEq_refl⟩⟩
  simp only [if_pos hx, if_neg q1]
  rw [c_hn hc, r_nod h hr, e_b, e_b]
  by_cases hy : sg_ib y (gM b) = true
  case neg => simp only [if_neg hy, if_pos q0]; exact ⟨-2, ⟨_, rfl, hc, low_refl⟩, ⟨_, rfl, rEq_refl⟩⟩
  simp only [if_pos hy, if_neg q1]
  rw [c_isPart, r_isPart, e_b, e_b]
  by_cases hz : sg_ib z 2 = true
  case neg => simp only [if_neg hz, if_pos q0]; exact ⟨-2, ⟨_, rfl, hc, low_refl⟩, ⟨_, rfl, rEq_refl⟩⟩
  simp only [if_pos hz, if_neg q1]
  obtain ⟨u, hu, rfl⟩ := ib_ex hx
  obtain ⟨v, hv, rfl⟩ := ib_ex hy
  obtain ⟨M1, e1, S1, F1⟩ := r_lay (N := N) h hr hN
  obtain ⟨M2, e2, c2, s2, f2⟩ := now_ok (N := N) hc hN
  obtain ⟨M3, e3, c3, s3, f3⟩ := now_ok (N := N) c2 hN
  rw [e1, e2, e_b, e_bv, c_dd s2 (show u < 32 by omega), r_dd S1 (show u < 32 by omega), e_b, e_b, e3, e_b, c_dd s3 (show v < 32 by omega), r_dd S1 (show v < 32 by omega), e_b, e_b]
  unfold gX11_moves_47
  by_cases d1 : bt (bQ b) u = true
  · simp only [if_pos d1, if_neg q1]
    exact ⟨_, ⟨_, rfl, c2, nowF_low f2⟩, ⟨_, rfl, rsF_rEq F1⟩⟩
  simp only [if_neg d1, if_pos q0]
  by_cases d2 : bt (bQ b) v = true
  · simp only [if_pos d2, if_neg q1]
    exact ⟨_, ⟨_, rfl, c3, low_tr (nowF_low f2) (nowF_low f3)⟩, ⟨_, rfl, rsF_rEq F1⟩⟩
  simp only [if_neg d2, if_pos q0, if_true]
  rw [y0_6, y0_1, y71_2, yn_72, nI_clamp (show u < 2 ^ 31 by omega), cf7 c3, r_mov h S1 hu hv, e_b, r_whole S1]
  obtain ⟨M4, e4, S4, F4⟩ := unit_ok (N := N) K71 (by omega) h (cI_N c3) (vb_P h) hv hN
  obtain ⟨c4, l4⟩ := fr71 c3 F4
  have hb := mvb h hu hv
  rw [e4, e_bv, if_pos (ib_nI (by omega) (by omega)), show M4.2 72 u = lI (bV2 b u v) from un_x h S4 hu hv, show M4.2 71 1 = lI (bD b) from S4.2.1, c_part (by omega) (by omega) (by omega), r_part (by omega) (by omega) (by omega)]
  exact ⟨_, ⟨_, rfl, c4, low_tr (low_tr (nowF_low f2) (nowF_low f3)) l4⟩, ⟨_, rfl, rsF_rEq F1⟩⟩
theorem bi_P {v n : Nat} (hv : v < n) (hn : n ≤ 32) : ∀ u, u < 32 → bt (bi v) u = true → u < n := fun u hu z => by
  rw [bt_bi (by omega) hu] at z
  have := of_decide_eq_true z
  omega
theorem q_resists {x y z : Int32} (hN : 1000 ≤ N) : bth b (fX10_resists N 0 x y z) (fX11_resists N 0 x y z) := by
  intro Mc Mr hc hr
  have h := hc.1
  have hm := vb_m h
  have hn := vb_n h
  unfold fX10_resists fX11_resists
  rw [c_hn hc, r_nod h hr, e_b, e_b]
  by_cases hx : sg_ib x (gM b) = true
  case neg => simp only [if_neg hx, if_pos q0]; exact ⟨-2, ⟨_, rfl, hc, low_refl⟩, ⟨_, rfl, rEq_refl⟩⟩
  simp only [if_pos hx, if_neg q1]
  rw [c_hn hc, r_nod h hr, e_b, e_b]
  by_cases hy : sg_ib y (gM b) = true
  case neg => simp only [if_neg hy, if_pos q0]; exact ⟨-2, ⟨_, rfl, hc, low_refl⟩, ⟨_, rfl, rEq_refl⟩⟩
  simp only [if_pos hy, if_neg q1]
  rw [c_isPart, r_isPart, e_b, e_b]
  by_cases hz : sg_ib z 2 = true
  case neg => simp only [if_neg hz, if_pos q0]; exact ⟨-2, ⟨_, rfl, hc, low_refl⟩, ⟨_, rfl, rEq_refl⟩⟩
  simp only [if_pos hz, if_neg q1]
  obtain ⟨u, hu, rfl⟩ := ib_ex hx
  obtain ⟨v, hv, rfl⟩ := ib_ex hy
  have hP : ∀ v, v < 32 → bt (bi u) v = true → v < gC b * gR b := bi_P hu (by have := h.1.2.2; omega)
  obtain ⟨M1, e1, S1, F1⟩ := solves_ok (N := N) (c := gC b) (r := gR b) (w := gW b) (P := bi u) (M := Mr) h.1 (vb_W h) hP (by rw [hr]; exact vb_0 h) (by rw [hr]; exact vb_1 h) (by rw [hr]; exact vb_4 h) (fun s hs => by rw [hr]; exact vb_w h (by have : s < gS b := hs; omega)) hN
  obtain ⟨M4, e4, S4, F4⟩ := unit_ok (N := N) (P := bi u) K71 (by omega) h (cI_N hc) hP hv hN
  obtain ⟨c4, l4⟩ := fr71 hc F4
  rw [y0_6, y0_1, y71_2, yn_72, nI_clamp (show v < 2 ^ 31 by omega)]
  show ∃ A, okA (sg_bv (fX1_settleUnit N 71 13 (bi u) (nI v) Mc) _) A _ ∧ okA (sg_bv (fX11_solves N 0 (bi u) Mr) _) A _
  rw [e4, e1, e_bv, e_bv, c_isDead (show v < 32 by omega), r_isDead (show v < 32 by omega), show M4.1 71 0 = _ from S4.1, S1.1, e_b, e_b]
  by_cases d1 : bt (dead (gC b) (gR b) (gW b) (bi u)) v = true
  · simp only [if_pos d1, if_neg q1]
    exact ⟨_, ⟨_, rfl, c4, l4⟩, ⟨_, rfl, rsF_rEq F1⟩⟩
  simp only [if_neg d1, if_pos q0, if_true]
  have hb := mv_b h.1 (vb_W h) hP hv hv
  have hd1 := dD_pos (w := gW b) (P := bi u) h.1
  have hd2 := dD_le h.1 (vb_W h) hP
  rw [if_pos (ib_nI (by omega) (by omega)), show M4.2 72 v = _ from un_x h S4 hv hv, show M4.2 71 1 = _ from S4.2.1, moves_ok h.1 S1 hv hv, e_b, S1.2.2.2.1, c_part (by omega) (by omega) (by omega), r_part (by omega) (by omega) (by omega)]
  exact ⟨_, ⟨_, rfl, c4, l4⟩, ⟨_, rfl, rsF_rEq F1⟩⟩
end UN
