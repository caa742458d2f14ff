/-! numbers of the unknown nodes -/
def Ul (unk : Nat → Bool) (v : Nat) : List Nat := (List.range v).filter unk
theorem Ul_succ (unk : Nat → Bool) (v : Nat) : Ul unk (v + 1) = Ul unk v ++ (if unk v = true then [v] else []) := by
  unfold Ul
  rw [List.range_succ, List.filter_append]
  congr 1
  by_cases h : unk v = true
  · rw [if_pos h, List.filter_cons_of_pos h]; rfl
  · rw [if_neg h, List.filter_cons_of_neg h]; rfl
theorem Ul_len (unk : Nat → Bool) (v : Nat) : (Ul unk v).length ≤ v := by
  have := List.length_filter_le unk (List.range v)
  rw [List.length_range] at this
  exact this
theorem Ul_in {unk : Nat → Bool} {v u : Nat} (h : u < v) (hu : unk u = true) : (Ul unk u).length < (Ul unk v).length ∧ (Ul unk v).getD (Ul unk u).length 0 = u := by
  induction v with
  | zero => omega
  | succ v ih =>
    rw [Ul_succ]
    by_cases e : u = v
    · subst e
      rw [if_pos hu]
      exact ⟨by simp, getD_app1⟩
    · have := ih (by omega)
      exact ⟨by rw [List.length_append]; omega, by rw [getD_app0 this.1]; exact this.2⟩
theorem Ul_at {unk : Nat → Bool} {v i : Nat} (h : i < (Ul unk v).length) : (Ul unk v).getD i 0 < v ∧ unk ((Ul unk v).getD i 0) = true := by
  have hm : (Ul unk v).getD i 0 ∈ Ul unk v := by
    rw [List.getD_eq_getElem?_getD, List.getElem?_eq_getElem h]
    exact List.getElem_mem h
  unfold Ul at hm ⊢
  rw [List.mem_filter, List.mem_range] at hm
  exact hm
theorem Ul_ix {unk : Nat → Bool} {v i : Nat} (h : i < (Ul unk v).length) : (Ul unk ((Ul unk v).getD i 0)).length = i := by
  induction v with
  | zero => simp [Ul] at h
  | succ v ih =>
    rw [Ul_succ] at h ⊢
    by_cases e : i < (Ul unk v).length
    · rw [getD_app0 e]; exact ih e
    · by_cases q : unk v = true
      · rw [if_pos q] at h ⊢
        rw [List.length_append] at h
        simp only [List.length_cons, List.length_nil] at h
        obtain rfl : i = (Ul unk v).length := by omega
        rw [getD_app1]
      · rw [if_neg q, List.append_nil] at h
        omega
def numP (unk : Nat → Bool) (v : Nat) (sz : Int32) (nr rn : Nat → Int32) : Prop := sz = nI (Ul unk v).length ∧ (∀ i, i < (Ul unk v).length → nr i = nI ((Ul unk v).getD i 0)) ∧ ∀ u, u < v → rn u = if unk u = true then nI (Ul unk u).length else -1
theorem numP_no {unk : Nat → Bool} {v : Nat} {sz : Int32} {nr rn rn1 : Nat → Int32} (h : numP unk v sz nr rn) (hu : unk v = false) (h1 : rn1 v = -1) (h2 : ∀ u, u ≠ v → rn1 u = rn u) : numP unk (v + 1) sz nr rn1 := by
  obtain ⟨a, b, d⟩ := h
  have e : Ul unk (v + 1) = Ul unk v := by rw [Ul_succ, hu, if_neg (by decide), List.append_nil]
  refine ⟨by rw [e]; exact a, by rw [e]; exact b, fun u hl => ?_⟩
  by_cases q : u = v
  · subst q; rw [h1, hu, if_neg (by decide)]
  · rw [h2 u q]; exact d u (by omega)
theorem numP_yes {unk : Nat → Bool} {v : Nat} {sz sz1 : Int32} {nr rn nr1 rn1 : Nat → Int32} (h : numP unk v sz nr rn) (hu : unk v = true) (h0 : sz1 = nI ((Ul unk v).length + 1)) (h1 : rn1 v = nI (Ul unk v).length) (h2 : ∀ u, u ≠ v → rn1 u = rn u) (h3 : nr1 (Ul unk v).length = nI v) (h4 : ∀ i, i ≠ (Ul unk v).length → nr1 i = nr i) : numP unk (v + 1) sz1 nr1 rn1 := by
  obtain ⟨a, b, d⟩ := h
  have e : Ul unk (v + 1) = Ul unk v ++ [v] := by rw [Ul_succ, if_pos hu]
  refine ⟨by rw [e, h0]; simp, fun i hl => ?_, fun u hl => ?_⟩
  · rw [e] at hl ⊢
    simp only [List.length_append, List.length_cons, List.length_nil] at hl
    by_cases q : i = (Ul unk v).length
    · subst q; rw [h3, getD_app1]
    · rw [h4 i q, getD_app0 (by omega)]; exact b i (by omega)
  · by_cases q : u = v
    · subst q; rw [h1, if_pos hu]
    · rw [h2 u q]; exact d u (by omega)
/-- a node that is fed, no pad: unknown -/
def unk (c r : Nat) (w : Nat → Nat) (P : Int32) (v : Nat) : Bool := bt (clo c r w 9 P) v && !bt P v
/-- who is dead, as bits -/
def dead (c r : Nat) (w : Nat → Nat) (P : Int32) : Int32 := (((1 : Int32) <<< (nI (c * r) &&& 31)) - 1) &&& (clo c r w 9 P ^^^ (-1))
theorem bt_dead {c r v : Nat} {w : Nat → Nat} {P : Int32} (hs : shp c r) (hv : v < c * r) : bt (dead c r w P) v = !bt (clo c r w 9 P) v := by
  have h9 := hs.2.2
  unfold dead
  rw [b_and, bt_low (c * r) (by omega) v (by omega), decide_eq_true hv, Bool.true_and, bt_not _ (by omega)]
theorem unk_dead {c r v : Nat} {w : Nat → Nat} {P : Int32} (hs : shp c r) (hv : v < c * r) : unk c r w P v = !(bt (dead c r w P) v || bt P v) := by
  rw [bt_dead hs hv]
  unfold unk
  cases bt (clo c r w 9 P) v <;> cases bt P v <;> rfl
set_option maxHeartbeats 1000000 in
/-- Flow.numberRows -/
theorem number_ok {N f q c r : Nat} {w : Nat → Nat} {P : Int32} {M : sg_M} (hf : sg_K Yc f 1) (hs : shp c r) (hq : q < f ∨ f + 16 ≤ q) (h5 : M.1 q 5 = nI (c * r)) (hd : M.1 f 0 = dead c r w P) (hN : 20 ≤ N) : ok (fX1_numberRows N f q P M) (fun M1 => numP (unk c r w P) (c * r) (M1.1 f 4) (M1.1 (f + 3)) (M1.1 (f + 4)) ∧ M1.2 = M.2 ∧ ∀ a k, a ≠ f + 3 → a ≠ f + 4 → (a ≠ f ∨ k ≠ 4) → M1.1 a k = M.1 a k) := by
  have h9 := hs.2.2
  unfold fX1_numberRows
  refine ok_m (ok_m ?_)
  unfold gX1_numberRows_7
  refine ok_lp (fun n s M1 => ∃ v, v ≤ c * r ∧ n = c * r - v ∧ s = (f, q, P, nI v) ∧ numP (unk c r w P) v (M1.1 f 4) (M1.1 (f + 3)) (M1.1 (f + 4)) ∧ M1.2 = M.2 ∧ ∀ a k, a ≠ f + 3 → a ≠ f + 4 → (a ≠ f ∨ k ≠ 4) → M1.1 a k = M.1 a k) ?_ N (c * r) _ _ ⟨0, by omega, rfl, rfl, ⟨uI_eq, fun i h => absurd h (by simp [Ul]), fun u h => absurd h (by omega)⟩, rfl, fun a k _ _ h => by rw [uI_at, if_neg (by omega)]⟩ (by omega)
  rintro n s M1 back ⟨v, hv, rfl, rfl, hn, hJ, hF⟩ hb
  unfold bX1_numberRows_7
  dsimp only
  rw [hF q 5 (by omega) (by omega) (by omega), h5]
  refine ok_if (fun h => ?_) (fun h => ?_)
  · have := (nI_leI (by omega) (by omega)).mp h
    obtain rfl : v = c * r := by omega
    exact ok_some ⟨hn, hJ, hF⟩
  · have hv2 : v < c * r := by
      rcases Nat.lt_or_ge v (c * r) with z | z
      · exact z
      · exact absurd (nI_le z (by omega)) h
    have hl := Ul_len (unk c r w P) v
    rw [rc1_5 hf, rc1_6 hf, lc1_5 hf, lc1_6 hf, nI_clamp (show v < 2 ^ 31 by omega)]
    refine ok_t (ib_nI (by omega) (by omega)) (ok_m ?_)
    have e0 : (sg_uI M1 (f + 4) v (-1)).1 f 0 = dead c r w P := by rw [uI_na (by omega), hF f 0 (by omega) (by omega) (by omega), hd]
    have e4 : (sg_uI M1 (f + 4) v (-1)).1 f 4 = nI (Ul (unk c r w P) v).length := by rw [uI_na (by omega)]; exact hn.1
    rw [e0]
    have hu := unk_dead (w := w) (P := P) hs hv2
    refine ok_if (fun e => ?_) (fun e => ?_)
    · have e1 := (bt_test0 (show v < 32 by omega)).mp e
      rw [b_or] at e1
      rw [e1] at hu
      rw [e4]
      refine ok_t (ib_nI (by omega) (by omega)) (ok_m ?_)
      refine ok_t (ib_nI (by omega) (by omega)) (ok_m (ok_m (ok_m ?_)))
      rw [nI_clamp (show (Ul (unk c r w P) v).length < 2 ^ 31 by omega)]
      refine hb (c * r - (v + 1)) _ _ (by omega) ⟨v + 1, by omega, rfl, by rw [nI_1], ?_, hJ, fun a k ha hb9 hk => ?_⟩
      · have es : (sg_uI (sg_uI (sg_uI M1 (f + 4) v (-1)) (f + 3) (Ul (unk c r w P) v).length (nI v)) (f + 4) v ((sg_uI (sg_uI M1 (f + 4) v (-1)) (f + 3) (Ul (unk c r w P) v).length (nI v)).1 f 4)).1 f 4 = nI (Ul (unk c r w P) v).length := by
          rw [uI_na (by omega), uI_na (by omega)]; exact e4
        refine numP_yes hn hu ?_ ?_ (fun u hne => ?_) ?_ (fun i hne => ?_)
        · rw [uI_eq, es, nI_1]
        · rw [uI_na (by omega), uI_eq, uI_na (by omega)]; exact e4
        · rw [uI_na (by omega), uI_nb hne, uI_na (by omega), uI_nb hne]
        · rw [uI_na (by omega), uI_na (by omega), uI_eq]
        · rw [uI_na (by omega), uI_na (by omega), uI_nb hne, uI_na (by omega)]
      · rw [uI_at, if_neg (by omega), uI_na hb9, uI_na ha, uI_na hb9]
        exact hF a k ha hb9 hk
    · have e1 : bt (dead c r w P ||| P) v = true := by
        cases z : bt (dead c r w P ||| P) v with
        | true => rfl
        | false => exact absurd ((bt_test0 (show v < 32 by omega)).mpr z) e
      rw [b_or] at e1
      rw [e1] at hu
      refine ok_m ?_
      refine hb (c * r - (v + 1)) _ _ (by omega) ⟨v + 1, by omega, rfl, by rw [nI_1], ?_, hJ, fun a k ha hb9 hk => ?_⟩
      · rw [uI_na (by omega)]
        refine numP_no ?_ hu uI_eq (fun u hne => uI_nb hne)
        rw [show (sg_uI M1 (f + 4) v (-1)).1 (f + 3) = M1.1 (f + 3) by funext k; exact uI_na (by omega)]
        exact hn
      · rw [uI_na hb9]
        exact hF a k ha hb9 hk
