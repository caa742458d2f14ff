/-! The memory model: a layout (how many places, the kind of each, an array's length, where a reference leads) is fixed; what changes is a store: ints and longs by place and slot. -/
def sg_G : List Cond := lw_tbl.filter goodWord
theorem sg_inG {w : Cond} (h : w ∈ lw_tbl) (g : goodWord w = true) : w ∈ sg_G := List.mem_filter.mpr ⟨h, g⟩
theorem sg_GG : GoodIn sg_G sg_G := fun w h => ⟨h, good_of_word (List.mem_filter.mp h).2⟩
theorem sg_inGs {ws : List Cond} (h : ∀ w ∈ ws, w ∈ lw_tbl) (g : ws.all goodWord = true) : ∀ w ∈ ws, w ∈ sg_G := fun w hw => sg_inG (h w hw) (List.all_eq_true.mp g w hw)
/-- a word by its place in the tables -/
theorem sg_w (i : Nat) {w : Cond} (h : tables_1[i]? = some w) (g : goodWord w = true) : w ∈ sg_G := sg_inG (List.mem_append_right _ (List.mem_of_getElem? h)) g
theorem sg_wp (i : Nat) {w : Cond} (h : (k2_sels lw_privs)[i]? = some w) (g : goodWord w = true) : w ∈ sg_G := sg_inG (List.mem_append_left _ (List.mem_of_getElem? h)) g
theorem jnX0 : ∀ w ∈ u_ws RX0 TX0 5, w ∈ sg_G := sg_inGs inX0 (by decide +kernel)
theorem jnX1 : ∀ w ∈ u_ws RX1 TX1 9, w ∈ sg_G := sg_inGs inX1 (by decide +kernel)
theorem jnX2 : ∀ w ∈ u_ws RX2 TX2 5, w ∈ sg_G := sg_inGs inX2 (by decide +kernel)
theorem jnX3 : ∀ w ∈ u_ws RX3 TX3 9, w ∈ sg_G := sg_inGs inX3 (by decide +kernel)
theorem jnX4 : ∀ w ∈ u_ws RX4 TX4 18, w ∈ sg_G := sg_inGs inX4 (by decide +kernel)
theorem jnX5 : ∀ w ∈ u_ws RX5 TX5 8, w ∈ sg_G := sg_inGs inX5 (by decide +kernel)
theorem jnX6 : ∀ w ∈ u_ws RX6 TX6 13, w ∈ sg_G := sg_inGs inX6 (by decide +kernel)
theorem jnX7 : ∀ w ∈ u_ws RX7 TX7 3, w ∈ sg_G := sg_inGs inX7 (by decide +kernel)
theorem jnX8 : ∀ w ∈ u_ws RX8 TX8 14, w ∈ sg_G := sg_inGs inX8 (by decide +kernel)
theorem jnX9 : ∀ w ∈ u_ws RX9 TX9 5, w ∈ sg_G := sg_inGs inX9 (by decide +kernel)
theorem jnX10 : ∀ w ∈ u_ws RX10 TX10 13, w ∈ sg_G := sg_inGs inX10 (by decide +kernel)
theorem jnX11 : ∀ w ∈ u_ws RX11 TX11 38, w ∈ sg_G := sg_inGs inX11 (by decide +kernel)
abbrev sg_M : Type := (Nat → Nat → Int32) × (Nat → Nat → Int64)
/-- a layout: how many places; the kind of a place; an array's length; where a reference leads -/
abbrev sg_Y : Type := Nat × (Nat → Nat) × (Nat → Nat) × (Nat → Nat → Nat)
def sg_ns : List Nat := [5, 9, 5, 9, 18, 8, 13, 3, 14, 5, 13, 38]
def sg_N (c : Nat) : Nat := sg_ns.getD c 0
def sg_ts : List (List Nat) := [[1, 1, 2, 2, 2], [0, 1, 2, 2, 0, 2, 2, 2, 2], [0, 2, 1, 2, 2], [0, 0, 0, 2, 0, 0, 2, 2, 2], [0, 0, 0, 0, 0, 0, 0, 0, 0, 2, 2, 2, 2, 2, 2, 2, 2, 2], [0, 2, 2, 0, 2, 2, 2, 2], [0, 0, 0, 2, 2, 0, 0, 0, 0, 0, 0, 0, 0], [0, 1, 1], [0, 0, 2, 0, 2, 0, 2, 0, 0, 0, 2, 2, 2, 2], [0, 0, 0, 2, 2], [2, 2, 2, 2, 2, 0, 2, 2, 2, 2, 2, 2, 2], [0, 2, 2, 2, 0, 2, 2, 2, 0, 2, 0, 2, 0, 0, 0, 0, 0, 0, 0, 0, 0, 0, 2, 2, 0, 2, 1, 2, 2, 2, 2, 0, 1, 1, 2, 0, 2, 1]]
def sg_t (c k : Nat) : Nat := (sg_ts.getD c []).getD k 2
def sg_fv (Y : sg_Y) (ad : Nat → Nat) (M : sg_M) (j k : Nat) : Value := match sg_t (Y.2.1 j) k with
  | 0 => .int (M.1 j k)
  | 1 => .long (M.2 j k)
  | _ => .ref (ad (Y.2.2.2 j k))
def sg_E (Y : sg_Y) (ad : Nat → Nat) (cy : Nat → ClassId) (M : sg_M) (j : Nat) : va_E :=
  if Y.2.1 j < 12 then .inr (Y.2.1 j, (List.range (sg_N (Y.2.1 j))).map (sg_fv Y ad M j))
  else if Y.2.1 j = 14 then .inl (cy 14, Y.2.2.1 j, .inr (.inl (M.2 j)))
  else if Y.2.1 j < 16 then .inl (cy (Y.2.1 j), Y.2.2.1 j, .inl (M.1 j))
  else .inl (cy (Y.2.1 j), Y.2.2.1 j, .inr (.inr (.inr (.inr (fun i => some (ad (Y.2.2.2 j i)))))))
def sg_W (Y : sg_Y) (ad : Nat → Nat) (cy : Nat → ClassId) (M : sg_M) : va_W := (List.range Y.1).map (fun j => (ad j, sg_E Y ad cy M j))
def sg_A (Y : sg_Y) (ad : Nat → Nat) : Nat → Prop := fun q => ∃ j : Nat, j < Y.1 ∧ q = ad j
def sg_inj (Y : sg_Y) (ad : Nat → Nat) : Prop := ∀ i j : Nat, i < Y.1 → j < Y.1 → ad i = ad j → i = j
/-- place j is of kind c -/
def sg_K (Y : sg_Y) (j c : Nat) : Prop := j < Y.1 ∧ Y.2.1 j = c
def sg_uI (M : sg_M) (j k : Nat) (v : Int32) : sg_M := (fun a b => if a = j ∧ b = k then v else M.1 a b, M.2)
def sg_uJ (M : sg_M) (j k : Nat) (v : Int64) : sg_M := (M.1, fun a b => if a = j ∧ b = k then v else M.2 a b)
def sg_cpy (M : sg_M) (a b : Nat) (sp dp n : Nat) : sg_M := (fun x y => if x = b then va_cpy (M.1 a) (M.1 b) sp dp n y else M.1 x y, M.2)
abbrev sg_tys (cy : Nat → ClassId) : List (ClassId × FieldType) := [(cy 12, .byte), (cy 13, .int), (cy 14, .long), (cy 15, .boolean), (cy 16, .object "SupplyGrid$Net"), (cy 17, .object "SupplyGrid$Score"), (cy 18, .array .int), (cy 19, .array .long)]
theorem sg_at {Y : sg_Y} {ad : Nat → Nat} {cy : Nat → ClassId} {M : sg_M} {j : Nat} (h : j < Y.1) : (sg_W Y ad cy M)[j]? = some (ad j, sg_E Y ad cy M j) := by
  unfold sg_W
  rw [List.getElem?_map, List.getElem?_range h]
  rfl
theorem sg_atlt {Y : sg_Y} {ad : Nat → Nat} {cy : Nat → ClassId} {M : sg_M} {j : Nat} {q : Nat × va_E} (h : (sg_W Y ad cy M)[j]? = some q) : j < Y.1 ∧ q = (ad j, sg_E Y ad cy M j) := by
  have hl : j < Y.1 := by
    have := (List.getElem?_eq_some_iff.mp h).1
    simpa [sg_W] using this
  rw [sg_at hl] at h
  exact ⟨hl, (Option.some.inj h).symm⟩
theorem sg_D {Y : sg_Y} {ad : Nat → Nat} {cy : Nat → ClassId} {M : sg_M} (h : sg_inj Y ad) : va_D (sg_A Y ad) (sg_W Y ad cy M) := by
  refine ⟨fun i j p q hi hj e => ?_, fun k q hk => ?_⟩
  · obtain ⟨li, rfl⟩ := sg_atlt hi
    obtain ⟨lj, rfl⟩ := sg_atlt hj
    exact h i j li lj e
  · obtain ⟨lk, rfl⟩ := sg_atlt hk
    exact ⟨k, lk, rfl⟩
theorem sg_Eo {Y : sg_Y} {ad : Nat → Nat} {cy : Nat → ClassId} {M : sg_M} {j c : Nat} (h : Y.2.1 j = c) (hc : c < 12) : sg_E Y ad cy M j = .inr (c, (List.range (sg_N c)).map (sg_fv Y ad M j)) := by
  unfold sg_E
  rw [h, if_pos hc]
theorem sg_EJ {Y : sg_Y} {ad : Nat → Nat} {cy : Nat → ClassId} {M : sg_M} {j : Nat} (h : Y.2.1 j = 14) : sg_E Y ad cy M j = .inl (cy 14, Y.2.2.1 j, .inr (.inl (M.2 j))) := by
  unfold sg_E
  rw [h]
  rfl
theorem sg_EI {Y : sg_Y} {ad : Nat → Nat} {cy : Nat → ClassId} {M : sg_M} {j c : Nat} (h : Y.2.1 j = c) (hc : c = 12 ∨ c = 13 ∨ c = 15) : sg_E Y ad cy M j = .inl (cy c, Y.2.2.1 j, .inl (M.1 j)) := by
  unfold sg_E
  rw [h]
  rcases hc with rfl | rfl | rfl <;> rfl
theorem sg_ER {Y : sg_Y} {ad : Nat → Nat} {cy : Nat → ClassId} {M : sg_M} {j c : Nat} (h : Y.2.1 j = c) (hc : 16 ≤ c) : sg_E Y ad cy M j = .inl (cy c, Y.2.2.1 j, .inr (.inr (.inr (.inr (fun i => some (ad (Y.2.2.2 j i))))))) := by
  unfold sg_E
  rw [h, if_neg (by omega), if_neg (by omega), if_neg (by omega)]
theorem sg_set {Y : sg_Y} {ad : Nat → Nat} {cy : Nat → ClassId} {M M' : sg_M} {j : Nat} {x : va_E} (hj : j < Y.1) (hx : x = sg_E Y ad cy M' j) (ho : ∀ i, i ≠ j → sg_E Y ad cy M' i = sg_E Y ad cy M i) : (sg_W Y ad cy M).set j (ad j, x) = sg_W Y ad cy M' := by
  apply List.ext_getElem?
  intro i
  by_cases hi : i < Y.1
  · rw [sg_at hi, List.getElem?_set]
    by_cases e : j = i
    · subst e
      rw [if_pos rfl, if_pos (by simpa [sg_W] using hj), hx]
    · rw [if_neg e, sg_at hi, ho i (fun q => e q.symm)]
  · rw [List.getElem?_eq_none (by simpa [sg_W] using hi), List.getElem?_eq_none (by simpa [sg_W] using hi)]
theorem sg_Eother {Y : sg_Y} {ad : Nat → Nat} {cy : Nat → ClassId} {M M' : sg_M} {i : Nat} (h1 : M'.1 i = M.1 i) (h2 : M'.2 i = M.2 i) : sg_E Y ad cy M' i = sg_E Y ad cy M i := by
  unfold sg_E
  have : sg_fv Y ad M' i = sg_fv Y ad M i := by
    funext k
    unfold sg_fv
    rw [h1, h2]
  rw [this, h1, h2]
theorem sg_uI_o {M : sg_M} {j k i : Nat} {v : Int32} (h : i ≠ j) : (sg_uI M j k v).1 i = M.1 i := by
  funext b
  show (if i = j ∧ b = k then v else M.1 i b) = _
  rw [if_neg (fun q => h q.1)]
theorem sg_uJ_o {M : sg_M} {j k i : Nat} {v : Int64} (h : i ≠ j) : (sg_uJ M j k v).2 i = M.2 i := by
  funext b
  show (if i = j ∧ b = k then v else M.2 i b) = _
  rw [if_neg (fun q => h q.1)]
theorem sg_uI_e {M : sg_M} {j k : Nat} {v : Int32} : (sg_uI M j k v).1 j = upd (M.1 j) k v := by
  funext b
  show (if j = j ∧ b = k then v else M.1 j b) = if b = k then v else M.1 j b
  by_cases e : b = k
  · rw [if_pos ⟨rfl, e⟩, if_pos e]
  · rw [if_neg (fun q => e q.2), if_neg e]
theorem sg_uJ_e {M : sg_M} {j k : Nat} {v : Int64} : (sg_uJ M j k v).2 j = vp_updL (M.2 j) k v := by
  funext b
  show (if j = j ∧ b = k then v else M.2 j b) = if b = k then v else M.2 j b
  by_cases e : b = k
  · rw [if_pos ⟨rfl, e⟩, if_pos e]
  · rw [if_neg (fun q => e q.2), if_neg e]
theorem sg_rset {α : Type} (n : Nat) (f g : Nat → α) (k : Nat) (v : α) (hv : g k = v) (ho : ∀ i, i ≠ k → g i = f i) : ((List.range n).map f).set k v = (List.range n).map g := by
  apply List.ext_getElem?
  intro i
  rw [List.getElem?_set]
  by_cases e : k = i
  · subst e
    rw [if_pos rfl]
    by_cases hk : k < n
    · rw [if_pos (by simpa using hk), List.getElem?_map, List.getElem?_range hk, ← hv]
      rfl
    · rw [if_neg (by simpa using hk), List.getElem?_eq_none (by simpa using hk)]
  · rw [if_neg e, List.getElem?_map, List.getElem?_map]
    by_cases hi : i < n
    · rw [List.getElem?_range hi]
      show some (f i) = some (g i)
      rw [ho i (fun q => e q.symm)]
    · rw [List.getElem?_eq_none (by simpa using hi)]
      rfl
theorem sg_setI {Y : sg_Y} {ad : Nat → Nat} {cy : Nat → ClassId} {M : sg_M} {j c k : Nat} {v : Int32} (hj : sg_K Y j c) (hc : c < 12) (ht : sg_t c k = 0) : (sg_W Y ad cy M).set j (ad j, .inr (c, ((List.range (sg_N c)).map (sg_fv Y ad M j)).set k (.int v))) = sg_W Y ad cy (sg_uI M j k v) := by
  obtain ⟨h1, h2⟩ := hj
  refine sg_set h1 ?_ (fun i hi => sg_Eother (sg_uI_o hi) rfl)
  rw [sg_Eo h2 hc]
  congr 2
  refine sg_rset _ _ _ _ _ ?_ ?_
  · show sg_fv Y ad (sg_uI M j k v) j k = _
    unfold sg_fv
    rw [h2, ht]
    show Value.int (if j = j ∧ k = k then v else M.1 j k) = _
    rw [if_pos ⟨rfl, rfl⟩]
  · intro i hi
    show sg_fv Y ad (sg_uI M j k v) j i = sg_fv Y ad M j i
    unfold sg_fv
    have : (sg_uI M j k v).1 j i = M.1 j i := by
      show (if j = j ∧ i = k then v else M.1 j i) = _
      rw [if_neg (fun q => hi q.2)]
    rw [this]
    rfl
theorem sg_setJ {Y : sg_Y} {ad : Nat → Nat} {cy : Nat → ClassId} {M : sg_M} {j c k : Nat} {v : Int64} (hj : sg_K Y j c) (hc : c < 12) (ht : sg_t c k = 1) : (sg_W Y ad cy M).set j (ad j, .inr (c, ((List.range (sg_N c)).map (sg_fv Y ad M j)).set k (.long v))) = sg_W Y ad cy (sg_uJ M j k v) := by
  obtain ⟨h1, h2⟩ := hj
  refine sg_set h1 ?_ (fun i hi => sg_Eother rfl (sg_uJ_o hi))
  rw [sg_Eo h2 hc]
  congr 2
  refine sg_rset _ _ _ _ _ ?_ ?_
  · show sg_fv Y ad (sg_uJ M j k v) j k = _
    unfold sg_fv
    rw [h2, ht]
    show Value.long (if j = j ∧ k = k then v else M.2 j k) = _
    rw [if_pos ⟨rfl, rfl⟩]
  · intro i hi
    show sg_fv Y ad (sg_uJ M j k v) j i = sg_fv Y ad M j i
    unfold sg_fv
    have : (sg_uJ M j k v).2 j i = M.2 j i := by
      show (if j = j ∧ i = k then v else M.2 j i) = _
      rw [if_neg (fun q => hi q.2)]
    rw [this]
    rfl
theorem sg_setAI {Y : sg_Y} {ad : Nat → Nat} {cy : Nat → ClassId} {M : sg_M} {j c k : Nat} {v : Int32} (hj : sg_K Y j c) (hc : c = 12 ∨ c = 13 ∨ c = 15) : (sg_W Y ad cy M).set j (ad j, .inl (cy c, Y.2.2.1 j, .inl (upd (M.1 j) k v))) = sg_W Y ad cy (sg_uI M j k v) := by
  obtain ⟨h1, h2⟩ := hj
  refine sg_set h1 ?_ (fun i hi => sg_Eother (sg_uI_o hi) rfl)
  rw [sg_EI h2 hc, sg_uI_e]
theorem sg_setAJ {Y : sg_Y} {ad : Nat → Nat} {cy : Nat → ClassId} {M : sg_M} {j k : Nat} {v : Int64} (hj : sg_K Y j 14) : (sg_W Y ad cy M).set j (ad j, .inl (cy 14, Y.2.2.1 j, .inr (.inl (vp_updL (M.2 j) k v)))) = sg_W Y ad cy (sg_uJ M j k v) := by
  obtain ⟨h1, h2⟩ := hj
  refine sg_set h1 ?_ (fun i hi => sg_Eother rfl (sg_uJ_o hi))
  rw [sg_EJ h2, sg_uJ_e]
theorem sg_setC {Y : sg_Y} {ad : Nat → Nat} {cy : Nat → ClassId} {M : sg_M} {a j : Nat} {sp dp n : Nat} (hj : sg_K Y j 13) : (sg_W Y ad cy M).set j (ad j, .inl (cy 13, Y.2.2.1 j, .inl (va_cpy (M.1 a) (M.1 j) sp dp n))) = sg_W Y ad cy (sg_cpy M a j sp dp n) := by
  obtain ⟨h1, h2⟩ := hj
  refine sg_set h1 ?_ (fun i hi => sg_Eother ?_ rfl)
  · rw [sg_EI h2 (Or.inr (Or.inl rfl))]
    congr 4
    funext y
    show _ = if j = j then _ else _
    rw [if_pos rfl]
  · funext y
    show (if i = j then _ else M.1 i y) = _
    rw [if_neg hi]
