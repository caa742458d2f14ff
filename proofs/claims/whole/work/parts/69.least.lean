/-! the least widening -/
def nri (S : Nat) (l : List Nat) : Nat → Option (List Nat)
  | 0 => none
  | i + 1 => if l.getD i 0 + 1 < S then some (l.take i ++ List.replicate (l.length - i) (l.getD i 0 + 1)) else nri S l i
def nr (S : Nat) (l : List Nat) : Option (List Nat) := nri S l l.length
def nrO (S : Nat) (l : List Nat) (r : List (List Nat)) : Bool := match r with
  | [] => (nr S l).isNone
  | l2 :: _ => decide (nr S l = some l2)
def ckL (S : Nat) : List (List Nat) → Bool
  | [] => true
  | l :: r => nrO S l r && ckL S r
def ckA (n S : Nat) : Bool := ckL S (rws n 0 S) && (rws n 0 S).all (fun l => decide (l.length = n) && l.all (fun x => decide (x < S))) && decide ((rws n 0 S).length ≤ 400) && (decide (S = 0 ∧ n ≠ 0) || (decide ((rws n 0 S).getD 0 [] = List.replicate n 0) && decide (0 < (rws n 0 S).length)))
theorem ckA_all : ∀ n, n < 4 → ∀ S, S < 13 → ckA n S = true := by decide +kernel
theorem ckL_at {S : Nat} : ∀ {L : List (List Nat)}, ckL S L = true → ∀ k, k < L.length → nr S (L.getD k []) = if k + 1 < L.length then some (L.getD (k + 1) []) else none := by
  intro L
  induction L with
  | nil => intro _ k hk; cases hk
  | cons l r ih =>
    intro h k hk
    have h : (nrO S l r && ckL S r) = true := h
    rw [Bool.and_eq_true] at h
    cases k with
    | zero =>
      cases r with
      | nil =>
        rw [if_neg (show ¬ 0 + 1 < ([l] : List (List Nat)).length by show ¬ 1 < 1; omega)]
        have h1 : (nr S l).isNone = true := h.1
        show nr S l = none
        exact Option.isNone_iff_eq_none.mp h1
      | cons l2 r2 =>
        rw [if_pos (show 0 + 1 < (l :: l2 :: r2).length by show 1 < r2.length + 1 + 1; omega)]
        exact of_decide_eq_true h.1
    | succ k =>
      have hk : k + 1 < r.length + 1 := hk
      have := ih h.2 k (by omega)
      show nr S (r.getD k []) = if k + 1 + 1 < r.length + 1 then some (r.getD (k + 1) []) else none
      rw [this]
      by_cases q : k + 1 < r.length
      · rw [if_pos q, if_pos (by omega)]
      · rw [if_neg q, if_neg (by omega)]
theorem rws_at {n S : Nat} (hn : n < 4) (hS : S < 13) : (∀ k, k < (rws n 0 S).length → nr S ((rws n 0 S).getD k []) = if k + 1 < (rws n 0 S).length then some ((rws n 0 S).getD (k + 1) []) else none) ∧ (∀ l, l ∈ rws n 0 S → l.length = n ∧ ∀ x, x ∈ l → x < S) ∧ (rws n 0 S).length ≤ 400 ∧ ((S = 0 ∧ n ≠ 0) ∨ ((rws n 0 S).getD 0 [] = List.replicate n 0 ∧ 0 < (rws n 0 S).length)) := by
  have h := ckA_all n hn S hS
  unfold ckA at h
  rw [Bool.and_eq_true, Bool.and_eq_true, Bool.and_eq_true, Bool.or_eq_true, Bool.and_eq_true, decide_eq_true_iff, decide_eq_true_iff, decide_eq_true_iff, decide_eq_true_iff, List.all_eq_true] at h
  obtain ⟨⟨⟨h1, h2⟩, h3⟩, h4⟩ := h
  refine ⟨ckL_at h1, fun l hl => ?_, h3, h4⟩
  have := h2 l hl
  rw [Bool.and_eq_true, decide_eq_true_iff, List.all_eq_true] at this
  exact ⟨this.1, fun x hx => of_decide_eq_true (this.2 x hx)⟩
theorem find_at {α : Type} {p : α → Bool} {z : α} : ∀ {L : List α} {k : Nat}, k < L.length → (∀ j, j < k → p (L.getD j z) = false) → p (L.getD k z) = true → L.find? p = some (L.getD k z) := by
  intro L
  induction L with
  | nil => intro k hk; cases hk
  | cons a r ih =>
    intro k hk hno hp
    cases k with
    | zero =>
      have hp : p a = true := hp
      show (a :: r).find? p = some a
      rw [List.find?_cons_of_pos hp]
    | succ k =>
      have h0 : p a = false := hno 0 (by omega)
      rw [List.find?_cons_of_neg (by rw [h0]; decide)]
      exact ih (k := k) (by have hk : k + 1 < r.length + 1 := hk; omega) (fun j hj => hno (j + 1) (by omega)) hp
theorem find_no {α : Type} {p : α → Bool} {z : α} : ∀ {L : List α}, (∀ j, j < L.length → p (L.getD j z) = false) → L.find? p = none := by
  intro L
  induction L with
  | nil => intro _; rfl
  | cons a r ih =>
    intro hno
    have h0 : p a = false := hno 0 (by show 0 < r.length + 1; omega)
    rw [List.find?_cons_of_neg (by rw [h0]; decide)]
    exact ih (fun j hj => hno (j + 1) (by show j + 1 < r.length + 1; omega))
theorem fsm_s {α : Type} {f : Nat → Option α} (n : Nat) : (List.range (n + 1)).findSome? f = ((List.range n).findSome? f).or (f n) := by
  rw [List.range_succ, List.findSome?_append]
  congr 1
  cases e : f n with
  | none => rw [List.findSome?_cons, e]; rfl
  | some a => rw [List.findSome?_cons, e]
theorem fsm_no {α : Type} {f : Nat → Option α} : ∀ n, (∀ j, j < n → f j = none) → (List.range n).findSome? f = none := by
  intro n
  induction n with
  | zero => intro _; rfl
  | succ n ih => intro h; rw [fsm_s, ih (fun j hj => h j (by omega)), h n (by omega)]; rfl
theorem fsm_hit {α : Type} {f : Nat → Option α} {k : Nat} {a : α} (h : f k = some a) (hno : ∀ j, j < k → f j = none) : ∀ n, k < n → (List.range n).findSome? f = some a := by
  intro n
  induction n with
  | zero => intro h; omega
  | succ n ih =>
    intro hk
    rw [fsm_s]
    by_cases e : k = n
    · subst e
      rw [fsm_no k hno, h]; rfl
    · rw [ih (by omega)]; rfl
def dsB (F : Nat → Int32 → Int32 → Int32 → sg_M → Option (Int32 × sg_M)) (N : Nat) (k13 : (Nat × Int32 × Int32 × Int32) → sg_M → Option (Int32 × sg_M)) (s : Nat × Int32 × Int32 × Int32) (M : sg_M) : Option (Int32 × sg_M) :=
  sg_b (fX11_straps N s.1 M) (fun (x2 : Int32) (M1 : sg_M) =>
  if x2 ≤ s.2.2.2 then (
  some ((0 : Int32), M1)) else (
  if sg_ib ((28 : Int32) + s.2.2.2) (Yr.2.2.1 (Yr.2.2.2 s.1 1)) = true then
  if (M1.1 (Yr.2.2.2 s.1 1) (((28 : Int32) + s.2.2.2)).toNatClampNeg) = (4 : Int32) then (
  sg_m (s.2.2.2 + (1 : Int32)) (fun x3 : Int32 =>
  k13 (s.1, s.2.1, s.2.2.1, x3) M1)) else (
  if sg_ib ((28 : Int32) + s.2.2.2) (Yr.2.2.1 (Yr.2.2.2 s.1 1)) = true then
  if sg_ib ((28 : Int32) + s.2.2.2) (Yr.2.2.1 (Yr.2.2.2 s.1 1)) = true then
  sg_m (sg_uI M1 (Yr.2.2.2 s.1 1) (((28 : Int32) + s.2.2.2)).toNatClampNeg ((M1.1 (Yr.2.2.2 s.1 1) (((28 : Int32) + s.2.2.2)).toNatClampNeg) + (1 : Int32))) (fun M4 : sg_M =>
  if sg_ib s.2.1 (Yr.2.2.1 (Yr.2.2.2 s.1 36)) = true then
  sg_m (sg_uI M4 (Yr.2.2.2 s.1 36) (s.2.1).toNatClampNeg s.2.2.2) (fun M5 : sg_M =>
  sg_b (F s.1 (s.2.1 + (1 : Int32)) s.2.2.1 s.2.2.2 M5) (fun (x7 : Int32) (M6 : sg_M) =>
  sg_m x7 (fun x8 : Int32 =>
  if sg_ib ((28 : Int32) + s.2.2.2) (Yr.2.2.1 (Yr.2.2.2 s.1 1)) = true then
  if sg_ib ((28 : Int32) + s.2.2.2) (Yr.2.2.1 (Yr.2.2.2 s.1 1)) = true then
  sg_m (sg_uI M6 (Yr.2.2.2 s.1 1) (((28 : Int32) + s.2.2.2)).toNatClampNeg ((M6.1 (Yr.2.2.2 s.1 1) (((28 : Int32) + s.2.2.2)).toNatClampNeg) - (1 : Int32))) (fun M9 : sg_M =>
  if x8 = 0 then (
  sg_m (s.2.2.2 + (1 : Int32)) (fun x10 : Int32 =>
  k13 (s.1, s.2.1, s.2.2.1, x10) M9)) else (
  some ((1 : Int32), M9)))
  else none
  else none)))
  else none)
  else none
  else none)
  else none))
def dsG (F : Nat → Int32 → Int32 → Int32 → sg_M → Option (Int32 × sg_M)) (N : Nat) : (Nat × Int32 × Int32 × Int32) → sg_M → Option (Int32 × sg_M) := sg_lp (dsB F N ) N
def dsF (F : Nat → Int32 → Int32 → Int32 → sg_M → Option (Int32 × sg_M)) (N : Nat) (a0_ : Nat) (x1_ : Int32) (x2_ : Int32) (x3_ : Int32) (M : sg_M) : Option (Int32 × sg_M) :=
  if x1_ = x2_ then (
  sg_b (fX11_doesHold N a0_ M) (fun (x12 : Int32) (M11 : sg_M) =>
  if sg_bz x12 = true then some (x12, M11) else none)) else (
  sg_m x3_ (fun x13 : Int32 =>
  dsG F N (a0_, x1_, x2_, x13) M))
def lsr (m : Nat) (d : Nat → Int32) (fm : Nat) : Option (List Nat) := (rws m fm (gS d)).find? (tryl d)
def ls1 (m : Nat) (d : Nat → Int32) (s : Nat) : Option (List Nat) := if gW d s < 4 then (lsr m (wB d s (gW d s + 1)) s).map (fun l => s :: l) else none
theorem wB_S {d : Nat → Int32} {s x : Nat} : gS (wB d s x) = gS d := (sm_of (b := d) (d := wB d s x) (fun i hi => ub_ne (by omega))).2.2.2.2.1
theorem tryl_y {d : Nat → Int32} {s : Nat} {l : List Nat} (h : gW d s < 4) : tryl d (s :: l) = tryl (wB d s (gW d s + 1)) l := by
  unfold tryl
  rw [show wrow d (s :: l) = (if gW d s < 4 then wrow (wB d s (gW d s + 1)) l else none) from rfl, if_pos h]
theorem tryl_n {d : Nat → Int32} {s : Nat} {l : List Nat} (h : ¬ gW d s < 4) : tryl d (s :: l) = false := by
  unfold tryl
  rw [show wrow d (s :: l) = (if gW d s < 4 then wrow (wB d s (gW d s + 1)) l else none) from rfl, if_neg h]
theorem lsr_s {m : Nat} {d : Nat → Int32} {fm : Nat} : lsr (m + 1) d fm = (List.range (gS d - fm)).findSome? (fun k => ls1 m d (fm + k)) := by
  unfold lsr
  show ((List.range (gS d - fm)).flatMap (fun k => (rws m (fm + k) (gS d)).map (fun l => (fm + k) :: l))).find? _ = _
  rw [List.find?_flatMap]
  congr 1
  funext k
  rw [List.find?_map]
  unfold ls1
  by_cases q : gW d (fm + k) < 4
  · rw [if_pos q]
    unfold lsr
    rw [wB_S]
    congr 2
    funext l
    exact tryl_y q
  · rw [if_neg q, List.find?_eq_none.mpr (fun l _ => by show ¬ tryl d ((fm + k) :: l) = true; rw [tryl_n q]; decide)]
    rfl
theorem lsr_hit {m : Nat} {d : Nat → Int32} {fm s : Nat} {l : List Nat} (h1 : fm ≤ s) (h2 : s < gS d) (e : ls1 m d s = some l) (hno : ∀ t, fm ≤ t → t < s → ls1 m d t = none) : lsr (m + 1) d fm = some l := by
  rw [lsr_s]
  exact fsm_hit (k := s - fm) (by show ls1 m d (fm + (s - fm)) = some l; rw [show fm + (s - fm) = s by omega]; exact e) (fun j hj => hno _ (by omega) (by omega)) _ (by omega)
theorem lsr_no {m : Nat} {d : Nat → Int32} {fm : Nat} (hno : ∀ t, fm ≤ t → t < gS d → ls1 m d t = none) : lsr (m + 1) d fm = none := by
  rw [lsr_s]
  exact fsm_no _ (fun j hj => hno _ (by omega) (by omega))
theorem lsr_0 {d : Nat → Int32} {fm : Nat} : lsr 0 d fm = if hold d = true then some [] else none := by
  show ([[]] : List (List Nat)).find? (tryl d) = _
  by_cases q : hold d = true
  · rw [if_pos q, List.find?_cons_of_pos (show tryl d [] = true from q)]
  · rw [if_neg q, List.find?_cons_of_neg (show ¬ tryl d [] = true from q)]
    rfl
def dsP (m : Nat) (F : Nat → Int32 → Int32 → Int32 → sg_M → Option (Int32 × sg_M)) : Prop := ∀ (d : Nat → Int32) (j fm : Nat) (M : sg_M), vb d → M.1 1 = d → j + m ≤ 3 → fm ≤ gS d → ok (F 0 (nI j) (nI (j + m)) (nI fm) M) (fun res => res.1 = (if (lsr m d fm).isSome = true then 1 else 0) ∧ res.2.1 1 = d ∧ raC M res.2 ∧ (∀ i, i < j → res.2.1 17 i = M.1 17 i) ∧ ∀ l, lsr m d fm = some l → ∀ i, i < m → res.2.1 17 (j + i) = nI (l.getD i 0))
theorem raC_17 {M : sg_M} {k : Nat} {x : Int32} : raC M (sg_uI M 17 k x) := fun a j _ _ _ _ _ h17 _ => uI_na h17
theorem raC_1 {M : sg_M} {k : Nat} {x : Int32} : raC M (sg_uI M 1 k x) := raC_of raB_1
set_option maxHeartbeats 1000000 in
theorem ds_up {N k : Nat} {F : Nat → Int32 → Int32 → Int32 → sg_M → Option (Int32 × sg_M)} (hF : ∀ m, m < k → dsP m F) (hN : 1000 ≤ N) : ∀ m, m < k + 1 → dsP m (dsF F N) := by
  intro m hm d j fm M h h1 hj hfm
  have hn := vb_n h
  unfold dsF
  cases m with
  | zero =>
    refine ok_t rfl (ok_a (r_hold (N := N) h h1 hN) (fun M1 g => ok_t bz01 (ok_some ⟨?_, g.1.2, raC_of (raB_s g.2), fun i hi => g.2.1 17 i (by omega) (by omega) (by omega) (by omega), fun l e i hi => absurd hi (by omega)⟩)))
    rw [lsr_0]
    by_cases q : hold d = true
    · rw [if_pos q, if_pos q]; rfl
    · rw [if_neg q, if_neg q]; rfl
  | succ m =>
    refine ok_f (fun q => by have := (nI_eq (by omega) (by omega)).mp q; omega) (ok_m ?_)
    unfold dsG
    refine ok_for fm (gS d) (fun i s M2 => s = (0, nI j, nI (j + (m + 1)), nI i) ∧ fm ≤ i ∧ M2.1 1 = d ∧ raC M M2 ∧ (∀ i, i < j → M2.1 17 i = M.1 17 i) ∧ ∀ t, fm ≤ t → t < i → ls1 m d t = none) hfm (by omega) ⟨rfl, (by omega), h1, raC_refl, fun _ _ => rfl, fun t _ _ => absurd (show t < fm by assumption) (by omega)⟩ ?_ ?_
    · rintro i s M2 back hi ⟨rfl, hfi, w2, r2, k2, hno⟩ hb
      have w4 := vb_w4 h (show i < 12 by omega)
      unfold dsB
      dsimp only
      refine ok_a (r_stp (N := N) h w2 (by omega)) (fun M3 g3 => ?_)
      have F3 := rFr_rsF g3.2
      have w3 : M3.1 1 = d := (rsF_11 F3).trans w2
      rw [yr_1, yl_1, yr_36, yl_17, k_28, nI_clamp (show 28 + i < 2 ^ 31 by omega), w3, vb_w h (by omega)]
      refine ok_f (nI_ge hi (by omega)) (ok_t (ib_nI (by omega) (by omega)) (ok_if (fun z => ?_) (fun z => ?_)))
      · have z : gW d i = 4 := (nI_eq (by omega) (show 4 < 2 ^ 31 by omega)).mp z
        exact ok_m (hb _ _ ⟨by rw [nI_1], (by omega), w3, raC_tr r2 (raC_of (raB_s F3)), fun t ht => (F3.1 17 t (by omega) (by omega) (by omega) (by omega)).trans (k2 t ht), fun t h1 h2 => by
          by_cases e : t = i
          · subst e; unfold ls1; rw [if_neg (by omega)]
          · exact hno t h1 (by omega)⟩)
      · have z : gW d i < 4 := by
          have : ¬ gW d i = 4 := fun w => z (by rw [w]; rfl)
          omega
        refine ok_t (ib_nI (by omega) (by omega)) (ok_t (ib_nI (by omega) (by omega)) ?_)
        rw [nI_1, nI_1, nI_clamp (show j < 2 ^ 31 by omega)]
        refine ok_m (ok_t (ib_nI (by omega) (by omega)) (ok_m ?_))
        have vd := (vb_wB (x := gW d i + 1) h hi (by omega)).1
        have eS : gS (wB d i (gW d i + 1)) = gS d := wB_S
        have w5 : (sg_uI (sg_uI M3 1 (28 + i) (nI (gW d i + 1))) 17 j (nI i)).1 1 = wB d i (gW d i + 1) := (funext fun k => uI_na (by omega)).trans (uW w3)
        have hh := hF m (by omega) (wB d i (gW d i + 1)) (j + 1) i _ vd w5 (by omega) (by omega)
        rw [show j + 1 + m = j + (m + 1) by omega] at hh
        refine ok_b hh (fun x M6 g6 => ok_m ?_)
        obtain ⟨hx, w6, r6, k6, l6⟩ := g6
        rw [w6, w_at, if_pos rfl, nI_dec (by omega), Nat.add_sub_cancel]
        refine ok_t (ib_nI (by omega) (by omega)) (ok_t (ib_nI (by omega) (by omega)) (ok_m ?_))
        have w9 : (sg_uI M6 1 (28 + i) (nI (gW d i))).1 1 = d := by rw [uW w6]; exact wB_back h hi
        have r9 : raC M (sg_uI M6 1 (28 + i) (nI (gW d i))) := raC_tr r2 (raC_tr (raC_of (raB_s F3)) (raC_tr (raC_tr raC_1 raC_17) (raC_tr r6 raC_1)))
        have k9 : ∀ t, t < j → (sg_uI M6 1 (28 + i) (nI (gW d i))).1 17 t = M.1 17 t := fun t ht => by rw [uI_na (by omega), k6 t (by omega), uI_nb (by omega), uI_na (by omega), F3.1 17 t (by omega) (by omega) (by omega) (by omega), k2 t ht]
        have hx : x = if (lsr m (wB d i (gW d i + 1)) i).isSome = true then 1 else 0 := hx
        cases e : lsr m (wB d i (gW d i + 1)) i with
        | none =>
          rw [e] at hx
          have hx : x = 0 := hx
          subst hx
          exact ok_t rfl (ok_m (hb _ _ ⟨by rw [nI_1], (by omega), w9, r9, k9, fun t h1 h2 => by
            by_cases q : t = i
            · subst q; unfold ls1; rw [if_pos z, e]; rfl
            · exact hno t h1 (by omega)⟩))
        | some l =>
          rw [e] at hx
          have hx : x = 1 := hx
          subst hx
          have el : lsr (m + 1) d fm = some (i :: l) := lsr_hit hfi hi (by unfold ls1; rw [if_pos z, e]; rfl) hno
          refine ok_f q1 (ok_some ⟨by rw [el]; rfl, w9, r9, k9, fun l2 e2 t ht => ?_⟩)
          rw [el] at e2
          cases e2
          rw [uI_na (by omega)]
          cases t with
          | zero => rw [k6 (j + 0) (by omega)]; show (sg_uI _ 17 j _).1 17 j = _; rw [uI_eq]; rfl
          | succ t => rw [show j + (t + 1) = j + 1 + t by omega, l6 l e t (by omega)]; rfl
    · rintro s M2 back ⟨rfl, hfi, w2, r2, k2, hno⟩
      unfold dsB
      dsimp only
      refine ok_a (r_stp (N := N) h w2 (by omega)) (fun M3 g3 => ?_)
      have F3 := rFr_rsF g3.2
      have el : lsr (m + 1) d fm = none := lsr_no hno
      refine ok_t (nI_le (Nat.le_refl _) (by omega)) (ok_some ⟨by rw [el]; rfl, (rsF_11 F3).trans w2, raC_tr r2 (raC_of (raB_s F3)), fun t ht => (F3.1 17 t (by omega) (by omega) (by omega) (by omega)).trans (k2 t ht), fun l e => by rw [el] at e; cases e⟩)
theorem does4_ok {N : Nat} (hN : 1000 ≤ N) : ∀ m, m < 4 → dsP m (fX11_does4 N) := ds_up (N := N) (F := fX11_does3 N) (ds_up (N := N) (F := fX11_does2 N) (ds_up (N := N) (F := fX11_does1 N) (ds_up (N := N) (F := fX11_does0 N) (k := 0) (fun m hm => absurd hm (by omega)) hN) hN) hN) hN
section LE
variable {N : Nat} {b : Nat → Int32}
theorem lsf_r (n : Nat) : lsf b n = lsr n b 0 := rfl
abbrev pL (b : Nat → Int32) : Nat → Bool := fun n => (lsf b n).isSome
theorem lsN_b : lsN b ≤ 4 := (fst1_s _ 4).1
theorem fewestOf_ok {M : sg_M} (h : vb b) (h1 : M.1 1 = b) (hN : 1000 ≤ N) : okA (fX11_fewestOf N 0 M) (fF (pL b) 4) (fun M1 => M1.1 1 = b ∧ raC M M1 ∧ (lsN b < 4 → ∀ l, lsf b (lsN b) = some l → ∀ i, i < lsN b → M1.1 17 i = nI (l.getD i 0))) := by
  apply okA_of
  unfold fX11_fewestOf
  refine ok_m ?_
  unfold gX11_fewestOf_2
  refine ok_for 0 4 (fun i s M1 => s = (0, nI i) ∧ M1.1 1 = b ∧ raC M M1 ∧ ∀ j, j < i → pL b j = false) (by omega) (by omega) ⟨rfl, h1, raC_refl, fun j hj => absurd hj (by omega)⟩ ?_ ?_
  · rintro i s M1 back hi ⟨rfl, w1, r1, hno⟩ hb
    unfold bX11_fewestOf_2
    dsimp only
    have hh := does4_ok (N := N) hN i hi b 0 0 M1 h w1 (by omega) (Nat.zero_le _)
    rw [Nat.zero_add] at hh
    refine ok_f (show ¬ nI 3 < nI i from nI_nlt (by omega) (by omega)) (ok_b hh (fun x M2 g => ?_))
    obtain ⟨hx, w2, r2, k2, l2⟩ := g
    have hx : x = if (lsr i b 0).isSome = true then 1 else 0 := hx
    by_cases q : (lsr i b 0).isSome = true
    · rw [if_pos q] at hx
      subst hx
      have e : lsN b = i := fst1_u hi q hno
      refine ok_f q1 (ok_some ⟨?_, w2, raC_tr r1 r2, fun _ l e2 t ht => ?_⟩)
      · unfold fF
        rw [fst1_u hi q hno, if_pos hi]
      · rw [e] at e2 ht
        have := l2 l e2 t ht
        rw [Nat.zero_add] at this
        exact this
    · rw [if_neg q] at hx
      subst hx
      exact ok_t rfl (ok_m (hb _ _ ⟨by rw [nI_1], w2, raC_tr r1 r2, fun j hj => by
        by_cases e : j = i
        · subst e; show (lsr j b 0).isSome = false; simpa using q
        · exact hno j (by omega)⟩))
  · rintro s M1 back ⟨rfl, w1, r1, hno⟩
    unfold bX11_fewestOf_2
    dsimp only
    have e : lsN b = 4 := fst1_n hno
    refine ok_t (by decide) (ok_some ⟨?_, w1, r1, fun h4 => absurd h4 (by omega)⟩)
    unfold fF
    rw [fst1_n hno, if_neg (by omega)]
/-! the class -/
theorem wrow_app : ∀ (l1 : List Nat) {d : Nat → Int32} {l2 : List Nat}, wrow d (l1 ++ l2) = match wrow d l1 with
    | none => none
    | some e => wrow e l2 := by
  intro l1
  induction l1 with
  | nil => intro d l2; rfl
  | cons s l ih =>
    intro d l2
    show (if gW d s < 4 then wrow (wB d s (gW d s + 1)) (l ++ l2) else none) = match (if gW d s < 4 then wrow (wB d s (gW d s + 1)) l else none) with
      | none => none
      | some e => wrow e l2
    by_cases q : gW d s < 4
    · rw [if_pos q, if_pos q, ih]
    · rw [if_neg q, if_neg q]
def rowL (l : List Nat) (M : sg_M) : Prop := ∀ i, i < l.length → M.1 207 i = nI (l.getD i 0)
theorem tk1 {l : List Nat} {i : Nat} (hi : i < l.length) : l = l.take i ++ l.getD i 0 :: l.drop (i + 1) := by
  rw [List.getD_eq_getElem?_getD, List.getElem?_eq_getElem hi, Option.getD_some]
  rw [← List.drop_eq_getElem_cons hi, List.take_append_drop]
theorem getD_rep {n i x : Nat} (h : i < n) : (List.replicate n x).getD i 0 = x := by
  rw [List.getD_eq_getElem?_getD, List.getElem?_replicate, if_pos h]
  rfl
theorem getD_mem2 {α : Type} {L : List α} {k : Nat} {z : α} (h : k < L.length) : L.getD k z ∈ L := by
  rw [List.getD_eq_getElem?_getD, List.getElem?_eq_getElem h]
  exact List.getElem_mem h
theorem holdsWider_ok {l : List Nat} {M : sg_M} (h : vb b) (hc : cNet 13 b M) (hl : l.length ≤ 3) (hx : ∀ x, x ∈ l → x < gS b) (hR : rowL l M) (hN : 1000 ≤ N) : okA (fX8_holdsWider N 205 13 (nI l.length) M) (if tryl b l = true then 1 else 0) (fun M1 => wF M M1) := by
  apply okA_of
  have hn := vb_n h
  unfold fX8_holdsWider
  rw [y205_10, y13_11, yn_16, yn_209, show ((0 : Int32)).toNatClampNeg = 0 by decide, show ((12 : Int32)).toNatClampNeg = 12 by decide]
  refine ok_t (by decide) (ok_m (ok_m ?_))
  unfold gX8_holdsWider_17
  refine ok_for 0 l.length (fun i s M1 => s = (205, 13, nI l.length, nI i) ∧ wF M M1 ∧ ∃ d, wrow b (l.take i) = some d ∧ wdv b d ∧ ∀ s, s < 12 → M1.1 209 s = d (28 + s)) (by omega) (by omega) ⟨rfl, fun a k ha => ⟨cpy_na (by omega), by rw [cpy_l]⟩, b, by rw [List.take_zero]; rfl, wdv_r h, fun s hs => by rw [cpy_in hs]; exact hc.2.2.1 s hs⟩ ?_ ?_
  · rintro i s M1 back hi ⟨rfl, hF, d, hd, wv, hW⟩ hb
    have hs : l.getD i 0 < gS b := hx _ (getD_mem hi)
    have w4 := vb_w4 wv.1 (show l.getD i 0 < 12 by omega)
    unfold bX8_holdsWider_17
    dsimp only
    rw [y205_4, y205_10, yn_207, yn_209, nI_clamp (show i < 2 ^ 31 by omega), (hF 207 i (by omega)).1, hR i hi]
    refine ok_f (nI_ge hi (by omega)) (ok_t (ib_nI (by omega) (by omega)) (ok_m ?_))
    rw [nI_clamp (show l.getD i 0 < 2 ^ 31 by omega), hW _ (by omega), vb_w wv.1 (by omega), nI_1]
    refine ok_t (ib_nI (by omega) (by omega)) (ok_t (ib_nI (by omega) (by omega)) (ok_m (ok_t (ib_nI (by omega) (by omega)) ?_)))
    rw [uI_eq]
    refine ok_if (fun z => ?_) (fun z => ?_)
    · have z : gW d (l.getD i 0) < 4 := by
        apply Classical.byContradiction
        intro w
        exact nI_ge (show 4 < gW d (l.getD i 0) + 1 by omega) (by omega) z
      refine ok_m (hb _ _ ⟨by rw [nI_1], fun a k ha => ⟨by rw [uI_na (by omega)]; exact (hF a k ha).1, by rw [uI_l]; exact (hF a k ha).2⟩, _, ?_, wdv_wB wv hs (show gW d (l.getD i 0) + 1 ≤ 4 by omega), fun t ht => ?_⟩)
      · rw [take_s hi, wrow_app, hd]
        show (if gW d (l.getD i 0) < 4 then some (wB d (l.getD i 0) (gW d (l.getD i 0) + 1)) else none) = _
        rw [if_pos z]
      · rw [w_at]
        by_cases e : t = l.getD i 0
        · rw [e, uI_eq, if_pos rfl]
        · rw [uI_nb e, if_neg e]; exact hW t ht
    · have z : ¬ gW d (l.getD i 0) < 4 := fun w => z (show nI (gW d (l.getD i 0) + 1) ≤ nI 4 from nI_le (by omega) (by omega))
      refine ok_some ⟨?_, fun a k ha => ⟨by rw [uI_na (by omega)]; exact (hF a k ha).1, by rw [uI_l]; exact (hF a k ha).2⟩⟩
      have : tryl b l = false := by
        unfold tryl
        rw [tk1 hi, wrow_app, hd]
        show (match (if gW d (l.getD i 0) < 4 then wrow _ _ else none) with | none => false | some b1 => hold b1) = false
        rw [if_neg z]
      rw [this]
      rfl
  · rintro s M1 back ⟨rfl, hF, d, hd, wv, hW⟩
    unfold bX8_holdsWider_17
    dsimp only
    rw [List.take_length] at hd
    have cN : cNet 13 b M1 := cNet_c hc (fun a k g1 g2 _ => (hF a k (by omega)).1)
    rw [y205_10, y205_13, y212_3, y13_12, cN.1.2.2.2.2.2]
    refine ok_t (nI_le (Nat.le_refl _) (by omega)) (ok_bv (settle_w (N := N) (f := 212) (a := 209) K212 (by omega) (by omega) yn_209 cN wv hW hN) (fun M2 h2 => ?_))
    rw [(h2.2 13 2 (by omega)).1, cN.1.2.2.1, vb_2 h, c_wT wv.1 (bsol_sco (f := 212) h2.1) (wdv_sm wv).2.2.1, e_b]
    refine ok_t bz01 (ok_some ⟨?_, fun a k ha => ?_⟩)
    · unfold tryl
      rw [hd]
    · rw [(h2.2 a k (by omega)).1, (h2.2 a k (by omega)).2]
      exact hF a k ha
/-- the next rising row -/
theorem nextRising_ok {l : List Nat} {M : sg_M} (h6 : M.1 13 6 = nI (gS b)) (h : vb b) (hl : l.length ≤ 3) (hx : ∀ x, x ∈ l → x < gS b) (hR : rowL l M) (hN : 1000 ≤ N) : okA (fX8_nextRising N 205 13 (nI l.length) M) (if (nr (gS b) l).isSome = true then 1 else 0) (fun M1 => (∀ a k, a ≠ 207 → M1.1 a k = M.1 a k) ∧ M1.2 = M.2 ∧ ∀ l2, nr (gS b) l = some l2 → rowL l2 M1) := by
  apply okA_of
  have hn := vb_n h
  unfold fX8_nextRising
  refine ok_m ?_
  unfold gX8_nextRising_4
  refine ok_lp (fun m s M1 => ∃ j, j ≤ l.length ∧ m = j ∧ s = (205, 13, nI l.length, nI j - 1) ∧ M = M1 ∧ nr (gS b) l = nri (gS b) l j) ?_ N l.length _ M ⟨l.length, Nat.le_refl _, rfl, rfl, rfl, rfl⟩ (by omega)
  rintro m s M1 back ⟨j, hj, rfl, rfl, rfl, hr⟩ hb
  unfold bX8_nextRising_4
  dsimp only
  cases m with
  | zero =>
    refine ok_t (by decide) (ok_some ⟨?_, fun _ _ _ => rfl, rfl, fun l2 e => ?_⟩)
    · rw [hr]; rfl
    · rw [hr] at e; cases e
  | succ j =>
    have hs : l.getD j 0 < gS b := hx _ (getD_mem hj)
    rw [nI_dec (by omega), Nat.add_sub_cancel, y205_4, yn_207, nI_clamp (show j < 2 ^ 31 by omega), hR j (by omega), h6, nI_1]
    refine ok_f (fun q => by rw [nlt0 (by omega)] at q; exact q) (ok_t (ib_nI (by omega) (by omega)) (ok_if (fun z => ?_) (fun z => ?_)))
    · have z : ¬ l.getD j 0 + 1 < gS b := fun w => nI_ge w (by omega) z
      refine ok_m (hb j _ _ (by omega) ⟨j, (by omega), rfl, by rw [Int32.sub_eq_add_neg], rfl, ?_⟩)
      rw [hr]
      show (if l.getD j 0 + 1 < gS b then _ else nri (gS b) l j) = _
      rw [if_neg z]
    · have z : l.getD j 0 + 1 < gS b := by
        apply Classical.byContradiction
        intro w
        exact z (nI_le (by omega) (by omega))
      have e : nr (gS b) l = some (l.take j ++ List.replicate (l.length - j) (l.getD j 0 + 1)) := by
        rw [hr]
        show (if l.getD j 0 + 1 < gS b then _ else nri (gS b) l j) = _
        rw [if_pos z]
      rw [e]
      refine ok_t (ib_nI (by omega) (by omega)) (ok_m (ok_m ?_))
      unfold gX8_nextRising_36
      refine ok_for j l.length (fun i s M1 => s = (205, nI l.length, nI (l.getD j 0 + 1), nI i) ∧ j ≤ i ∧ (∀ a k, a ≠ 207 → M1.1 a k = M.1 a k) ∧ M1.2 = M.2 ∧ ∀ t, t < l.length → M1.1 207 t = if j ≤ t ∧ t < i then nI (l.getD j 0 + 1) else M.1 207 t) (by omega) (by omega) ⟨rfl, Nat.le_refl _, fun _ _ _ => rfl, rfl, fun t ht => by rw [if_neg (by omega)]⟩ ?_ ?_
      · rintro i s M2 back2 hi ⟨rfl, hji, g1, g2, g3⟩ hb2
        unfold bX8_nextRising_36
        dsimp only
        rw [y205_4, yn_207, nI_clamp (show i < 2 ^ 31 by omega)]
        refine ok_f (nI_ge hi (by omega)) (ok_t (ib_nI (by omega) (by omega)) (ok_m (ok_m (hb2 _ _ ⟨by rw [nI_1], (by omega), fun a k ha => by rw [uI_na ha]; exact g1 a k ha, g2, fun t ht => ?_⟩))))
        by_cases q : t = i
        · subst q; rw [uI_eq, if_pos (by omega)]
        · rw [uI_nb q, g3 t ht]
          by_cases w : j ≤ t ∧ t < i
          · rw [if_pos w, if_pos (by omega)]
          · rw [if_neg w, if_neg (by omega)]
      · rintro s M2 back2 ⟨rfl, hji, g1, g2, g3⟩
        unfold bX8_nextRising_36
        dsimp only
        refine ok_t (nI_le (Nat.le_refl _) (by omega)) (ok_some ⟨rfl, g1, g2, fun l2 e2 t ht => ?_⟩)
        cases e2
        rw [List.length_append, List.length_take, List.length_replicate, Nat.min_eq_left (by omega)] at ht
        rw [g3 t (by omega), getD_app, List.length_take, Nat.min_eq_left (show j ≤ l.length by omega)]
        by_cases w : t < j
        · rw [if_neg (by omega), if_pos w, getD_take w, hR t (by omega)]
        · rw [if_pos (by omega), if_neg w, getD_rep (by omega)]
def wG (M M1 : sg_M) : Prop := ∀ a k, (a < 207 ∨ a = 208 ∨ a = 211 ∨ 228 ≤ a) → M1.1 a k = M.1 a k ∧ M1.2 a k = M.2 a k
theorem wG_tr {M M1 M2 : sg_M} (h : wG M M1) (h2 : wG M1 M2) : wG M M2 := fun a k ha => ⟨((h2 a k ha).1).trans (h a k ha).1, ((h2 a k ha).2).trans (h a k ha).2⟩
set_option maxHeartbeats 1000000 in
theorem findLeast_ok {n : Nat} {M : sg_M} (h : vb b) (hc : cNet 13 b M) (hn4 : n < 4) (hN : 1000 ≤ N) : okA (fX8_findLeast N 205 13 (nI n) M) (if (lsf b n).isSome = true then 1 else 0) (fun M1 => wG M M1 ∧ ∀ l, lsf b n = some l → ∀ i, i < n → M1.1 207 i = nI (l.getD i 0)) := by
  apply okA_of
  have hn := vb_n h
  have n6 : M.1 13 6 = nI (gS b) := (cNet_G hc).2.1
  obtain ⟨a1, a2, a3, a4⟩ := rws_at (n := n) (S := gS b) hn4 (by omega)
  have main : ¬ (gS b = 0 ∧ n ≠ 0) → ok (gX8_findLeast_13 N 205 13 (nI n) M) (fun res => res.1 = (if (lsf b n).isSome = true then 1 else 0) ∧ wG M res.2 ∧ ∀ l, lsf b n = some l → ∀ i, i < n → res.2.1 207 i = nI (l.getD i 0)) := fun hz => by
    have a4 := a4.resolve_left hz
    unfold gX8_findLeast_13
    rw [y205_4]
    refine ok_bv (fillI_ok (N := N) (a := 207) (x := 0) (by rw [yn_207]; omega) hN) (fun M0 g0 => ok_m ?_)
    rw [yn_207] at g0
    obtain ⟨f1, f2, f3⟩ := g0
    unfold gX8_findLeast_23
    refine ok_for 0 (rws n 0 (gS b)).length (fun k s M1 => s = (205, 13, nI n, nI k) ∧ k < (rws n 0 (gS b)).length ∧ rowL ((rws n 0 (gS b)).getD k []) M1 ∧ wG M M1 ∧ ∀ j, j < k → tryl b ((rws n 0 (gS b)).getD j []) = false) (Nat.zero_le _) (by omega) ⟨rfl, a4.2, ?_, fun a k ha => ⟨f3 a k (by omega), by rw [f1]⟩, fun j hj => absurd hj (by omega)⟩ ?_ ?_
    · rw [a4.1]
      intro i hi
      rw [List.length_replicate] at hi
      rw [f2 i (by omega), getD_rep hi]
      rfl
    · rintro k s M1 back hk ⟨rfl, -, hR, hF, hno⟩ hb
      obtain ⟨m1, m2⟩ := a2 _ (getD_mem2 (z := []) hk)
      have cN : cNet 13 b M1 := cNet_c hc (fun a k g1 g2 _ => (hF a k (by omega)).1)
      unfold bX8_findLeast_23
      dsimp only
      have hw := holdsWider_ok (N := N) h cN (l := (rws n 0 (gS b)).getD k []) (by omega) m2 hR hN
      rw [m1] at hw
      refine ok_f (show ¬ nI 400 ≤ nI k from nI_ge (by omega) (by omega)) (ok_a hw (fun M2 F2 => ?_))
      have G2 : wG M M2 := wG_tr hF (fun a k ha => F2 a k (by omega))
      have R2 : rowL ((rws n 0 (gS b)).getD k []) M2 := fun i hi => by rw [(F2 207 i (by omega)).1]; exact hR i hi
      by_cases q : tryl b ((rws n 0 (gS b)).getD k []) = true
      · rw [if_pos q]
        have e : lsf b n = some ((rws n 0 (gS b)).getD k []) := find_at hk hno q
        refine ok_f q1 (ok_some ⟨by rw [e]; rfl, G2, fun l e2 i hi => ?_⟩)
        rw [e] at e2
        cases e2
        exact R2 i (by omega)
      · rw [if_neg q]
        have q : tryl b ((rws n 0 (gS b)).getD k []) = false := by simpa using q
        have hnr := nextRising_ok (N := N) (b := b) (l := (rws n 0 (gS b)).getD k []) (M := M2) (by rw [(G2 13 6 (by omega)).1]; exact n6) h (by omega) m2 R2 hN
        rw [m1] at hnr
        refine ok_t q0 (ok_a hnr (fun M3 g3 => ?_))
        have ek := a1 k hk
        have G3 : wG M M3 := wG_tr G2 (fun a k ha => ⟨g3.1 a k (by omega), by rw [g3.2.1]⟩)
        by_cases w : k + 1 < (rws n 0 (gS b)).length
        · rw [if_pos w] at ek
          rw [ek]
          refine ok_f (show ¬ (if (some ((rws n 0 (gS b)).getD (k + 1) [])).isSome = true then (1 : Int32) else 0) = 0 from q1) (ok_m (hb _ _ ⟨by rw [nI_1], w, g3.2.2 _ ek, G3, fun j hj => ?_⟩))
          by_cases e : j = k
          · rw [e]; exact q
          · exact hno j (by omega)
        · rw [if_neg w] at ek
          rw [ek]
          have e : lsf b n = none := find_no (fun j hj => by
            by_cases e : j = k
            · rw [e]; exact q
            · exact hno j (by omega))
          refine ok_t (show (if (none : Option (List Nat)).isSome = true then (1 : Int32) else 0) = 0 from rfl) (ok_some ⟨by rw [e]; rfl, G3, fun l e2 => by rw [e] at e2; cases e2⟩)
    · rintro s M1 back ⟨rfl, hk, -⟩
      omega
  unfold fX8_findLeast
  rw [n6]
  refine ok_if (fun z => main (fun w => w.2 ((nI_le0 (by omega)).mp z))) (fun z => ok_if (fun y => ?_) (fun y => main (fun w => y ((nI_z (by omega)).mpr w.1))))
  have y := (nI_z (by omega)).mp y
  have e : lsf b n = none := by
    cases n with
    | zero => exact absurd ((nI_le0 (by omega)).mpr rfl) z
    | succ m => unfold lsf; rw [y]; rfl
  exact ok_some ⟨by rw [e]; rfl, fun _ _ _ => ⟨rfl, rfl⟩, fun l e2 => by rw [e] at e2; cases e2⟩
theorem wleast_ok {M : sg_M} (hc : cI b M) (hN : 1000 ≤ N) : ok (fX8_lookLeast N 205 13 M) (fun M1 => cI b M1 ∧ low M M1 ∧ M1.1 205 8 ≠ 0) := by
  have h := hc.1
  unfold fX8_lookLeast
  refine ok_if (fun z => ok_m (ok_m (ok_m ?_))) (fun z => ok_some ⟨hc, low_refl, z⟩)
  suffices hs : ok (gX8_lookLeast_20 N (205, 13, 0) (sg_uI (sg_uI M 205 8 1) 205 3 (-1))) (fun M3 => (∀ a k, (a < 205 ∨ a = 206 ∨ a = 208 ∨ 228 ≤ a ∨ (a = 205 ∧ k ≠ 3 ∧ k ≠ 8)) → M3.1 a k = M.1 a k ∧ M3.2 a k = M.2 a k) ∧ M3.1 205 8 = 1 ∧ M3.1 205 3 = (if lsN b < 4 then nI (lsN b) else -1) ∧ (lsN b < 4 → ∀ l, lsf b (lsN b) = some l → ∀ i, i < lsN b → M3.1 207 i = nI (l.getD i 0))) by
    refine ok_imp hs (fun M3 h3 => ?_)
    obtain ⟨hF, h8, h3, hG⟩ := h3
    have := cI_seg (lo := 205) (hi := 228) hc (fun a k ha => hF a k (by omega)) (by omega) (Or.inr (Or.inr (by omega))) (Or.inr (Or.inr (by omega))) (Or.inl ⟨cSg_c hc.2.2.2.2.2.2.1 (fun k hk => (hF 205 k (by omega)).1) (fun k => (hF 206 k (by omega)).1), fun _ => ⟨h3, hG⟩, cSs_c hc.2.2.2.2.2.2.2.2.1 (fun k hk => (hF 205 k (by omega)).1) (fun k => (hF 208 k (by omega)).1)⟩) (Or.inr (Or.inl (by omega)))
    exact ⟨this.1, this.2, by rw [h8]; decide⟩
  unfold gX8_lookLeast_20
  refine ok_for 0 4 (fun n s M3 => s = (205, 13, nI n) ∧ (∀ a k, (a < 205 ∨ a = 206 ∨ a = 208 ∨ 228 ≤ a ∨ (a = 205 ∧ k ≠ 3 ∧ k ≠ 8)) → M3.1 a k = M.1 a k ∧ M3.2 a k = M.2 a k) ∧ M3.1 205 8 = 1 ∧ ((M3.1 205 3 = -1 ∧ ∀ j, j < n → pL b j = false) ∨ (lsN b < 4 ∧ M3.1 205 3 = nI (lsN b) ∧ ∀ l, lsf b (lsN b) = some l → ∀ i, i < lsN b → M3.1 207 i = nI (l.getD i 0)))) (by omega) (by omega) ⟨rfl, fun a k ha => ⟨by rw [uI_at, if_neg (by omega), uI_at, if_neg (by omega)], rfl⟩, by rw [uI_nb (by omega), uI_eq], Or.inl ⟨uI_eq, fun j hj => absurd hj (by omega)⟩⟩ ?_ ?_
  · rintro n s M3 back hn ⟨rfl, hF, h8, hD⟩ hb
    unfold bX8_lookLeast_20
    dsimp only
    refine ok_f (show ¬ nI 3 < nI n from nI_nlt (by omega) (by omega)) ?_
    rcases hD with ⟨h3, hno⟩ | ⟨h4, h3, hG⟩
    · rw [h3]
      have cN : cNet 13 b M3 := cNet_c (cI_N hc) (fun a k g1 g2 _ => (hF a k (by omega)).1)
      refine ok_t rfl (ok_a (findLeast_ok (N := N) h cN hn hN) (fun M4 g4 => ?_))
      have F4 : ∀ a k, (a < 205 ∨ a = 206 ∨ a = 208 ∨ 228 ≤ a ∨ (a = 205 ∧ k ≠ 3 ∧ k ≠ 8)) → M4.1 a k = M.1 a k ∧ M4.2 a k = M.2 a k := fun a k ha => by rw [(g4.1 a k (by omega)).1, (g4.1 a k (by omega)).2]; exact hF a k ha
      have k8 : M4.1 205 8 = 1 := by rw [(g4.1 205 8 (by omega)).1, h8]
      by_cases q : (lsf b n).isSome = true
      · rw [if_pos q]
        have e : lsN b = n := fst1_u hn q hno
        refine ok_f q1 (ok_m (ok_m (hb _ _ ⟨by rw [nI_1], fun a k ha => ⟨by rw [uI_at, if_neg (by omega)]; exact (F4 a k ha).1, (F4 a k ha).2⟩, by rw [uI_nb (by omega)]; exact k8, Or.inr ⟨(by omega), by rw [e]; exact uI_eq, fun l e2 i hi => ?_⟩⟩)))
        rw [e] at e2 hi
        rw [uI_na (by omega)]
        exact g4.2 l e2 i hi
      · rw [if_neg q]
        exact ok_t q0 (ok_m (hb _ _ ⟨by rw [nI_1], F4, k8, Or.inl ⟨by rw [(g4.1 205 3 (by omega)).1, h3], fun j hj => by
          by_cases e : j = n
          · subst e; show (lsf b j).isSome = false; simpa using q
          · exact hno j (by omega)⟩⟩))
    · rw [h3]
      refine ok_f (fun q => by rw [qn1 (by omega)] at q; exact q) (ok_some ⟨hF, h8, by rw [if_pos h4, h3], fun _ => hG⟩)
  · rintro s M3 back ⟨rfl, hF, h8, hD⟩
    unfold bX8_lookLeast_20
    dsimp only
    refine ok_t (by decide) ?_
    rcases hD with ⟨h3, hno⟩ | ⟨h4, h3, hG⟩
    · have e : lsN b = 4 := fst1_n hno
      exact ok_some ⟨hF, h8, by rw [if_neg (by omega), h3], fun w => absurd w (by omega)⟩
    · exact ok_some ⟨hF, h8, by rw [if_pos h4, h3], fun _ => hG⟩
theorem csl {M : sg_M} (hc : cI b M) (hk : M.1 205 8 ≠ 0) : M.1 205 3 = (if lsN b < 4 then nI (lsN b) else -1) ∧ (lsN b < 4 → ∀ l, lsf b (lsN b) = some l → ∀ i, i < lsN b → M.1 207 i = nI (l.getD i 0)) := hc.2.2.2.2.2.2.2.1 hk
theorem fFL : fF (pL b) 4 = if lsN b < 4 then nI (lsN b) else -1 := rfl
theorem q_fewest (hN : 1000 ≤ N) : bth b (fX10_fewest N 0) (fX11_fewest N 0) := by
  intro Mc Mr hc hr
  have h := hc.1
  obtain ⟨M2, e2, c2, l2, k2⟩ := wleast_ok (N := N) hc hN
  obtain ⟨M1, e1, w1, r1, -⟩ := fewestOf_ok (N := N) h hr hN
  unfold fX10_fewest fX11_fewest
  rw [c_ng hc, r_grd h hr, e_b, e_b, if_pos q0, if_neg q1, y0_10, y0_1, e2, e_bv, e1, e_b, (csl c2 k2).1, fFL]
  exact ⟨_, ⟨_, rfl, c2, l2⟩, ⟨_, rfl, reW_to (raC_W r1) (w1.trans hr.symm)⟩⟩
theorem q_few {x : Int32} (hN : 1000 ≤ N) : bth b (fX10_few N 0 x) (fX11_few N 0 x) := by
  intro Mc Mr hc hr
  have h := hc.1
  obtain ⟨M2, e2, c2, l2, k2⟩ := wleast_ok (N := N) hc hN
  obtain ⟨M1, e1, w1, r1, g1⟩ := fewestOf_ok (N := N) h hr hN
  obtain ⟨t1, t2⟩ := csl c2 k2
  have er : rEq Mr M1 := reW_to (raC_W r1) (w1.trans hr.symm)
  unfold fX10_few fX11_few
  rw [c_ng hc, r_grd h hr, e_b, e_b, if_pos q0, if_neg q1]
  by_cases hx : 0 ≤ x
  case neg =>
    rw [if_neg hx, if_neg hx]
    exact ⟨-2, ⟨_, rfl, hc, low_refl⟩, ⟨_, rfl, rEq_refl⟩⟩
  rw [if_pos hx, if_pos hx, y0_10, y0_1, e2, e_bv, e1, e_b, e_m, t1, fFL, y205_4, yn_207, yr_36, yl_17]
  obtain ⟨t, ht, rfl⟩ := nn_ex hx
  have out : ∀ y : Int32, y ≤ nI t → ∃ A, okA (if y ≤ nI t then some ((-1 : Int32), M2) else if sg_ib (nI t) 3 = true then some (M2.1 207 (nI t).toNatClampNeg, M2) else none) A (fun M1 => cI b M1 ∧ low Mc M1) ∧ okA (if y ≤ nI t then some ((-1 : Int32), M1) else if sg_ib (nI t) 3 = true then some (M1.1 17 (nI t).toNatClampNeg, M1) else none) A (rEq Mr) := fun y hy => by
    rw [if_pos hy, if_pos hy]
    exact ⟨_, ⟨_, rfl, c2, l2⟩, ⟨_, rfl, er⟩⟩
  by_cases q : lsN b < 4
  · rw [if_pos q]
    by_cases w : lsN b ≤ t
    · exact out _ (nI_le w ht)
    · rw [if_neg (nI_ge (by omega) (by omega)), if_neg (nI_ge (by omega) (by omega)), if_pos (ib_nI (by omega) (by omega)), if_pos (ib_nI (by omega) (by omega)), nI_clamp (show t < 2 ^ 31 by omega)]
      have hs : ∃ l, lsf b (lsN b) = some l := by
        have := (fst1_s (pL b) 4).2.1 q
        exact Option.isSome_iff_exists.mp this
      obtain ⟨l, e⟩ := hs
      rw [t2 q l e t (by omega), g1 q l e t (by omega)]
      exact ⟨_, ⟨_, rfl, c2, l2⟩, ⟨_, rfl, er⟩⟩
  · rw [if_neg q]
    refine out _ ?_
    rw [Int32.le_iff_toInt_le, nI_toInt ht, show Int32.toInt (-1) = -1 by decide]
    omega
end LE
