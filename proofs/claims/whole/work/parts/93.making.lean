/-! making objects: what a constructor leaves is a small layout of its own; the parts are put together -/
def mkY (ks ls : List Nat) : sg_Y := (ks.length, fun j => ks.getD j 99, fun j => ls.getD j 0, fun j k => if ks.getD j 99 < 12 then j + (sg_oc.getD (ks.getD j 99) []).getD k 0 else if ks.getD j 99 = 16 then j + 1 + 10 * k else j + 1 + k)
def cn_vi : List (List Int32) := [[], [], [], [(-1)], [], [], [0, 0, (-1)], [], [0, 0, 0, (-1), 0, (-1)], [0, 0, (-1)], [], [0, 0, 0, 0, 0, 0, 0, 0, 0, 0, 0, 0, 0, 0, 0, 0, 0, 0, (-1)]]
def cn_vl : List (List Int64) := [[0, 1], [0, 1], [], [], [], [], [], [0, 0, 1], [], [], [], [0, 0, 0, 0, 0, 0, 0, 0, 0, 0, 0, 0, 0, 0, 0, 0, 0, 0, 0, 0, 0, 0, 0, 0, 0, 0, 1]]
def vI (c k : Nat) : Int32 := if c < 12 then (cn_vi.getD c []).getD k 0 else 0
def vL (c k : Nat) : Int64 := if c < 12 then (cn_vl.getD c []).getD k 0 else 0
def M0 (ks : List Nat) : sg_M := (fun j k => vI (ks.getD j 99) k, fun j k => vL (ks.getD j 99) k)
abbrev cn_s : Type := List Nat × List Nat × (Nat → Nat)
def sgw (cy : Nat → ClassId) (q : cn_s) : va_W := sg_W (mkY q.1 q.2.1) q.2.2 cy (M0 q.1)
def flt (cy : Nat → ClassId) : List cn_s → va_W
  | [] => []
  | q :: S => sgw cy q ++ flt cy S
def adc : List cn_s → Nat → Nat
  | [], _ => 0
  | q :: S, j => if j < q.1.length then q.2.2 j else adc S (j - q.1.length)
theorem sgw_len (cy : Nat → ClassId) (q : cn_s) : (sgw cy q).length = q.1.length := by
  unfold sgw sg_W
  rw [List.length_map, List.length_range]
  rfl
theorem flt_app (cy : Nat → ClassId) : ∀ (S : List cn_s) (q : cn_s), flt cy S ++ sgw cy q = flt cy (S ++ [q]) := by
  intro S q
  induction S with
  | nil => show [] ++ _ = sgw cy q ++ []; rw [List.nil_append, List.append_nil]
  | cons r S ih => show (sgw cy r ++ flt cy S) ++ _ = sgw cy r ++ flt cy (S ++ [q]); rw [List.append_assoc, ih]
theorem flt_app2 (cy : Nat → ClassId) (S1 : List cn_s) (x : Nat × va_E) (S : List cn_s) (q : cn_s) : (flt cy S1 ++ (x :: flt cy S)) ++ sgw cy q = flt cy S1 ++ (x :: flt cy (S ++ [q])) := by
  rw [List.append_assoc, List.cons_append, flt_app]
/-- cells that cover places of a layout, from place a on -/
def cv (D : va_G) (cy : Nat → ClassId) (kp lp : List Nat) (ad : Nat → Nat) (w : va_W) (a : Nat) : Prop := ∀ (i : Nat) (x : Nat × va_E), w[i]? = some x → x.1 = ad (a + i) ∧ ∀ H, va_at D vwCl x H → va_at D vwCl (ad (a + i), sg_E (mkY kp lp) ad cy (M0 kp) (a + i)) H
section CV
variable {D : va_G} {cy : Nat → ClassId} {kp lp : List Nat} {ad : Nat → Nat} {A : Nat → Prop} {H : Heap}
theorem cv_nil {a : Nat} : cv D cy kp lp ad [] a := fun i x h => by cases h
theorem cv_app {w1 w2 : va_W} {a : Nat} (h1 : cv D cy kp lp ad w1 a) (h2 : cv D cy kp lp ad w2 (a + w1.length)) : cv D cy kp lp ad (w1 ++ w2) a := fun i x h => by
  by_cases q : i < w1.length
  · rw [List.getElem?_append_left q] at h
    exact h1 i x h
  · rw [List.getElem?_append_right (by omega)] at h
    have := h2 _ x h
    rwa [show a + w1.length + (i - w1.length) = a + i by omega] at this
theorem cv_fin {w : va_W} (h : cv D cy kp lp ad w 0) (hl : w.length = kp.length) (hP : va_P D vwCl w H) (hD : va_D A w) : va_P D vwCl (sgw cy (kp, lp, ad)) H ∧ va_D A (sgw cy (kp, lp, ad)) := by
  have key : ∀ (k : Nat) (x : Nat × va_E), (sgw cy (kp, lp, ad))[k]? = some x → ∃ y, w[k]? = some y ∧ y.1 = x.1 ∧ (va_at D vwCl y H → va_at D vwCl x H) := by
    intro k x hx
    obtain ⟨hk, rfl⟩ := sg_atlt hx
    have hk : k < kp.length := hk
    have hw : w[k]? = some w[k] := List.getElem?_eq_getElem (by omega)
    obtain ⟨h1, h2⟩ := h k _ hw
    rw [Nat.zero_add] at h1 h2
    exact ⟨_, hw, h1, h2 H⟩
  refine ⟨fun k x hx => ?_, fun i j x y hx hy e => ?_, fun k x hx => ?_⟩
  · obtain ⟨y, h1, -, h3⟩ := key k x hx
    exact h3 (hP k y h1)
  · obtain ⟨x1, a1, a2, -⟩ := key i x hx
    obtain ⟨y1, b1, b2, -⟩ := key j y hy
    exact hD.1 i j x1 y1 a1 b1 (by rw [a2, b2, e])
  · obtain ⟨y, h1, h2, -⟩ := key k x hx
    rw [← h2]
    exact hD.2 k y h1
def emk (kp lp kq lq : List Nat) (o : Nat) : Bool := (List.range kq.length).all (fun i => decide (kp.getD (o + i) 99 = kq.getD i 99) && decide (lp.getD (o + i) 0 = lq.getD i 0) && (if kq.getD i 99 < 12 then (List.range (sg_N (kq.getD i 99))).all (fun k => decide (sg_t (kq.getD i 99) k < 2) || decide (i + (sg_oc.getD (kq.getD i 99) []).getD k 0 < kq.length)) else if kq.getD i 99 < 16 then true else (List.range (lq.getD i 0)).all (fun k => decide ((if kq.getD i 99 = 16 then i + 1 + 10 * k else i + 1 + k) < kq.length))))
theorem arrV_x {cA : ClassId} {n : Nat} {f g : Nat → Value} (h : ∀ j, j < n → f j = g j) : arrV cA n f = arrV cA n g := by
  unfold arrV
  congr 2
  funext j
  exact h j.val j.2
theorem cv_seg {q : cn_s} {a : Nat} (h : emk kp lp q.1 q.2.1 a = true) (ha : ∀ i, i < q.1.length → ad (a + i) = q.2.2 i) : cv D cy kp lp ad (sgw cy q) a := by
  intro i x hx
  obtain ⟨kq, lq, u⟩ := q
  obtain ⟨hi, rfl⟩ := sg_atlt hx
  have hi : i < kq.length := hi
  have ha : ∀ i, i < kq.length → ad (a + i) = u i := ha
  have h2 := List.all_eq_true.mp h i (List.mem_range.mpr hi)
  rw [Bool.and_eq_true, Bool.and_eq_true] at h2
  obtain ⟨⟨e1, e2⟩, e3⟩ := h2
  have e1 : kp.getD (a + i) 99 = kq.getD i 99 := of_decide_eq_true e1
  have e2 : lp.getD (a + i) 0 = lq.getD i 0 := of_decide_eq_true e2
  refine ⟨(ha i hi).symm, fun H hx => ?_⟩
  generalize hc : kq.getD i 99 = c at e1 e3
  have f1 : (mkY kp lp).2.1 (a + i) = c := e1
  have f2 : (mkY kq lq).2.1 i = c := hc
  have g1 : (mkY kp lp).2.2.1 (a + i) = (mkY kq lq).2.2.1 i := e2
  have m1 : (M0 kp).1 (a + i) = (M0 kq).1 i := by
    funext k
    show vI (kp.getD (a + i) 99) k = vI (kq.getD i 99) k
    rw [e1, hc]
  have m2 : (M0 kp).2 (a + i) = (M0 kq).2 i := by
    funext k
    show vL (kp.getD (a + i) 99) k = vL (kq.getD i 99) k
    rw [e1, hc]
  have hx : va_at D vwCl (u i, sg_E (mkY kq lq) u cy (M0 kq) i) H := hx
  rw [ha i hi]
  by_cases h12 : c < 12
  · rw [sg_Eo f1 h12]
    rw [sg_Eo f2 h12] at hx
    rw [if_pos h12] at e3
    have : (List.range (sg_N c)).map (sg_fv (mkY kp lp) ad (M0 kp) (a + i)) = (List.range (sg_N c)).map (sg_fv (mkY kq lq) u (M0 kq) i) := by
      apply List.map_congr_left
      intro k hk
      have e4 := List.all_eq_true.mp e3 k hk
      have r1 : (mkY kp lp).2.2.2 (a + i) k = a + (i + (sg_oc.getD c []).getD k 0) := by
        show (if kp.getD (a + i) 99 < 12 then _ else _) = _
        rw [e1, if_pos h12]
        omega
      have r2 : (mkY kq lq).2.2.2 i k = i + (sg_oc.getD c []).getD k 0 := by
        show (if kq.getD i 99 < 12 then _ else _) = _
        rw [hc, if_pos h12]
      unfold sg_fv
      rw [f1, f2, m1, m2]
      rcases ht : sg_t c k with _ | _ | n
      · rfl
      · rfl
      · show Value.ref _ = Value.ref _
        rw [r1, r2, ha _ ?_]
        rcases Bool.or_eq_true_iff.mp e4 with z | z
        · have := of_decide_eq_true z
          omega
        · exact of_decide_eq_true z
    rw [this]
    exact hx
  · rw [if_neg h12] at e3
    by_cases h14 : c = 14
    · rw [h14] at f1 f2
      rw [sg_EJ f1, g1, m2]
      rw [sg_EJ f2] at hx
      exact hx
    · by_cases h16 : c < 16
      · have hI : c = 12 ∨ c = 13 ∨ c = 15 := by omega
        rw [sg_EI f1 hI, g1, m1]
        rw [sg_EI f2 hI] at hx
        exact hx
      · rw [if_neg h16] at e3
        rw [sg_ER f1 (by omega), g1]
        rw [sg_ER f2 (by omega)] at hx
        have hx : H[u i]? = some (arrV (cy c) ((mkY kq lq).2.2.1 i) (fun j => va_rf (some (u ((mkY kq lq).2.2.2 i j))))) := hx
        show H[u i]? = some (arrV (cy c) ((mkY kq lq).2.2.1 i) (fun j => va_rf (some (ad ((mkY kp lp).2.2.2 (a + i) j)))))
        rw [hx]
        congr 1
        refine arrV_x (fun j hj => ?_)
        have e4 := List.all_eq_true.mp e3 j (List.mem_range.mpr hj)
        have e4 := of_decide_eq_true e4
        have r2 : (mkY kq lq).2.2.2 i j = if c = 16 then i + 1 + 10 * j else i + 1 + j := by
          show (if kq.getD i 99 < 12 then _ else if kq.getD i 99 = 16 then _ else _) = _
          rw [hc, if_neg h12]
        have r1 : (mkY kp lp).2.2.2 (a + i) j = a + (if c = 16 then i + 1 + 10 * j else i + 1 + j) := by
          show (if kp.getD (a + i) 99 < 12 then _ else if kp.getD (a + i) 99 = 16 then _ else _) = _
          rw [e1, if_neg h12]
          by_cases z : c = 16
          · rw [if_pos z, if_pos z]; omega
          · rw [if_neg z, if_neg z]; omega
        rw [r1, r2, ha _ e4]
def emS (kp lp : List Nat) : List (List Nat × List Nat) → Nat → Bool
  | [], _ => true
  | q :: S, a => emk kp lp q.1 q.2 a && emS kp lp S (a + q.1.length)
def cn_tot : List (List Nat × List Nat) → Nat
  | [] => 0
  | q :: S => q.1.length + cn_tot S
def cn_sh (S : List cn_s) : List (List Nat × List Nat) := S.map (fun q => (q.1, q.2.1))
theorem flt_len : ∀ S : List cn_s, (flt cy S).length = cn_tot (cn_sh S) := by
  intro S
  induction S with
  | nil => rfl
  | cons q S ih => show (sgw cy q ++ flt cy S).length = q.1.length + cn_tot (cn_sh S); rw [List.length_append, sgw_len, ih]
theorem adc_0 {q : cn_s} {S : List cn_s} {i : Nat} (h : i < q.1.length) : adc (q :: S) i = q.2.2 i := if_pos h
theorem adc_s {q : cn_s} {S : List cn_s} {i : Nat} : adc (q :: S) (q.1.length + i) = adc S i := by
  show (if _ then _ else _) = _
  rw [if_neg (by omega), show q.1.length + i - q.1.length = i by omega]
theorem cv_S : ∀ (S : List cn_s) (a : Nat), emS kp lp (cn_sh S) a = true → (∀ i, ad (a + i) = adc S i) → cv D cy kp lp ad (flt cy S) a := by
  intro S
  induction S with
  | nil => intro a _ _; exact cv_nil
  | cons q S ih =>
    intro a h ha
    have h : (emk kp lp q.1 q.2.1 a && emS kp lp (cn_sh S) (a + q.1.length)) = true := h
    rw [Bool.and_eq_true] at h
    refine cv_app (cv_seg h.1 (fun i hi => by rw [ha i, adc_0 hi])) ?_
    rw [sgw_len]
    exact ih _ h.2 (fun i => by rw [show a + q.1.length + i = a + (q.1.length + i) by omega, ha, adc_s])
theorem cv_this {c h0 : Nat} {fs : List Value} (hc : kp.getD 0 99 = c) (h12 : c < 12) (h0a : ad 0 = h0) (hf : (List.range (sg_N c)).map (sg_fv (mkY kp lp) ad (M0 kp) 0) = fs) : cv D cy kp lp ad [(h0, .inr (c, fs))] 0 := by
  intro i x hx
  have hi : i < 1 := (List.getElem?_eq_some_iff.mp hx).1
  obtain rfl : i = 0 := by omega
  cases hx
  refine ⟨h0a.symm, fun H hx => ?_⟩
  show va_at D vwCl (ad 0, sg_E (mkY kp lp) ad cy (M0 kp) 0) H
  rw [h0a, sg_Eo (show (mkY kp lp).2.1 0 = c from hc) h12, hf]
  exact hx
theorem cv_arr {a c n q : Nat} {f : Nat → Option Nat} (hc : kp.getD a 99 = c) (h16 : 16 ≤ c) (hn : lp.getD a 0 = n) (hq : ad a = q) (hf : ∀ j, j < n → f j = some (ad ((mkY kp lp).2.2.2 a j))) : cv D cy kp lp ad [(q, .inl (cy c, n, .inr (.inr (.inr (.inr f)))))] a := by
  intro i x hx
  have hi : i < 1 := (List.getElem?_eq_some_iff.mp hx).1
  obtain rfl : i = 0 := by omega
  cases hx
  refine ⟨hq.symm, fun H hx => ?_⟩
  show va_at D vwCl (ad a, sg_E (mkY kp lp) ad cy (M0 kp) a) H
  rw [hq, sg_ER (show (mkY kp lp).2.1 a = c from hc) h16]
  have hx : H[q]? = some (arrV (cy c) n (fun j => va_rf (f j))) := hx
  show H[q]? = some (arrV (cy c) (lp.getD a 0) (fun j => va_rf (some (ad ((mkY kp lp).2.2.2 a j)))))
  rw [hx, hn]
  congr 1
  exact arrV_x (fun j hj => by rw [hf j hj])
/-- a class without rows of references of its own making -/
theorem cn_fin {S : List cn_s} {c h0 : Nat} {fs : List Value} {sh : List (List Nat × List Nat)} (hs : cn_sh S = sh) (hk : emS kp lp sh 1 = true) (hc : kp.getD 0 99 = c) (h12 : c < 12) (hl : 1 + cn_tot sh = kp.length) (hf : (List.range (sg_N c)).map (sg_fv (mkY kp lp) (adc (([c], [0], fun _ => h0) :: S)) (M0 kp) 0) = fs) (hP : va_P D vwCl ((h0, .inr (c, fs)) :: flt cy S) H) (hD : va_D A ((h0, .inr (c, fs)) :: flt cy S)) : ∃ u : Nat → Nat, u 0 = h0 ∧ va_P D vwCl (sgw cy (kp, lp, u)) H ∧ va_D A (sgw cy (kp, lp, u)) := by
  subst hs
  refine ⟨adc (([c], [0], fun _ => h0) :: S), rfl, cv_fin (w := [(h0, (Sum.inr (c, fs) : va_E))] ++ flt cy S) (cv_app (cv_this hc h12 rfl hf) (cv_S S _ hk (fun i => adc_s (q := ([c], [0], fun _ => h0))))) ?_ hP hD⟩
  rw [List.length_append, flt_len, ← hl]
  rfl
/-- a class with one row of references, filled last -/
theorem cn_fin2 {S1 S2 S3 : List cn_s} {c h0 ca n q o : Nat} {f : Nat → Option Nat} {fs : List Value} {s1 s2 s3 : List (List Nat × List Nat)} (hs1 : cn_sh S1 = s1) (hs2 : cn_sh S2 = s2) (hs3 : cn_sh S3 = s3) (ho : 1 + cn_tot s1 = o) (hk1 : emS kp lp s1 1 = true) (hk3 : emS kp lp s3 (o + 1) = true) (hk2 : emS kp lp s2 (o + 1 + cn_tot s3) = true) (hc : kp.getD 0 99 = c) (h12 : c < 12) (hca : kp.getD o 99 = ca) (h16 : 16 ≤ ca) (hn : lp.getD o 0 = n) (hl : o + 1 + cn_tot s3 + cn_tot s2 = kp.length)
    (hf : (List.range (sg_N c)).map (sg_fv (mkY kp lp) (adc (([c], [0], fun _ => h0) :: (S1 ++ (([ca], [n], fun _ => q) :: (S3 ++ S2))))) (M0 kp) 0) = fs) (hr : ∀ j, j < n → f j = some (adc (([c], [0], fun _ => h0) :: (S1 ++ (([ca], [n], fun _ => q) :: (S3 ++ S2)))) ((mkY kp lp).2.2.2 o j)))
    (hP : va_P D vwCl ((h0, .inr (c, fs)) :: (flt cy S1 ++ ((q, .inl (cy ca, n, .inr (.inr (.inr (.inr f))))) :: (flt cy S2 ++ flt cy S3)))) H) (hD : va_D A ((h0, .inr (c, fs)) :: (flt cy S1 ++ ((q, .inl (cy ca, n, .inr (.inr (.inr (.inr f))))) :: (flt cy S2 ++ flt cy S3))))) : ∃ u : Nat → Nat, u 0 = h0 ∧ va_P D vwCl (sgw cy (kp, lp, u)) H ∧ va_D A (sgw cy (kp, lp, u)) := by
  subst hs1; subst hs2; subst hs3
  have e0 : (h0, .inr (c, fs)) :: (flt cy S1 ++ ((q, .inl (cy ca, n, .inr (.inr (.inr (.inr f))))) :: (flt cy S2 ++ flt cy S3))) = ((((h0, .inr (c, fs)) :: flt cy S1) ++ [(q, .inl (cy ca, n, .inr (.inr (.inr (.inr f)))))]) ++ flt cy S2) ++ flt cy S3 := by
    simp only [List.append_assoc, List.cons_append, List.nil_append]
  rw [e0] at hP hD
  have hP := hP.swap
  have hD := hD.swap
  have ap : ∀ (S T : List cn_s) (i : Nat), adc (S ++ T) (cn_tot (cn_sh S) + i) = adc T i := by
    intro S T i
    induction S with
    | nil => show adc T (0 + i) = _; rw [Nat.zero_add]
    | cons r S ih => show adc (r :: (S ++ T)) (r.1.length + cn_tot (cn_sh S) + i) = _; rw [Nat.add_assoc, adc_s, ih]
  have ap1 : ∀ (S T : List cn_s) (i : Nat), i < cn_tot (cn_sh S) → adc (S ++ T) i = adc S i := by
    intro S T
    induction S with
    | nil => intro i h; exact absurd h (by show ¬ i < 0; omega)
    | cons r S ih =>
      intro i h
      have h : i < r.1.length + cn_tot (cn_sh S) := h
      by_cases z : i < r.1.length
      · exact (adc_0 z).trans (adc_0 z).symm
      · rw [show i = r.1.length + (i - r.1.length) by omega]
        show adc (r :: (S ++ T)) _ = adc (r :: S) _
        rw [adc_s, adc_s, ih _ (by omega)]
  have cvS : ∀ (S : List cn_s) (a : Nat) (ad : Nat → Nat), emS kp lp (cn_sh S) a = true → (∀ i, i < cn_tot (cn_sh S) → ad (a + i) = adc S i) → cv D cy kp lp ad (flt cy S) a := by
    intro S
    induction S with
    | nil => intro a ad _ _; exact cv_nil
    | cons r S ih =>
      intro a ad h ha
      have h : (emk kp lp r.1 r.2.1 a && emS kp lp (cn_sh S) (a + r.1.length)) = true := h
      rw [Bool.and_eq_true] at h
      have ha : ∀ i, i < r.1.length + cn_tot (cn_sh S) → ad (a + i) = adc (r :: S) i := ha
      refine cv_app (cv_seg h.1 (fun i hi => by rw [ha i (by omega), adc_0 hi])) ?_
      rw [sgw_len]
      exact ih _ _ h.2 (fun i hi => by rw [show a + r.1.length + i = a + (r.1.length + i) by omega, ha _ (by omega), adc_s])
  have a1 : ∀ i, adc (([c], [0], fun _ => h0) :: (S1 ++ (([ca], [n], fun _ => q) :: (S3 ++ S2)))) (1 + i) = adc (S1 ++ (([ca], [n], fun _ => q) :: (S3 ++ S2))) i := fun i => adc_s (q := ([c], [0], fun _ => h0))
  have a2 : ∀ i, adc (([c], [0], fun _ => h0) :: (S1 ++ (([ca], [n], fun _ => q) :: (S3 ++ S2)))) (o + i) = adc (([ca], [n], fun _ => q) :: (S3 ++ S2)) i := fun i => by rw [← ho, Nat.add_assoc, a1, ap]
  have a3 : ∀ i, adc (([c], [0], fun _ => h0) :: (S1 ++ (([ca], [n], fun _ => q) :: (S3 ++ S2)))) (o + 1 + i) = adc (S3 ++ S2) i := fun i => by rw [Nat.add_assoc, a2]; exact adc_s (q := ([ca], [n], fun _ => q))
  refine ⟨adc (([c], [0], fun _ => h0) :: (S1 ++ (([ca], [n], fun _ => q) :: (S3 ++ S2)))), rfl, cv_fin (w := (([(h0, (Sum.inr (c, fs) : va_E))] ++ flt cy S1) ++ [(q, (Sum.inl (cy ca, n, .inr (.inr (.inr (.inr f)))) : va_E))] ++ flt cy S3) ++ flt cy S2) (cv_app (cv_app (cv_app (cv_app (cv_this hc h12 rfl hf) (cvS S1 1 _ hk1 (fun i hi => by rw [a1, ap1 _ _ _ hi]))) ?_) ?_) ?_) ?_ hP hD⟩
  · rw [List.length_append, flt_len]
    show cv D cy kp lp _ _ (0 + (1 + cn_tot (cn_sh S1)))
    rw [Nat.zero_add, ho]
    exact cv_arr hca h16 hn (by have := a2 0; rw [Nat.add_zero] at this; rw [this]; rfl) hr
  · rw [List.length_append, List.length_append, flt_len]
    show cv D cy kp lp _ _ (0 + (1 + cn_tot (cn_sh S1) + 1))
    rw [Nat.zero_add, ho]
    exact cvS S3 _ _ hk3 (fun i hi => by rw [a3, ap1 _ _ _ hi])
  · rw [List.length_append, List.length_append, List.length_append, flt_len, flt_len]
    show cv D cy kp lp _ _ (0 + (1 + cn_tot (cn_sh S1) + 1 + cn_tot (cn_sh S3)))
    rw [Nat.zero_add, ho]
    exact cvS S2 _ _ hk2 (fun i hi => by rw [Nat.add_assoc, a3, ap])
  · rw [List.length_append, List.length_append, List.length_append, List.length_append, flt_len, flt_len, flt_len, ← hl, ← ho]
    rfl
theorem cn_Dapp {A1 : Nat → Prop} {w1 w2 : va_W} (h1 : va_D A w1) (h2 : va_D A1 w2) (hs : ∀ q, A1 q → A q) (hx : ∀ (k : Nat) (x : Nat × va_E), w1[k]? = some x → ¬ A1 x.1) : va_D A (w1 ++ w2) := by
  have key : ∀ (k : Nat) (q : Nat × va_E), (w1 ++ w2)[k]? = some q → (k < w1.length ∧ w1[k]? = some q) ∨ (w1.length ≤ k ∧ w2[k - w1.length]? = some q) := by
    intro k q hq
    by_cases z : k < w1.length
    · rw [List.getElem?_append_left z] at hq
      exact Or.inl ⟨z, hq⟩
    · rw [List.getElem?_append_right (by omega)] at hq
      exact Or.inr ⟨by omega, hq⟩
  refine ⟨fun i j x y hx1 hy1 e => ?_, fun k x hx1 => ?_⟩
  · rcases key i x hx1 with ⟨a1, a2⟩ | ⟨a1, a2⟩ <;> rcases key j y hy1 with ⟨b1, b2⟩ | ⟨b1, b2⟩
    · exact h1.1 i j x y a2 b2 e
    · exact absurd (h2.2 _ _ b2) (by rw [← e]; exact hx _ _ a2)
    · exact absurd (h2.2 _ _ a2) (by rw [e]; exact hx _ _ b2)
    · have := h2.1 _ _ x y a2 b2 e
      omega
  · rcases key k x hx1 with ⟨a1, a2⟩ | ⟨a1, a2⟩
    · exact h1.2 _ _ a2
    · exact hs _ (h2.2 _ _ a2)
end CV
