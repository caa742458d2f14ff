/-! what the searches find, over blocks -/
def ub (b : Nat → Int32) (k : Nat) (x : Int32) : Nat → Int32 := fun i => if i = k then x else b i
def sco (b : Nat → Int32) : Nat × Int × Int := (bSt b, bMx b, bD b)
def btr (x y : Nat × Int × Int) : Bool := if x.1 = y.1 then decide (x.2.1 * y.2.2 < y.2.1 * x.2.2) else decide (x.1 < y.1)
def wth (T : Nat) (x : Nat × Int × Int) : Bool := decide (x.1 = 0) && decide (x.2.1 ≤ (T : Int) * x.2.2)
theorem hold_w {b : Nat → Int32} : hold b = wth (gT b) (sco b) := rfl
def bst (lt : Nat → Nat → Bool) (p : Nat → Bool) : Nat → Option Nat
  | 0 => none
  | k + 1 => if p k = true then (match bst lt p k with
    | none => some k
    | some j => if lt k j = true then some k else some j) else bst lt p k
def oI : Option Nat → Int32
  | none => -1
  | some v => nI v
theorem bst_lt {lt : Nat → Nat → Bool} {p : Nat → Bool} : ∀ {n j : Nat}, bst lt p n = some j → j < n ∧ p j = true := by
  intro n
  induction n with
  | zero => intro j h; cases h
  | succ n ih =>
    intro j h
    unfold bst at h
    by_cases q : p n = true
    · rw [if_pos q] at h
      cases e : bst lt p n with
      | none =>
        rw [e] at h
        cases h
        exact ⟨by omega, q⟩
      | some i =>
        rw [e] at h
        have h : (if lt n i = true then some n else some i) = some j := h
        by_cases l : lt n i = true
        · rw [if_pos l] at h
          cases h
          exact ⟨by omega, q⟩
        · rw [if_neg l] at h
          cases h
          have := ih e
          exact ⟨by omega, this.2⟩
    · rw [if_neg q] at h
      have := ih h
      exact ⟨by omega, this.2⟩
theorem bst_no {lt : Nat → Nat → Bool} {p : Nat → Bool} {k : Nat} (h : ¬ p k = true) : bst lt p (k + 1) = bst lt p k := by
  show (if _ then _ else _) = _
  rw [if_neg h]
theorem bst_1 {lt : Nat → Nat → Bool} {p : Nat → Bool} {k : Nat} (h : p k = true) (e : bst lt p k = none) : bst lt p (k + 1) = some k := by
  show (if _ then _ else _) = _
  rw [if_pos h, e]
theorem bst_2 {lt : Nat → Nat → Bool} {p : Nat → Bool} {k j : Nat} (h : p k = true) (e : bst lt p k = some j) (l : lt k j = true) : bst lt p (k + 1) = some k := by
  show (if _ then _ else _) = _
  rw [if_pos h, e]
  exact if_pos l
theorem bst_3 {lt : Nat → Nat → Bool} {p : Nat → Bool} {k j : Nat} (h : p k = true) (e : bst lt p k = some j) (l : ¬ lt k j = true) : bst lt p (k + 1) = some j := by
  show (if _ then _ else _) = _
  rw [if_pos h, e]
  exact if_neg l
/-- the first of the first n, or n -/
def fst1 (p : Nat → Bool) : Nat → Nat
  | 0 => 0
  | n + 1 => if fst1 p n < n then fst1 p n else if p n = true then n else n + 1
theorem fst1_s (p : Nat → Bool) : ∀ n, fst1 p n ≤ n ∧ (fst1 p n < n → p (fst1 p n) = true) ∧ ∀ i, i < fst1 p n → p i = false := by
  intro n
  induction n with
  | zero => exact ⟨Nat.le_refl _, fun h => absurd h (by show ¬ 0 < 0; omega), fun i h => absurd h (by show ¬ i < 0; omega)⟩
  | succ n ih =>
    obtain ⟨h1, h2, h3⟩ := ih
    unfold fst1
    by_cases q : fst1 p n < n
    · rw [if_pos q]
      exact ⟨by omega, fun _ => h2 q, h3⟩
    · have e : fst1 p n = n := by omega
      rw [if_neg q]
      rw [e] at h3
      by_cases z : p n = true
      · rw [if_pos z]
        exact ⟨by omega, fun _ => z, h3⟩
      · rw [if_neg z]
        refine ⟨by omega, fun h => absurd h (by omega), fun i hi => ?_⟩
        by_cases y : i = n
        · subst y; simpa using z
        · exact h3 i (by omega)
theorem fst1_u {p : Nat → Bool} {n k : Nat} (hk : k < n) (hp : p k = true) (hn : ∀ i, i < k → p i = false) : fst1 p n = k := by
  obtain ⟨h1, h2, h3⟩ := fst1_s p n
  rcases Nat.lt_trichotomy (fst1 p n) k with h | h | h
  · have := hn _ h
    rw [h2 (by omega)] at this
    cases this
  · exact h
  · rw [h3 k h] at hp
    cases hp
theorem fst1_n {p : Nat → Bool} {n : Nat} (hn : ∀ i, i < n → p i = false) : fst1 p n = n := by
  obtain ⟨h1, h2, h3⟩ := fst1_s p n
  rcases Nat.lt_or_ge (fst1 p n) n with h | h
  · have := hn _ h
    rw [h2 h] at this
    cases this
  · omega
/-- who wears, by bits; a year; years -/
def wbF (b : Nat → Int32) : Nat → Int32
  | 0 => 0
  | k + 1 => wbF b k ||| (if (gE b : Int) * bD b < heat b k then bi k else 0)
def wbs (b : Nat → Int32) : Int32 := wbF b (gS b)
def age (b : Nat → Int32) : Nat → Int32 := fun i => if 28 ≤ i ∧ i < 28 + gS b ∧ bt (wbs b) (i - 28) = true then b i - 1 else b i
def yr (b : Nat → Int32) : Nat → Nat → Int32
  | 0 => b
  | y + 1 => age (yr b y)
def cal (b : Nat → Int32) : Nat := fst1 (fun y => decide (wbs (yr b y) = 0)) 49
def lst (b : Nat → Int32) : Nat := fst1 (fun y => !hold (yr b y)) (cal b + 1)
def wrn (b : Nat → Int32) (s : Nat) : Nat := fst1 (fun y => decide (gW (yr b y) s = 0)) (cal b + 1)
/-- pads -/
def pB (b : Nat → Int32) (v : Nat) : Nat → Int32 := ub b 5 (b 5 ||| bi v)
def nxp (b : Nat → Int32) : Option Nat := bst (fun k j => btr (sco (pB b k)) (sco (pB b j))) (fun v => !bt (b 5) v) (gM b)
def pg (b : Nat → Int32) : Nat → Nat → Int32
  | 0 => b
  | i + 1 => match nxp (pg b i) with
    | none => pg b i
    | some v => pB (pg b i) v
def zB (b : Nat → Int32) (s : Nat) : Nat → Int32 := ub b 5 (b 5 ||| nI s)
def bss (b : Nat → Int32) (n : Nat) : Option Nat := bst (fun k j => btr (sco (zB b k)) (sco (zB b j))) (fun s => decide (cnk (nI s) 9 = n) && decide (nI s &&& b 5 = 0)) (2 ^ gM b)
/-- widths -/
def wB (b : Nat → Int32) (s x : Nat) : Nat → Int32 := ub b (28 + s) (nI x)
def bsu (b : Nat → Int32) : Option Nat := bst (fun k j => btr (sco (wB b k (gW b k + 1))) (sco (wB b j (gW b j + 1)))) (fun s => decide (gW b s < 4)) (gS b)
def nxw (b : Nat → Int32) : Option Nat := match bsu b with
  | none => none
  | some j => if btr (sco (wB b j (gW b j + 1))) (sco b) = true then some j else none
def wg (b : Nat → Int32) : Nat → Nat → Int32
  | 0 => b
  | i + 1 => match nxw (wg b i) with
    | none => wg b i
    | some s => wB (wg b i) s (gW (wg b i) s + 1)
def wgN (b : Nat → Int32) : Nat := fst1 (fun i => hold (wg b i) || (nxw (wg b i)).isNone) 20
def bsd (b : Nat → Int32) : Option Nat := bst (fun k j => btr (sco (wB b k (gW b k - 1))) (sco (wB b j (gW b j - 1)))) (fun s => decide (0 < gW b s)) (gS b)
def nxs (b : Nat → Int32) : Option Nat := match bsd b with
  | none => none
  | some j => if wth (gT b) (sco (wB b j (gW b j - 1))) = true then some j else none
def sl (b : Nat → Int32) : Nat → Nat → Int32
  | 0 => b
  | i + 1 => match nxs (sl b i) with
    | none => sl b i
    | some s => wB (sl b i) s (gW (sl b i) s - 1)
def slN (b : Nat → Int32) : Nat := fst1 (fun i => (nxs (sl b i)).isNone) 49
/-- the least widening: rising rows of straps -/
def rws : Nat → Nat → Nat → List (List Nat)
  | 0, _, _ => [[]]
  | n + 1, fm, S => (List.range (S - fm)).flatMap (fun k => (rws n (fm + k) S).map (fun l => (fm + k) :: l))
def wrow (b : Nat → Int32) : List Nat → Option (Nat → Int32)
  | [] => some b
  | s :: l => if gW b s < 4 then wrow (wB b s (gW b s + 1)) l else none
def tryl (b : Nat → Int32) (l : List Nat) : Bool := match wrow b l with
  | none => false
  | some b1 => hold b1
def lsf (b : Nat → Int32) (n : Nat) : Option (List Nat) := (rws n 0 (gS b)).find? (tryl b)
def lsN (b : Nat → Int32) : Nat := fst1 (fun n => (lsf b n).isSome) 4
/-- straps lost -/
def wo (b : Nat → Int32) (s o : Nat) : Nat → Int32 := ub (ub b (28 + s) 0) (28 + o) 0
def vtl (b : Nat → Int32) : Option Nat := bst (fun k j => btr (sco (wo b j j)) (sco (wo b k k))) (fun s => decide (0 < gW b s)) (gS b)
def sprB (b : Nat → Int32) (s : Nat) : Bool := decide (0 < gW b s) && hold (wo b s s)
def spr (b : Nat → Int32) : Nat → Int32
  | 0 => 0
  | k + 1 => spr b k ||| (if sprB b k = true then bi k else 0)
def isPr (b : Nat → Int32) (s o : Nat) : Bool := sprB b s && sprB b o && !hold (wo b s o)
def prS (b : Nat → Int32) (s : Nat) : Nat → List Int32
  | 0 => []
  | k + 1 => prS b s k ++ (if s < k ∧ isPr b s k = true then [nI (100 * s + k)] else [])
def prs (b : Nat → Int32) : Nat → List Int32
  | 0 => []
  | k + 1 => prs b k ++ prS b k (gS b)
/-! the class's Net and its caches -/
def cNet (q : Nat) (b : Nat → Int32) (M : sg_M) : Prop := (M.1 q 0 = b 0 ∧ M.1 q 1 = b 1 ∧ M.1 q 2 = b 2 ∧ M.1 q 3 = b 3 ∧ M.1 q 4 = b 4 ∧ M.1 q 7 = b 5) ∧ netG (gC b) (gR b) q M ∧ (∀ s, s < 12 → M.1 (q + 3) s = b (28 + s)) ∧ (∀ v, v < 9 → M.1 (q + 4) v = b (6 + v)) ∧ (∀ v, v < 9 → M.1 (q + 5) v = b (15 + v)) ∧ ∀ g, g < 4 → M.1 (q + 6) g = b (24 + g)
abbrev bsol (b : Nat → Int32) (f : Nat) (M : sg_M) : Prop := solved (gC b) (gR b) (gW b) (b 5) (gL b) f M
def cPr (b : Nat → Int32) (M : sg_M) : Prop := M.1 0 5 ≠ 0 → bsol b 55 M
def cYe (b : Nat → Int32) (M : sg_M) : Prop := M.1 106 0 ≠ 0 → M.1 106 1 = nI (cal b) ∧ M.1 106 2 = (if lst b ≤ cal b then nI (lst b) else -1) ∧ ∀ y, y ≤ cal b → ∀ s, s < 12 → M.1 (108 + y) s = yr b y (28 + s)
/-- a Score object -/
def scoAt (x : Nat × Int × Int) (j : Nat) (M : sg_M) : Prop := M.1 j 0 = nI x.1 ∧ M.2 j 1 = lI x.2.1 ∧ M.2 j 2 = lI x.2.2
def cPg (b : Nat → Int32) (M : sg_M) : Prop := M.1 173 3 ≠ 0 → ∃ n, n ≤ gM b ∧ M.1 173 0 = nI n ∧ (∀ i, i < n → ∃ v, nxp (pg b i) = some v ∧ M.1 174 i = nI v) ∧ nxp (pg b n) = none
def cPs (b : Nat → Int32) (M : sg_M) : Prop := ∀ n, n < 10 → M.1 186 n ≠ 0 → M.1 187 n = oI (bss b n) ∧ ∀ s, bss b n = some s → scoAt (sco (zB b s)) (176 + n) M
def cSg (b : Nat → Int32) (M : sg_M) : Prop := M.1 205 7 ≠ 0 → M.1 205 0 = nI (wgN b) ∧ M.1 205 1 = (if hold (wg b (wgN b)) = true then 1 else 0) ∧ ∀ i, i < wgN b → M.1 206 i = oI (nxw (wg b i))
def cSl (b : Nat → Int32) (M : sg_M) : Prop := M.1 205 8 ≠ 0 → M.1 205 3 = (if lsN b < 4 then nI (lsN b) else -1) ∧ (lsN b < 4 → ∀ l, lsf b (lsN b) = some l → ∀ i, i < lsN b → M.1 207 i = nI (l.getD i 0))
def cSs (b : Nat → Int32) (M : sg_M) : Prop := M.1 205 9 ≠ 0 → (hold b = true → M.1 205 5 = nI (slN b) ∧ ∀ s, s < 12 → M.1 208 s = sl b (slN b) (28 + s)) ∧ (hold b = false → M.1 205 5 = -1)
def cLs (b : Nat → Int32) (M : sg_M) : Prop := M.1 228 4 ≠ 0 → M.1 228 0 = oI (vtl b) ∧ M.1 228 1 = spr b (gS b)
def cLp (b : Nat → Int32) (M : sg_M) : Prop := M.1 228 5 ≠ 0 → M.1 228 2 = nI (prs b (gS b)).length ∧ ∀ i, i < (prs b (gS b)).length → M.1 229 i = (prs b (gS b)).getD i 0
def caches (b : Nat → Int32) (M : sg_M) : Prop := cPr b M ∧ cYe b M ∧ cPg b M ∧ cPs b M ∧ cSg b M ∧ cSl b M ∧ cSs b M ∧ cLs b M ∧ cLp b M
/-- the grid that stands, in the class -/
def cI (b : Nat → Int32) (M : sg_M) : Prop := vb b ∧ cNet 13 b M ∧ caches b M
/-- below the flows nothing has changed -/
def low (M M1 : sg_M) : Prop := ∀ a k, a < 55 → (a ≠ 0 ∨ k ≠ 5) → M1.1 a k = M.1 a k
theorem low_tr {M M1 M2 : sg_M} (h : low M M1) (h2 : low M1 M2) : low M M2 := fun a k h1 h3 => (h2 a k h1 h3).trans (h a k h1 h3)
theorem low_refl {M : sg_M} : low M M := fun _ _ _ _ => rfl
/-- all but some places -/
def fr (lo hi : Nat) (M M1 : sg_M) : Prop := ∀ a k, (a < lo ∨ hi ≤ a) → M1.1 a k = M.1 a k ∧ M1.2 a k = M.2 a k
theorem fr_tr {lo hi : Nat} {M M1 M2 : sg_M} (h : fr lo hi M M1) (h2 : fr lo hi M1 M2) : fr lo hi M M2 := fun a k ha => ⟨((h2 a k ha).1).trans (h a k ha).1, ((h2 a k ha).2).trans (h a k ha).2⟩
theorem fr_refl {lo hi : Nat} {M : sg_M} : fr lo hi M M := fun _ _ _ => ⟨rfl, rfl⟩
theorem fr_w {lo hi lo2 hi2 : Nat} {M M1 : sg_M} (h : fr lo hi M M1) (h1 : lo2 ≤ lo) (h2 : hi ≤ hi2) : fr lo2 hi2 M M1 := fun a k ha => h a k (by omega)
theorem cNet_c {q : Nat} {b : Nat → Int32} {M M1 : sg_M} (h : cNet q b M) (e : ∀ a k, q ≤ a → a < q + 7 → (a ≠ q ∨ k ≠ 8) → M1.1 a k = M.1 a k) : cNet q b M1 := by
  obtain ⟨⟨h0, h1, h2, h3, h4, h7⟩, ⟨g5, g6, gA, gB⟩, hw, hl, hg, hb⟩ := h
  refine ⟨⟨?_, ?_, ?_, ?_, ?_, ?_⟩, ⟨?_, ?_, fun s hs => ?_, fun s hs => ?_⟩, fun s hs => ?_, fun v hv => ?_, fun v hv => ?_, fun g hg2 => ?_⟩
  · rw [e q 0 (by omega) (by omega) (by omega), h0]
  · rw [e q 1 (by omega) (by omega) (by omega), h1]
  · rw [e q 2 (by omega) (by omega) (by omega), h2]
  · rw [e q 3 (by omega) (by omega) (by omega), h3]
  · rw [e q 4 (by omega) (by omega) (by omega), h4]
  · rw [e q 7 (by omega) (by omega) (by omega), h7]
  · rw [e q 5 (by omega) (by omega) (by omega), g5]
  · rw [e q 6 (by omega) (by omega) (by omega), g6]
  · rw [e _ s (by omega) (by omega) (by omega), gA s hs]
  · rw [e _ s (by omega) (by omega) (by omega), gB s hs]
  · rw [e _ s (by omega) (by omega) (by omega), hw s hs]
  · rw [e _ v (by omega) (by omega) (by omega), hl v hv]
  · rw [e _ v (by omega) (by omega) (by omega), hg v hv]
  · rw [e _ g (by omega) (by omega) (by omega), hb g hg2]
theorem bsol_c {b : Nat → Int32} {f : Nat} {M M1 : sg_M} (h : bsol b f M) (e : ∀ a k, f ≤ a → a < f + 3 → M1.1 a k = M.1 a k ∧ M1.2 a k = M.2 a k) : bsol b f M1 := by
  obtain ⟨h1, h2, h3, h4, h5, h6⟩ := h
  refine ⟨?_, ?_, fun v hv => ?_, ?_, ?_, ?_⟩
  · rw [(e f 0 (by omega) (by omega)).1, h1]
  · rw [(e f 1 (by omega) (by omega)).2, h2]
  · rw [(e (f + 1) v (by omega) (by omega)).2, h3 v hv]
  · rw [(e (f + 2) 0 (by omega) (by omega)).1, h4]
  · rw [(e (f + 2) 1 (by omega) (by omega)).2, h5]
  · rw [(e (f + 2) 2 (by omega) (by omega)).2, h6]
theorem cYe_c {b : Nat → Int32} {M M1 : sg_M} (h : cYe b M) (e : ∀ a k, 106 ≤ a → a < 157 → M1.1 a k = M.1 a k) (hc : cal b ≤ 48) : cYe b M1 := fun z => by
  rw [e 106 0 (by omega) (by omega)] at z
  obtain ⟨h1, h2, h3⟩ := h z
  exact ⟨by rw [e 106 1 (by omega) (by omega), h1], by rw [e 106 2 (by omega) (by omega), h2], fun y hy s hs => by rw [e _ s (by omega) (by omega), h3 y hy s hs]⟩
theorem cPg_c {b : Nat → Int32} {M M1 : sg_M} (h : cPg b M) (e : ∀ a k, 173 ≤ a → a < 175 → M1.1 a k = M.1 a k) : cPg b M1 := fun z => by
  rw [e 173 3 (by omega) (by omega)] at z
  obtain ⟨n, h1, h2, h3, h4⟩ := h z
  exact ⟨n, h1, by rw [e 173 0 (by omega) (by omega), h2], fun i hi => by obtain ⟨v, e1, e2⟩ := h3 i hi; exact ⟨v, e1, by rw [e 174 i (by omega) (by omega), e2]⟩, h4⟩
theorem scoAt_c {x : Nat × Int × Int} {j : Nat} {M M1 : sg_M} (h : scoAt x j M) (e : ∀ k, M1.1 j k = M.1 j k ∧ M1.2 j k = M.2 j k) : scoAt x j M1 := ⟨by rw [(e 0).1, h.1], by rw [(e 1).2, h.2.1], by rw [(e 2).2, h.2.2]⟩
theorem cPs_c {b : Nat → Int32} {M M1 : sg_M} (h : cPs b M) (e : ∀ a k, 176 ≤ a → a < 188 → M1.1 a k = M.1 a k ∧ M1.2 a k = M.2 a k) : cPs b M1 := fun n hn z => by
  rw [(e 186 n (by omega) (by omega)).1] at z
  obtain ⟨h1, h2⟩ := h n hn z
  exact ⟨by rw [(e 187 n (by omega) (by omega)).1, h1], fun s hs => scoAt_c (h2 s hs) (fun k => e _ k (by omega) (by omega))⟩
theorem cS_c {b : Nat → Int32} {M M1 : sg_M} (h : cSg b M ∧ cSl b M ∧ cSs b M) (e : ∀ a k, 205 ≤ a → a < 209 → M1.1 a k = M.1 a k) : cSg b M1 ∧ cSl b M1 ∧ cSs b M1 := by
  refine ⟨fun z => ?_, fun z => ?_, fun z => ?_⟩
  · rw [e 205 7 (by omega) (by omega)] at z
    obtain ⟨h1, h2, h3⟩ := h.1 z
    exact ⟨by rw [e 205 0 (by omega) (by omega), h1], by rw [e 205 1 (by omega) (by omega), h2], fun i hi => by rw [e 206 i (by omega) (by omega), h3 i hi]⟩
  · rw [e 205 8 (by omega) (by omega)] at z
    obtain ⟨h1, h2⟩ := h.2.1 z
    exact ⟨by rw [e 205 3 (by omega) (by omega), h1], fun h4 l hl i hi => by rw [e 207 i (by omega) (by omega), h2 h4 l hl i hi]⟩
  · rw [e 205 9 (by omega) (by omega)] at z
    obtain ⟨h1, h2⟩ := h.2.2 z
    exact ⟨fun q => ⟨by rw [e 205 5 (by omega) (by omega), (h1 q).1], fun s hs => by rw [e 208 s (by omega) (by omega), (h1 q).2 s hs]⟩, fun q => by rw [e 205 5 (by omega) (by omega), h2 q]⟩
theorem cL_c {b : Nat → Int32} {M M1 : sg_M} (h : cLs b M ∧ cLp b M) (e : ∀ a k, 228 ≤ a → a < 230 → M1.1 a k = M.1 a k) : cLs b M1 ∧ cLp b M1 := by
  refine ⟨fun z => ?_, fun z => ?_⟩
  · rw [e 228 4 (by omega) (by omega)] at z
    obtain ⟨h1, h2⟩ := h.1 z
    exact ⟨by rw [e 228 0 (by omega) (by omega), h1], by rw [e 228 1 (by omega) (by omega), h2]⟩
  · rw [e 228 5 (by omega) (by omega)] at z
    obtain ⟨h1, h2⟩ := h.2 z
    exact ⟨by rw [e 228 2 (by omega) (by omega), h1], fun i hi => by rw [e 229 i (by omega) (by omega), h2 i hi]⟩
theorem cal_b {b : Nat → Int32} : cal b ≤ 49 := (fst1_s _ _).1
