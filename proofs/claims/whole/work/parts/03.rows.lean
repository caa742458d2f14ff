def sg_len : List Nat := [4, 7, 4, 5, 5, 4, 5, 2, 4, 5, 3, 4, 5, 5, 6, 2]
def sg_byt : List (List Int32) := [[103, 114, 105, 100], [99, 111, 108, 117, 109, 110, 115], [114, 111, 119, 115], [119, 105, 100, 116, 104], [108, 105, 109, 105, 116], [119, 101, 97, 114], [115, 116, 114, 97, 112], [97, 116], [101, 97, 115, 116], [115, 111, 117, 116, 104], [112, 97, 100], [108, 111, 97, 100], [100, 114, 97, 119, 115], [103, 114, 111, 117, 112], [98, 117, 100, 103, 101, 116], [105, 115]]
def sg_lits : List (String × Nat × String × Nat) := [("SupplyGrid$Reader", 62, "grid", 0), ("SupplyGrid$Reader", 99, "columns", 1), ("SupplyGrid$Reader", 105, "rows", 2), ("SupplyGrid$Reader", 107, "width", 3), ("SupplyGrid$Reader", 113, "limit", 4), ("SupplyGrid$Reader", 117, "wear", 5), ("SupplyGrid$Reader", 76, "strap", 6), ("SupplyGrid$Reader", 167, "at", 7), ("SupplyGrid$Reader", 127, "east", 8), ("SupplyGrid$Reader", 129, "south", 9), ("SupplyGrid$Reader", 81, "pad", 10), ("SupplyGrid$Reader", 86, "load", 11), ("SupplyGrid$Reader", 151, "draws", 12), ("SupplyGrid$Reader", 153, "group", 13), ("SupplyGrid$Reader", 91, "budget", 14), ("SupplyGrid$Reader", 162, "is", 15), ("SupplyGridModel", 190, "grid", 0), ("SupplyGridModel", 192, "columns", 1), ("SupplyGridModel", 198, "rows", 2), ("SupplyGridModel", 202, "width", 3), ("SupplyGridModel", 204, "limit", 4), ("SupplyGridModel", 206, "wear", 5), ("SupplyGridModel", 234, "strap", 6), ("SupplyGridModel", 208, "at", 7), ("SupplyGridModel", 216, "east", 8), ("SupplyGridModel", 218, "south", 9), ("SupplyGridModel", 239, "pad", 10), ("SupplyGridModel", 241, "load", 11), ("SupplyGridModel", 226, "draws", 12), ("SupplyGridModel", 228, "group", 13), ("SupplyGridModel", 246, "budget", 14), ("SupplyGridModel", 233, "is", 15)]
/-- the String constants and the one static that their methods read, outside A -/
def sg_Str (A : Nat → Prop) (zK zV : Nat → Nat) (U : State) (H : Heap) : Prop := vk_S 16 sg_len sg_byt zK zV A U H ∧ (∀ q ∈ sg_lits, vk_R q.1 q.2.1 q.2.2.1 (zK q.2.2.2) U) ∧ va_Z "java/lang/String" "COMPACT_STRINGS" "Z" (.int 1) A U H ∧ va_Zq "jdk/internal/util/Preconditions" "SIOOBE_FORMATTER" "Ljava/util/function/BiFunction;" A U H
theorem sg_Str.kept {A : Nat → Prop} {zK zV : Nat → Nat} {U : State} {H H1 : Heap} (h : sg_Str A zK zV U H) (hq : ∀ a : Nat, a < H.size → ¬ A a → H1[a]? = H[a]?) : sg_Str A zK zV U H1 := ⟨h.1.kept hq, h.2.1, h.2.2.1.kept hq, h.2.2.2.kept hq⟩
theorem sg_Str.warm {A : Nat → Prop} {zK zV : Nat → Nat} {s U : State} {H : Heap} (h : sg_Str A zK zV s H) (hW : s.WarmedH U.vm) : sg_Str A zK zV U H := ⟨h.1.moved hW.alike, fun q hq => (h.2.1 q hq).warm hW, h.2.2.1.moved hW.alike, h.2.2.2.moved hW.alike⟩
theorem sg_Str.same {A : Nat → Prop} {zK zV : Nat → Nat} {s U : State} {H : Heap} (h : sg_Str A zK zV s H) (hv : U.vm = s.vm) : sg_Str A zK zV U H := ⟨h.1.moved (by rw [hv]; exact Vm.Alike.refl _), fun q hq => (h.2.1 q hq).same hv, h.2.2.1.moved (by rw [hv]; exact Vm.Alike.refl _), h.2.2.2.moved (by rw [hv]; exact Vm.Alike.refl _)⟩
abbrev sg_V : Type := Launch × (Nat → ClassId) × va_G × (Nat → Nat) × (Nat → Nat)
abbrev sg_X : Type := sg_V × Program × Env × Room × State × MethodId × Array Value × List Frame × Method × Code × (State → Prop)
def sg_rm (d : Nat) : Room := { frames := d, cells := 0, slots := 0, locals := 64 * d }
/-- what holds all through a method's walk -/
def sg_C (Y : sg_Y) (ad : Nat → Nat) (X : sg_X) (cc : ByteArray) (own : String) (nL d : Nat) : Prop := match X with
  | ((_, cy, D, zK, zV), p, _, R, s, m, args, _, meth, c, _) => p.tables.exec = Jvm.exec ∧ c.code = cc ∧ c.maxLocals = nL ∧ s.vm.findClass own = some m.cls ∧ (∀ w ∈ sg_G, w.before args s = true) ∧ va_K D vwCl (sg_tys cy) s ∧ sg_inj Y ad ∧ R = sg_rm d ∧ sg_Str (sg_A Y ad) zK zV s s.heap ∧ meth.locks = false
/-- from here (pc, locals, stack, store) the walk comes to its end -/
def sg_T (Y : sg_Y) (ad : Nat → Nat) (X : sg_X) (nL pc : Nat) (lv : List (Nat × Value)) (st : List Value) (M : sg_M) : Prop := match X with
  | ((l, cy, D, _, _), p, e, R, s, m, args, below, meth, c, Q) => ∀ (H : Heap) (locs : List Loc) (ls : Array Slot), va_P D vwCl (sg_W Y ad cy M) H → va_S (sg_A Y ad) s.heap H locs → lv_has ls nL lv → W p l e R s m args below meth c H locs 0 0 Q (F0 m pc ls st)
theorem sg_T.sub {Y : sg_Y} {ad : Nat → Nat} {X : sg_X} {nL pc : Nat} {lv lv' : List (Nat × Value)} {st : List Value} {M : sg_M} (ks : List Nat) (hk : lv_pick lv ks = lv') (h : sg_T Y ad X nL pc lv' st M) : sg_T Y ad X nL pc lv st M := by
  obtain ⟨⟨l, cy, D, zK, zV⟩, p, e, R, s, m, args, below, meth, c, Q⟩ := X
  intro H locs ls hP hS hl
  exact h H locs ls hP hS (lv_sub hl ks hk)
/-- a call's answer, and what is done with it -/
def sg_b {α β : Type} (f : Option (α × sg_M)) (k : α → sg_M → Option β) : Option β := match f with
  | some (a, M) => k a M
  | none => none
def sg_bv {β : Type} (f : Option sg_M) (k : sg_M → Option β) : Option β := match f with
  | some M => k M
  | none => none
/-- a loop: F is one round, its first argument what comes after a back jump -/
def sg_lp {σ β : Type} (F : (σ → sg_M → Option β) → σ → sg_M → Option β) : Nat → σ → sg_M → Option β
  | 0, _, _ => none
  | n + 1, s, M => F (sg_lp F n) s M
/-- an index that is in its row -/
def sg_ib (i : Int32) (n : Nat) : Bool := decide (0 ≤ i.toInt ∧ i.toInt < n)
theorem sg_ib_in {i : Int32} {n : Nat} (h : sg_ib i n = true) : vp_in i n := vp_in_iff.mpr (of_decide_eq_true h)
def sg_bz (v : Int32) : Bool := v == 0 || v == 1
theorem sg_bz_nar {v : Int32} (h : sg_bz v = true) : narrow .boolean (.int v) = .int v := by
  unfold sg_bz at h
  rcases Bool.or_eq_true_iff.mp h with q | q
  · rw [eq_of_beq q]; decide
  · rw [eq_of_beq q]; decide
theorem sg_bz_fit {v : Int32} (h : sg_bz v = true) : fits .boolean (.int v) = true := by
  unfold sg_bz at h
  rcases Bool.or_eq_true_iff.mp h with q | q
  · rw [eq_of_beq q]; decide
  · rw [eq_of_beq q]; decide
theorem sg_if {β : Type} {b : Bool} {x : Option β} {r : β} (h : (if b = true then x else none) = some r) : b = true ∧ x = some r := by
  cases b
  · exact absurd h (by simp)
  · exact ⟨rfl, h⟩
theorem sg_ifn {β : Type} {y : Int64} {x : Option β} {r : β} (h : (if y = 0 then none else x) = some r) : ¬ y = 0 ∧ x = some r := by
  by_cases e : y = 0
  · rw [if_pos e] at h; cases h
  · rw [if_neg e] at h; exact ⟨e, h⟩
theorem sg_ifi {β : Type} {y : Int32} {x : Option β} {r : β} (h : (if y = 0 then none else x) = some r) : ¬ y = 0 ∧ x = some r := by
  by_cases e : y = 0
  · rw [if_pos e] at h; cases h
  · rw [if_neg e] at h; exact ⟨e, h⟩
section SGW
variable {Y : sg_Y} {ad : Nat → Nat} {X : sg_X} {cc : ByteArray} {own : String} {nL d pc : Nat} {lv lv9 : List (Nat × Value)} {st : List Value} {M : sg_M}
theorem s_iadd (C : sg_C Y ad X cc own nL d) {x y : Int32}  (hdg : decode cc pc = .ok (.iadd, 1))  (k : sg_T Y ad X nL (pc + 1) lv (.int (x + y) :: st) M) : sg_T Y ad X nL pc lv (.int y :: .int x :: st) M := by
  obtain ⟨⟨l, cy, D, zK, zV⟩, p, e, R, s, m, args, below, meth, c, Q⟩ := X
  intro H locs ls hP hS hl
  exact lv_iadd C.1 C.2.1 hdg (k H locs ls hP hS hl)
theorem s_isub (C : sg_C Y ad X cc own nL d) {x y : Int32}  (hdg : decode cc pc = .ok (.isub, 1))  (k : sg_T Y ad X nL (pc + 1) lv (.int (x - y) :: st) M) : sg_T Y ad X nL pc lv (.int y :: .int x :: st) M := by
  obtain ⟨⟨l, cy, D, zK, zV⟩, p, e, R, s, m, args, below, meth, c, Q⟩ := X
  intro H locs ls hP hS hl
  exact lv_isub C.1 C.2.1 hdg (k H locs ls hP hS hl)
theorem s_imul (C : sg_C Y ad X cc own nL d) {x y : Int32}  (hdg : decode cc pc = .ok (.imul, 1))  (k : sg_T Y ad X nL (pc + 1) lv (.int (x * y) :: st) M) : sg_T Y ad X nL pc lv (.int y :: .int x :: st) M := by
  obtain ⟨⟨l, cy, D, zK, zV⟩, p, e, R, s, m, args, below, meth, c, Q⟩ := X
  intro H locs ls hP hS hl
  exact lv_imul C.1 C.2.1 hdg (k H locs ls hP hS hl)
theorem s_iand (C : sg_C Y ad X cc own nL d) {x y : Int32}  (hdg : decode cc pc = .ok (.iand, 1))  (k : sg_T Y ad X nL (pc + 1) lv (.int (x &&& y) :: st) M) : sg_T Y ad X nL pc lv (.int y :: .int x :: st) M := by
  obtain ⟨⟨l, cy, D, zK, zV⟩, p, e, R, s, m, args, below, meth, c, Q⟩ := X
  intro H locs ls hP hS hl
  exact lv_iand C.1 C.2.1 hdg (k H locs ls hP hS hl)
theorem s_ior (C : sg_C Y ad X cc own nL d) {x y : Int32}  (hdg : decode cc pc = .ok (.ior, 1))  (k : sg_T Y ad X nL (pc + 1) lv (.int (x ||| y) :: st) M) : sg_T Y ad X nL pc lv (.int y :: .int x :: st) M := by
  obtain ⟨⟨l, cy, D, zK, zV⟩, p, e, R, s, m, args, below, meth, c, Q⟩ := X
  intro H locs ls hP hS hl
  exact lv_ior C.1 C.2.1 hdg (k H locs ls hP hS hl)
theorem s_ixor (C : sg_C Y ad X cc own nL d) {x y : Int32}  (hdg : decode cc pc = .ok (.ixor, 1))  (k : sg_T Y ad X nL (pc + 1) lv (.int (x ^^^ y) :: st) M) : sg_T Y ad X nL pc lv (.int y :: .int x :: st) M := by
  obtain ⟨⟨l, cy, D, zK, zV⟩, p, e, R, s, m, args, below, meth, c, Q⟩ := X
  intro H locs ls hP hS hl
  exact lv_ixor C.1 C.2.1 hdg (k H locs ls hP hS hl)
theorem s_ladd (C : sg_C Y ad X cc own nL d) {x y : Int64}  (hdg : decode cc pc = .ok (.ladd, 1))  (k : sg_T Y ad X nL (pc + 1) lv (.long (x + y) :: st) M) : sg_T Y ad X nL pc lv (.long y :: .long x :: st) M := by
  obtain ⟨⟨l, cy, D, zK, zV⟩, p, e, R, s, m, args, below, meth, c, Q⟩ := X
  intro H locs ls hP hS hl
  exact lv_ladd C.1 C.2.1 hdg (k H locs ls hP hS hl)
theorem s_lsub (C : sg_C Y ad X cc own nL d) {x y : Int64}  (hdg : decode cc pc = .ok (.lsub, 1))  (k : sg_T Y ad X nL (pc + 1) lv (.long (x - y) :: st) M) : sg_T Y ad X nL pc lv (.long y :: .long x :: st) M := by
  obtain ⟨⟨l, cy, D, zK, zV⟩, p, e, R, s, m, args, below, meth, c, Q⟩ := X
  intro H locs ls hP hS hl
  exact lv_lsub C.1 C.2.1 hdg (k H locs ls hP hS hl)
theorem s_lmul (C : sg_C Y ad X cc own nL d) {x y : Int64}  (hdg : decode cc pc = .ok (.lmul, 1))  (k : sg_T Y ad X nL (pc + 1) lv (.long (x * y) :: st) M) : sg_T Y ad X nL pc lv (.long y :: .long x :: st) M := by
  obtain ⟨⟨l, cy, D, zK, zV⟩, p, e, R, s, m, args, below, meth, c, Q⟩ := X
  intro H locs ls hP hS hl
  exact lv_lmul C.1 C.2.1 hdg (k H locs ls hP hS hl)
theorem s_land (C : sg_C Y ad X cc own nL d) {x y : Int64}  (hdg : decode cc pc = .ok (.land, 1))  (k : sg_T Y ad X nL (pc + 1) lv (.long (x &&& y) :: st) M) : sg_T Y ad X nL pc lv (.long y :: .long x :: st) M := by
  obtain ⟨⟨l, cy, D, zK, zV⟩, p, e, R, s, m, args, below, meth, c, Q⟩ := X
  intro H locs ls hP hS hl
  exact lv_land C.1 C.2.1 hdg (k H locs ls hP hS hl)
theorem s_ishl (C : sg_C Y ad X cc own nL d) {x y : Int32}  (hdg : decode cc pc = .ok (.ishl, 1))  (k : sg_T Y ad X nL (pc + 1) lv (.int (x <<< (y &&& 31)) :: st) M) : sg_T Y ad X nL pc lv (.int y :: .int x :: st) M := by
  obtain ⟨⟨l, cy, D, zK, zV⟩, p, e, R, s, m, args, below, meth, c, Q⟩ := X
  intro H locs ls hP hS hl
  exact lv_ishl C.1 C.2.1 hdg (k H locs ls hP hS hl)
theorem s_ishr (C : sg_C Y ad X cc own nL d) {x y : Int32}  (hdg : decode cc pc = .ok (.ishr, 1))  (k : sg_T Y ad X nL (pc + 1) lv (.int (x >>> (y &&& 31)) :: st) M) : sg_T Y ad X nL pc lv (.int y :: .int x :: st) M := by
  obtain ⟨⟨l, cy, D, zK, zV⟩, p, e, R, s, m, args, below, meth, c, Q⟩ := X
  intro H locs ls hP hS hl
  exact lv_ishr C.1 C.2.1 hdg (k H locs ls hP hS hl)
theorem s_iushr (C : sg_C Y ad X cc own nL d) {x y : Int32}  (hdg : decode cc pc = .ok (.iushr, 1))  (k : sg_T Y ad X nL (pc + 1) lv (.int ((x.toUInt32 >>> (y.toUInt32 &&& Int32.toUInt32 31)).toInt32) :: st) M) : sg_T Y ad X nL pc lv (.int y :: .int x :: st) M := by
  obtain ⟨⟨l, cy, D, zK, zV⟩, p, e, R, s, m, args, below, meth, c, Q⟩ := X
  intro H locs ls hP hS hl
  exact lv_iushr C.1 C.2.1 hdg rfl (k H locs ls hP hS hl)
theorem s_ineg (C : sg_C Y ad X cc own nL d) {x : Int32}  (hdg : decode cc pc = .ok (.ineg, 1))  (k : sg_T Y ad X nL (pc + 1) lv (.int (-x) :: st) M) : sg_T Y ad X nL pc lv (.int x :: st) M := by
  obtain ⟨⟨l, cy, D, zK, zV⟩, p, e, R, s, m, args, below, meth, c, Q⟩ := X
  intro H locs ls hP hS hl
  exact lv_ineg C.1 C.2.1 hdg (k H locs ls hP hS hl)
theorem s_lneg (C : sg_C Y ad X cc own nL d) {x : Int64}  (hdg : decode cc pc = .ok (.lneg, 1))  (k : sg_T Y ad X nL (pc + 1) lv (.long (-x) :: st) M) : sg_T Y ad X nL pc lv (.long x :: st) M := by
  obtain ⟨⟨l, cy, D, zK, zV⟩, p, e, R, s, m, args, below, meth, c, Q⟩ := X
  intro H locs ls hP hS hl
  exact lv_lneg C.1 C.2.1 hdg (k H locs ls hP hS hl)
theorem s_i2l (C : sg_C Y ad X cc own nL d) {x : Int32}  (hdg : decode cc pc = .ok (.i2l, 1))  (k : sg_T Y ad X nL (pc + 1) lv (.long x.toInt64 :: st) M) : sg_T Y ad X nL pc lv (.int x :: st) M := by
  obtain ⟨⟨l, cy, D, zK, zV⟩, p, e, R, s, m, args, below, meth, c, Q⟩ := X
  intro H locs ls hP hS hl
  exact lv_i2l C.1 C.2.1 hdg rfl (k H locs ls hP hS hl)
theorem s_l2i (C : sg_C Y ad X cc own nL d) {x : Int64}  (hdg : decode cc pc = .ok (.l2i, 1))  (k : sg_T Y ad X nL (pc + 1) lv (.int x.toInt32 :: st) M) : sg_T Y ad X nL pc lv (.long x :: st) M := by
  obtain ⟨⟨l, cy, D, zK, zV⟩, p, e, R, s, m, args, below, meth, c, Q⟩ := X
  intro H locs ls hP hS hl
  exact lv_l2i C.1 C.2.1 hdg rfl (k H locs ls hP hS hl)
theorem s_i2b (C : sg_C Y ad X cc own nL d) {x : Int32}  (hdg : decode cc pc = .ok (.i2b, 1))  (k : sg_T Y ad X nL (pc + 1) lv (.int x.toInt8.toInt32 :: st) M) : sg_T Y ad X nL pc lv (.int x :: st) M := by
  obtain ⟨⟨l, cy, D, zK, zV⟩, p, e, R, s, m, args, below, meth, c, Q⟩ := X
  intro H locs ls hP hS hl
  exact lv_i2b C.1 C.2.1 hdg rfl (k H locs ls hP hS hl)
theorem s_i2c (C : sg_C Y ad X cc own nL d) {x : Int32}  (hdg : decode cc pc = .ok (.i2c, 1))  (k : sg_T Y ad X nL (pc + 1) lv (.int (x.toUInt32 % 65536).toInt32 :: st) M) : sg_T Y ad X nL pc lv (.int x :: st) M := by
  obtain ⟨⟨l, cy, D, zK, zV⟩, p, e, R, s, m, args, below, meth, c, Q⟩ := X
  intro H locs ls hP hS hl
  exact lv_i2c C.1 C.2.1 hdg rfl (k H locs ls hP hS hl)
theorem s_lcmp (C : sg_C Y ad X cc own nL d) {x y : Int64}  (hdg : decode cc pc = .ok (.lcmp, 1))  (k : sg_T Y ad X nL (pc + 1) lv (.int (lg_cmp x y) :: st) M) : sg_T Y ad X nL pc lv (.long y :: .long x :: st) M := by
  obtain ⟨⟨l, cy, D, zK, zV⟩, p, e, R, s, m, args, below, meth, c, Q⟩ := X
  intro H locs ls hP hS hl
  exact W.lcmp C.1 C.2.1 hdg (k H locs ls hP hS hl)
theorem s_iconst (C : sg_C Y ad X cc own nL d) {n : Int} (v : Int32) (hdg : decode cc pc = .ok (.iconst n, 1)) (hv : Int32.ofInt n = v) (k : sg_T Y ad X nL (pc + 1) lv (.int v :: st) M) : sg_T Y ad X nL pc lv (st) M := by
  obtain ⟨⟨l, cy, D, zK, zV⟩, p, e, R, s, m, args, below, meth, c, Q⟩ := X
  intro H locs ls hP hS hl
  exact lv_iconst C.1 C.2.1 hdg hv (k H locs ls hP hS hl)
theorem s_bipush (C : sg_C Y ad X cc own nL d) {n : Int} (v : Int32) (hdg : decode cc pc = .ok (.bipush n, 2)) (hv : (Int8.ofInt n).toInt32 = v) (k : sg_T Y ad X nL (pc + 2) lv (.int v :: st) M) : sg_T Y ad X nL pc lv (st) M := by
  obtain ⟨⟨l, cy, D, zK, zV⟩, p, e, R, s, m, args, below, meth, c, Q⟩ := X
  intro H locs ls hP hS hl
  exact lv_bipush C.1 C.2.1 hdg hv (k H locs ls hP hS hl)
theorem s_sipush (C : sg_C Y ad X cc own nL d) {n : Int} (v : Int32) (hdg : decode cc pc = .ok (.sipush n, 3)) (hv : (Int16.ofInt n).toInt32 = v) (k : sg_T Y ad X nL (pc + 3) lv (.int v :: st) M) : sg_T Y ad X nL pc lv (st) M := by
  obtain ⟨⟨l, cy, D, zK, zV⟩, p, e, R, s, m, args, below, meth, c, Q⟩ := X
  intro H locs ls hP hS hl
  exact lv_sipush C.1 C.2.1 hdg hv (k H locs ls hP hS hl)
theorem s_lconst (C : sg_C Y ad X cc own nL d) {n : Fin 2} (v : Int64) (hdg : decode cc pc = .ok (.lconst n, 1)) (hv : Int64.ofNat (n : Nat) = v) (k : sg_T Y ad X nL (pc + 1) lv (.long v :: st) M) : sg_T Y ad X nL pc lv (st) M := by
  obtain ⟨⟨l, cy, D, zK, zV⟩, p, e, R, s, m, args, below, meth, c, Q⟩ := X
  intro H locs ls hP hS hl
  exact lv_lconst C.1 C.2.1 hdg hv (k H locs ls hP hS hl)
theorem s_dup (C : sg_C Y ad X cc own nL d) {va : Value}  (hdg : decode cc pc = .ok (.dup, 1)) (hva : va.category = 1) (k : sg_T Y ad X nL (pc + 1) lv (va :: va :: st) M) : sg_T Y ad X nL pc lv (va :: st) M := by
  obtain ⟨⟨l, cy, D, zK, zV⟩, p, e, R, s, m, args, below, meth, c, Q⟩ := X
  intro H locs ls hP hS hl
  exact lv_dup C.1 C.2.1 hdg hva (k H locs ls hP hS hl)
theorem s_dup2 (C : sg_C Y ad X cc own nL d) {va vb : Value}  (hdg : decode cc pc = .ok (.dup2, 1)) (hva : va.category = 1) (hvb : vb.category = 1) (k : sg_T Y ad X nL (pc + 1) lv (va :: vb :: va :: vb :: st) M) : sg_T Y ad X nL pc lv (va :: vb :: st) M := by
  obtain ⟨⟨l, cy, D, zK, zV⟩, p, e, R, s, m, args, below, meth, c, Q⟩ := X
  intro H locs ls hP hS hl
  exact lv_dup2_11 C.1 C.2.1 hdg hva hvb (k H locs ls hP hS hl)
theorem s_pop (C : sg_C Y ad X cc own nL d) {va : Value}  (hdg : decode cc pc = .ok (.pop, 1)) (hva : va.category = 1) (k : sg_T Y ad X nL (pc + 1) lv (st) M) : sg_T Y ad X nL pc lv (va :: st) M := by
  obtain ⟨⟨l, cy, D, zK, zV⟩, p, e, R, s, m, args, below, meth, c, Q⟩ := X
  intro H locs ls hP hS hl
  exact lv_pop C.1 C.2.1 hdg hva (k H locs ls hP hS hl)
theorem s_iload (C : sg_C Y ad X cc own nL d) {i : Nat} {x : Int32} (q : Nat) (hq : lv[q]? = some (i, .int x)) (hdg : decode cc pc = .ok (.iload i, 2)) (k : sg_T Y ad X nL (pc + 2) lv (.int x :: st) M) : sg_T Y ad X nL pc lv st M := by
  obtain ⟨⟨l, cy, D, zK, zV⟩, p, e, R, s, m, args, below, meth, c, Q⟩ := X
  intro H locs ls hP hS hl
  exact lv_iload C.1 C.2.1 hdg (lv_at hl q hq) (k H locs ls hP hS hl)
theorem s_iload_n (C : sg_C Y ad X cc own nL d) {i : Fin 4} {x : Int32} (q : Nat) (hq : lv[q]? = some ((i : Nat), .int x)) (hdg : decode cc pc = .ok (.iload_n i, 1)) (k : sg_T Y ad X nL (pc + 1) lv (.int x :: st) M) : sg_T Y ad X nL pc lv st M := by
  obtain ⟨⟨l, cy, D, zK, zV⟩, p, e, R, s, m, args, below, meth, c, Q⟩ := X
  intro H locs ls hP hS hl
  exact lv_iload_n C.1 C.2.1 hdg rfl (lv_at hl q hq) (k H locs ls hP hS hl)
theorem s_lload (C : sg_C Y ad X cc own nL d) {i : Nat} {x : Int64} (q : Nat) (hq : lv[q]? = some (i, .long x)) (hdg : decode cc pc = .ok (.lload i, 2)) (k : sg_T Y ad X nL (pc + 2) lv (.long x :: st) M) : sg_T Y ad X nL pc lv st M := by
  obtain ⟨⟨l, cy, D, zK, zV⟩, p, e, R, s, m, args, below, meth, c, Q⟩ := X
  intro H locs ls hP hS hl
  exact lv_lload C.1 C.2.1 hdg (lv_at hl q hq) (k H locs ls hP hS hl)
theorem s_lload_n (C : sg_C Y ad X cc own nL d) {i : Fin 4} {x : Int64} (q : Nat) (hq : lv[q]? = some ((i : Nat), .long x)) (hdg : decode cc pc = .ok (.lload_n i, 1)) (k : sg_T Y ad X nL (pc + 1) lv (.long x :: st) M) : sg_T Y ad X nL pc lv st M := by
  obtain ⟨⟨l, cy, D, zK, zV⟩, p, e, R, s, m, args, below, meth, c, Q⟩ := X
  intro H locs ls hP hS hl
  exact lv_lload_n C.1 C.2.1 hdg rfl (lv_at hl q hq) (k H locs ls hP hS hl)
theorem s_aload (C : sg_C Y ad X cc own nL d) {i : Nat} {x : Nat} (q : Nat) (hq : lv[q]? = some (i, .ref x)) (hdg : decode cc pc = .ok (.aload i, 2)) (k : sg_T Y ad X nL (pc + 2) lv (.ref x :: st) M) : sg_T Y ad X nL pc lv st M := by
  obtain ⟨⟨l, cy, D, zK, zV⟩, p, e, R, s, m, args, below, meth, c, Q⟩ := X
  intro H locs ls hP hS hl
  exact lv_aload C.1 C.2.1 hdg (lv_at hl q hq) (k H locs ls hP hS hl)
theorem s_aload_n (C : sg_C Y ad X cc own nL d) {i : Fin 4} {x : Nat} (q : Nat) (hq : lv[q]? = some ((i : Nat), .ref x)) (hdg : decode cc pc = .ok (.aload_n i, 1)) (k : sg_T Y ad X nL (pc + 1) lv (.ref x :: st) M) : sg_T Y ad X nL pc lv st M := by
  obtain ⟨⟨l, cy, D, zK, zV⟩, p, e, R, s, m, args, below, meth, c, Q⟩ := X
  intro H locs ls hP hS hl
  exact lv_aload_n C.1 C.2.1 hdg rfl (lv_at hl q hq) (k H locs ls hP hS hl)
theorem s_istore (C : sg_C Y ad X cc own nL d) {i : Nat} {x : Int32} (hn : i < nL) (hv : (i, Value.int x) :: lv.filter (fun q => !(q.1 == i) && !(q.1 + 1 == i && q.2.category == 2)) = lv9) (hdg : decode cc pc = .ok (.istore i, 2)) (k : sg_T Y ad X nL (pc + 2) lv9 st M) : sg_T Y ad X nL pc lv (.int x :: st) M := by
  obtain ⟨⟨l, cy, D, zK, zV⟩, p, e, R, s, m, args, below, meth, c, Q⟩ := X
  intro H locs ls hP hS hl
  exact lv_istore C.1 C.2.1 hdg hl hn hv (fun ls1 hl1 => k H locs ls1 hP hS hl1)
theorem s_istore_n (C : sg_C Y ad X cc own nL d) {i4 : Fin 4} {i : Nat} {x : Int32} (hi : (i4 : Nat) = i) (hn : i < nL) (hv : (i, Value.int x) :: lv.filter (fun q => !(q.1 == i) && !(q.1 + 1 == i && q.2.category == 2)) = lv9) (hdg : decode cc pc = .ok (.istore_n i4, 1)) (k : sg_T Y ad X nL (pc + 1) lv9 st M) : sg_T Y ad X nL pc lv (.int x :: st) M := by
  obtain ⟨⟨l, cy, D, zK, zV⟩, p, e, R, s, m, args, below, meth, c, Q⟩ := X
  intro H locs ls hP hS hl
  exact lv_istore_n C.1 C.2.1 hdg hi hl hn hv (fun ls1 hl1 => k H locs ls1 hP hS hl1)
theorem s_lstore (C : sg_C Y ad X cc own nL d) {i : Nat} {x : Int64} (hn : i + 1 < nL) (hv : (i, Value.long x) :: lv.filter (fun q => !(q.1 == i) && (!(q.1 == i + 1) && !(q.1 + 1 == i && q.2.category == 2))) = lv9) (hdg : decode cc pc = .ok (.lstore i, 2)) (k : sg_T Y ad X nL (pc + 2) lv9 st M) : sg_T Y ad X nL pc lv (.long x :: st) M := by
  obtain ⟨⟨l, cy, D, zK, zV⟩, p, e, R, s, m, args, below, meth, c, Q⟩ := X
  intro H locs ls hP hS hl
  exact lv_lstore C.1 C.2.1 hdg hl hn hv (fun ls1 hl1 => k H locs ls1 hP hS hl1)
theorem s_lstore_n (C : sg_C Y ad X cc own nL d) {i4 : Fin 4} {i : Nat} {x : Int64} (hi : (i4 : Nat) = i) (hn : i + 1 < nL) (hv : (i, Value.long x) :: lv.filter (fun q => !(q.1 == i) && (!(q.1 == i + 1) && !(q.1 + 1 == i && q.2.category == 2))) = lv9) (hdg : decode cc pc = .ok (.lstore_n i4, 1)) (k : sg_T Y ad X nL (pc + 1) lv9 st M) : sg_T Y ad X nL pc lv (.long x :: st) M := by
  obtain ⟨⟨l, cy, D, zK, zV⟩, p, e, R, s, m, args, below, meth, c, Q⟩ := X
  intro H locs ls hP hS hl
  exact lv_lstore_n C.1 C.2.1 hdg hi hl hn hv (fun ls1 hl1 => k H locs ls1 hP hS hl1)
theorem s_astore (C : sg_C Y ad X cc own nL d) {i : Nat} {x : Nat} (hn : i < nL) (hv : (i, Value.ref x) :: lv.filter (fun q => !(q.1 == i) && !(q.1 + 1 == i && q.2.category == 2)) = lv9) (hdg : decode cc pc = .ok (.astore i, 2)) (k : sg_T Y ad X nL (pc + 2) lv9 st M) : sg_T Y ad X nL pc lv (.ref x :: st) M := by
  obtain ⟨⟨l, cy, D, zK, zV⟩, p, e, R, s, m, args, below, meth, c, Q⟩ := X
  intro H locs ls hP hS hl
  exact lv_astore C.1 C.2.1 hdg hl hn hv (fun ls1 hl1 => k H locs ls1 hP hS hl1)
theorem s_astore_n (C : sg_C Y ad X cc own nL d) {i4 : Fin 4} {i : Nat} {x : Nat} (hi : (i4 : Nat) = i) (hn : i < nL) (hv : (i, Value.ref x) :: lv.filter (fun q => !(q.1 == i) && !(q.1 + 1 == i && q.2.category == 2)) = lv9) (hdg : decode cc pc = .ok (.astore_n i4, 1)) (k : sg_T Y ad X nL (pc + 1) lv9 st M) : sg_T Y ad X nL pc lv (.ref x :: st) M := by
  obtain ⟨⟨l, cy, D, zK, zV⟩, p, e, R, s, m, args, below, meth, c, Q⟩ := X
  intro H locs ls hP hS hl
  exact lv_astore_n C.1 C.2.1 hdg hi hl hn hv (fun ls1 hl1 => k H locs ls1 hP hS hl1)
theorem s_iinc (C : sg_C Y ad X cc own nL d) {i q : Nat} {n : Int} {x : Int32} (v : Int32) (hq : lv[q]? = some (i, .int x)) (hx : x + Int32.ofInt n = v) (hn : i < nL) (hv : (i, Value.int v) :: lv.filter (fun q => !(q.1 == i) && !(q.1 + 1 == i && q.2.category == 2)) = lv9) (hdg : decode cc pc = .ok (.iinc i n, 3)) (k : sg_T Y ad X nL (pc + 3) lv9 st M) : sg_T Y ad X nL pc lv st M := by
  obtain ⟨⟨l, cy, D, zK, zV⟩, p, e, R, s, m, args, below, meth, c, Q⟩ := X
  intro H locs ls hP hS hl
  exact lv_iinc C.1 C.2.1 hdg hl hq hx hn hv (fun ls1 hl1 => k H locs ls1 hP hS hl1)
theorem s_goto (C : sg_C Y ad X cc own nL d) {off : Int} (tgt : Nat) (ht : (pc : Int) + off = (tgt : Int)) (hdg : decode cc pc = .ok (.goto off, 3)) (k : sg_T Y ad X nL tgt lv st M) : sg_T Y ad X nL pc lv st M := by
  obtain ⟨⟨l, cy, D, zK, zV⟩, p, e, R, s, m, args, below, meth, c, Q⟩ := X
  intro H locs ls hP hS hl
  exact lv_goto C.1 C.2.1 hdg ht (k H locs ls hP hS hl)
theorem s_if_eq (C : sg_C Y ad X cc own nL d) {β : Type} {A B : Option β} {r : β} {x : Int32} {off : Int} (tgt : Nat) (ht : (pc : Int) + off = (tgt : Int)) (hdg : decode cc pc = .ok (.ifCond .eq off, 3)) (h : (if x = 0 then A else B) = some r) (ka : x = 0 → A = some r → sg_T Y ad X nL (tgt) lv st M) (kb : ¬ x = 0 → B = some r → sg_T Y ad X nL (pc + 3) lv st M) : sg_T Y ad X nL pc lv (.int x :: st) M := by
  obtain ⟨⟨l, cy, D, zK, zV⟩, p, e, R, s, m, args, below, meth, c, Q⟩ := X
  intro H locs ls hP hS hl
  exact lv_if_eq C.1 C.2.1 hdg ht (fun q => ka q (by rw [if_pos q] at h; exact h) H locs ls hP hS hl) (fun q => kb q (by rw [if_neg q] at h; exact h) H locs ls hP hS hl)
theorem s_if_ne (C : sg_C Y ad X cc own nL d) {β : Type} {A B : Option β} {r : β} {x : Int32} {off : Int} (tgt : Nat) (ht : (pc : Int) + off = (tgt : Int)) (hdg : decode cc pc = .ok (.ifCond .ne off, 3)) (h : (if x = 0 then A else B) = some r) (ka : x = 0 → A = some r → sg_T Y ad X nL (pc + 3) lv st M) (kb : ¬ x = 0 → B = some r → sg_T Y ad X nL (tgt) lv st M) : sg_T Y ad X nL pc lv (.int x :: st) M := by
  obtain ⟨⟨l, cy, D, zK, zV⟩, p, e, R, s, m, args, below, meth, c, Q⟩ := X
  intro H locs ls hP hS hl
  exact lv_if_ne C.1 C.2.1 hdg ht (fun q => kb q (by rw [if_neg q] at h; exact h) H locs ls hP hS hl) (fun q => ka q (by rw [if_pos q] at h; exact h) H locs ls hP hS hl)
theorem s_if_lt (C : sg_C Y ad X cc own nL d) {β : Type} {A B : Option β} {r : β} {x : Int32} {off : Int} (tgt : Nat) (ht : (pc : Int) + off = (tgt : Int)) (hdg : decode cc pc = .ok (.ifCond .lt off, 3)) (h : (if x < 0 then A else B) = some r) (ka : x < 0 → A = some r → sg_T Y ad X nL (tgt) lv st M) (kb : ¬ x < 0 → B = some r → sg_T Y ad X nL (pc + 3) lv st M) : sg_T Y ad X nL pc lv (.int x :: st) M := by
  obtain ⟨⟨l, cy, D, zK, zV⟩, p, e, R, s, m, args, below, meth, c, Q⟩ := X
  intro H locs ls hP hS hl
  exact lv_if_lt C.1 C.2.1 hdg ht (fun q => ka q (by rw [if_pos q] at h; exact h) H locs ls hP hS hl) (fun q => kb q (by rw [if_neg q] at h; exact h) H locs ls hP hS hl)
theorem s_if_ge (C : sg_C Y ad X cc own nL d) {β : Type} {A B : Option β} {r : β} {x : Int32} {off : Int} (tgt : Nat) (ht : (pc : Int) + off = (tgt : Int)) (hdg : decode cc pc = .ok (.ifCond .ge off, 3)) (h : (if 0 ≤ x then A else B) = some r) (ka : 0 ≤ x → A = some r → sg_T Y ad X nL (tgt) lv st M) (kb : ¬ 0 ≤ x → B = some r → sg_T Y ad X nL (pc + 3) lv st M) : sg_T Y ad X nL pc lv (.int x :: st) M := by
  obtain ⟨⟨l, cy, D, zK, zV⟩, p, e, R, s, m, args, below, meth, c, Q⟩ := X
  intro H locs ls hP hS hl
  exact lv_if_ge C.1 C.2.1 hdg ht (fun q => ka q (by rw [if_pos q] at h; exact h) H locs ls hP hS hl) (fun q => kb q (by rw [if_neg q] at h; exact h) H locs ls hP hS hl)
theorem s_if_gt (C : sg_C Y ad X cc own nL d) {β : Type} {A B : Option β} {r : β} {x : Int32} {off : Int} (tgt : Nat) (ht : (pc : Int) + off = (tgt : Int)) (hdg : decode cc pc = .ok (.ifCond .gt off, 3)) (h : (if 0 < x then A else B) = some r) (ka : 0 < x → A = some r → sg_T Y ad X nL (tgt) lv st M) (kb : ¬ 0 < x → B = some r → sg_T Y ad X nL (pc + 3) lv st M) : sg_T Y ad X nL pc lv (.int x :: st) M := by
  obtain ⟨⟨l, cy, D, zK, zV⟩, p, e, R, s, m, args, below, meth, c, Q⟩ := X
  intro H locs ls hP hS hl
  exact lv_if_gt C.1 C.2.1 hdg ht (fun q => ka q (by rw [if_pos q] at h; exact h) H locs ls hP hS hl) (fun q => kb q (by rw [if_neg q] at h; exact h) H locs ls hP hS hl)
theorem s_if_le (C : sg_C Y ad X cc own nL d) {β : Type} {A B : Option β} {r : β} {x : Int32} {off : Int} (tgt : Nat) (ht : (pc : Int) + off = (tgt : Int)) (hdg : decode cc pc = .ok (.ifCond .le off, 3)) (h : (if x ≤ 0 then A else B) = some r) (ka : x ≤ 0 → A = some r → sg_T Y ad X nL (tgt) lv st M) (kb : ¬ x ≤ 0 → B = some r → sg_T Y ad X nL (pc + 3) lv st M) : sg_T Y ad X nL pc lv (.int x :: st) M := by
  obtain ⟨⟨l, cy, D, zK, zV⟩, p, e, R, s, m, args, below, meth, c, Q⟩ := X
  intro H locs ls hP hS hl
  exact lv_if_le C.1 C.2.1 hdg ht (fun q => ka q (by rw [if_pos q] at h; exact h) H locs ls hP hS hl) (fun q => kb q (by rw [if_neg q] at h; exact h) H locs ls hP hS hl)
theorem s_icmp_eq (C : sg_C Y ad X cc own nL d) {β : Type} {A B : Option β} {r : β} {x y : Int32} {off : Int} (tgt : Nat) (ht : (pc : Int) + off = (tgt : Int)) (hdg : decode cc pc = .ok (.if_icmp .eq off, 3)) (h : (if x = y then A else B) = some r) (ka : x = y → A = some r → sg_T Y ad X nL (tgt) lv st M) (kb : ¬ x = y → B = some r → sg_T Y ad X nL (pc + 3) lv st M) : sg_T Y ad X nL pc lv (.int y :: .int x :: st) M := by
  obtain ⟨⟨l, cy, D, zK, zV⟩, p, e, R, s, m, args, below, meth, c, Q⟩ := X
  intro H locs ls hP hS hl
  exact lv_icmp_eq C.1 C.2.1 hdg ht (fun q => ka q (by rw [if_pos q] at h; exact h) H locs ls hP hS hl) (fun q => kb q (by rw [if_neg q] at h; exact h) H locs ls hP hS hl)
theorem s_icmp_ne (C : sg_C Y ad X cc own nL d) {β : Type} {A B : Option β} {r : β} {x y : Int32} {off : Int} (tgt : Nat) (ht : (pc : Int) + off = (tgt : Int)) (hdg : decode cc pc = .ok (.if_icmp .ne off, 3)) (h : (if x = y then A else B) = some r) (ka : x = y → A = some r → sg_T Y ad X nL (pc + 3) lv st M) (kb : ¬ x = y → B = some r → sg_T Y ad X nL (tgt) lv st M) : sg_T Y ad X nL pc lv (.int y :: .int x :: st) M := by
  obtain ⟨⟨l, cy, D, zK, zV⟩, p, e, R, s, m, args, below, meth, c, Q⟩ := X
  intro H locs ls hP hS hl
  exact lv_icmp_ne C.1 C.2.1 hdg ht (fun q => kb q (by rw [if_neg q] at h; exact h) H locs ls hP hS hl) (fun q => ka q (by rw [if_pos q] at h; exact h) H locs ls hP hS hl)
theorem s_icmp_lt (C : sg_C Y ad X cc own nL d) {β : Type} {A B : Option β} {r : β} {x y : Int32} {off : Int} (tgt : Nat) (ht : (pc : Int) + off = (tgt : Int)) (hdg : decode cc pc = .ok (.if_icmp .lt off, 3)) (h : (if x < y then A else B) = some r) (ka : x < y → A = some r → sg_T Y ad X nL (tgt) lv st M) (kb : ¬ x < y → B = some r → sg_T Y ad X nL (pc + 3) lv st M) : sg_T Y ad X nL pc lv (.int y :: .int x :: st) M := by
  obtain ⟨⟨l, cy, D, zK, zV⟩, p, e, R, s, m, args, below, meth, c, Q⟩ := X
  intro H locs ls hP hS hl
  exact lv_icmp_lt C.1 C.2.1 hdg ht (fun q => ka q (by rw [if_pos q] at h; exact h) H locs ls hP hS hl) (fun q => kb q (by rw [if_neg q] at h; exact h) H locs ls hP hS hl)
theorem s_icmp_ge (C : sg_C Y ad X cc own nL d) {β : Type} {A B : Option β} {r : β} {x y : Int32} {off : Int} (tgt : Nat) (ht : (pc : Int) + off = (tgt : Int)) (hdg : decode cc pc = .ok (.if_icmp .ge off, 3)) (h : (if y ≤ x then A else B) = some r) (ka : y ≤ x → A = some r → sg_T Y ad X nL (tgt) lv st M) (kb : ¬ y ≤ x → B = some r → sg_T Y ad X nL (pc + 3) lv st M) : sg_T Y ad X nL pc lv (.int y :: .int x :: st) M := by
  obtain ⟨⟨l, cy, D, zK, zV⟩, p, e, R, s, m, args, below, meth, c, Q⟩ := X
  intro H locs ls hP hS hl
  exact lv_icmp_ge C.1 C.2.1 hdg ht (fun q => ka q (by rw [if_pos q] at h; exact h) H locs ls hP hS hl) (fun q => kb q (by rw [if_neg q] at h; exact h) H locs ls hP hS hl)
theorem s_icmp_gt (C : sg_C Y ad X cc own nL d) {β : Type} {A B : Option β} {r : β} {x y : Int32} {off : Int} (tgt : Nat) (ht : (pc : Int) + off = (tgt : Int)) (hdg : decode cc pc = .ok (.if_icmp .gt off, 3)) (h : (if y < x then A else B) = some r) (ka : y < x → A = some r → sg_T Y ad X nL (tgt) lv st M) (kb : ¬ y < x → B = some r → sg_T Y ad X nL (pc + 3) lv st M) : sg_T Y ad X nL pc lv (.int y :: .int x :: st) M := by
  obtain ⟨⟨l, cy, D, zK, zV⟩, p, e, R, s, m, args, below, meth, c, Q⟩ := X
  intro H locs ls hP hS hl
  exact lv_icmp_gt C.1 C.2.1 hdg ht (fun q => ka q (by rw [if_pos q] at h; exact h) H locs ls hP hS hl) (fun q => kb q (by rw [if_neg q] at h; exact h) H locs ls hP hS hl)
theorem s_icmp_le (C : sg_C Y ad X cc own nL d) {β : Type} {A B : Option β} {r : β} {x y : Int32} {off : Int} (tgt : Nat) (ht : (pc : Int) + off = (tgt : Int)) (hdg : decode cc pc = .ok (.if_icmp .le off, 3)) (h : (if x ≤ y then A else B) = some r) (ka : x ≤ y → A = some r → sg_T Y ad X nL (tgt) lv st M) (kb : ¬ x ≤ y → B = some r → sg_T Y ad X nL (pc + 3) lv st M) : sg_T Y ad X nL pc lv (.int y :: .int x :: st) M := by
  obtain ⟨⟨l, cy, D, zK, zV⟩, p, e, R, s, m, args, below, meth, c, Q⟩ := X
  intro H locs ls hP hS hl
  exact lv_icmp_le C.1 C.2.1 hdg ht (fun q => ka q (by rw [if_pos q] at h; exact h) H locs ls hP hS hl) (fun q => kb q (by rw [if_neg q] at h; exact h) H locs ls hP hS hl)
theorem s_ldc (C : sg_C Y ad X cc own nL d) {index : Nat} (v : Int32) (hw : Cond.constant own index v ∈ sg_G) (hdg : decode cc pc = .ok (.ldc index, 2)) (k : sg_T Y ad X nL (pc + 2) lv (.int v :: st) M) : sg_T Y ad X nL pc lv st M := by
  obtain ⟨⟨l, cy, D, zK, zV⟩, p, e, R, s, m, args, below, meth, c, Q⟩ := X
  intro H locs ls hP hS hl
  exact lv_ldc C.1 C.2.1 C.2.2.2.1 (C.2.2.2.2.1 _ hw) hdg (k H locs ls hP hS hl)
theorem s_ldcw (C : sg_C Y ad X cc own nL d) {index : Nat} (v : Int32) (hw : Cond.constant own index v ∈ sg_G) (hdg : decode cc pc = .ok (.ldc_w index, 3)) (k : sg_T Y ad X nL (pc + 3) lv (.int v :: st) M) : sg_T Y ad X nL pc lv st M := by
  obtain ⟨⟨l, cy, D, zK, zV⟩, p, e, R, s, m, args, below, meth, c, Q⟩ := X
  intro H locs ls hP hS hl
  exact lv_ldcw C.1 C.2.1 C.2.2.2.1 (C.2.2.2.2.1 _ hw) hdg (k H locs ls hP hS hl)
theorem s_ldc2 (C : sg_C Y ad X cc own nL d) {index : Nat} (v : Int64) (hw : Cond.constantLong own index v ∈ sg_G) (hdg : decode cc pc = .ok (.ldc2_w index, 3)) (k : sg_T Y ad X nL (pc + 3) lv (.long v :: st) M) : sg_T Y ad X nL pc lv st M := by
  obtain ⟨⟨l, cy, D, zK, zV⟩, p, e, R, s, m, args, below, meth, c, Q⟩ := X
  intro H locs ls hP hS hl
  exact lv_ldc2 C.1 C.2.1 C.2.2.2.1 (C.2.2.2.2.1 _ hw) hdg (k H locs ls hP hS hl)
theorem s_idiv (C : sg_C Y ad X cc own nL d) {β : Type} {A : Option β} {r : β} {x y : Int32} (hdg : decode cc pc = .ok (.idiv, 1)) (h : (if y = 0 then none else A) = some r) (k : A = some r → sg_T Y ad X nL (pc + 1) lv (.int (x / y) :: st) M) : sg_T Y ad X nL pc lv (.int y :: .int x :: st) M := by
  obtain ⟨⟨l, cy, D, zK, zV⟩, p, e, R, s, m, args, below, meth, c, Q⟩ := X
  intro H locs ls hP hS hl
  obtain ⟨h0, h1⟩ := sg_ifi h
  exact lv_idiv C.1 C.2.1 hdg h0 (k h1 H locs ls hP hS hl)
theorem s_irem (C : sg_C Y ad X cc own nL d) {β : Type} {A : Option β} {r : β} {x y : Int32} (hdg : decode cc pc = .ok (.irem, 1)) (h : (if y = 0 then none else A) = some r) (k : A = some r → sg_T Y ad X nL (pc + 1) lv (.int (x - x / y * y) :: st) M) : sg_T Y ad X nL pc lv (.int y :: .int x :: st) M := by
  obtain ⟨⟨l, cy, D, zK, zV⟩, p, e, R, s, m, args, below, meth, c, Q⟩ := X
  intro H locs ls hP hS hl
  obtain ⟨h0, h1⟩ := sg_ifi h
  exact lv_irem C.1 C.2.1 hdg h0 (k h1 H locs ls hP hS hl)
theorem s_ldiv (C : sg_C Y ad X cc own nL d) {β : Type} {A : Option β} {r : β} {x y : Int64} (hdg : decode cc pc = .ok (.ldiv, 1)) (h : (if y = 0 then none else A) = some r) (k : A = some r → sg_T Y ad X nL (pc + 1) lv (.long (x / y) :: st) M) : sg_T Y ad X nL pc lv (.long y :: .long x :: st) M := by
  obtain ⟨⟨l, cy, D, zK, zV⟩, p, e, R, s, m, args, below, meth, c, Q⟩ := X
  intro H locs ls hP hS hl
  obtain ⟨h0, h1⟩ := sg_ifn h
  exact lv_ldiv C.1 C.2.1 hdg h0 (k h1 H locs ls hP hS hl)
theorem s_lrem (C : sg_C Y ad X cc own nL d) {β : Type} {A : Option β} {r : β} {x y : Int64} (hdg : decode cc pc = .ok (.lrem, 1)) (h : (if y = 0 then none else A) = some r) (k : A = some r → sg_T Y ad X nL (pc + 1) lv (.long (x - x / y * y) :: st) M) : sg_T Y ad X nL pc lv (.long y :: .long x :: st) M := by
  obtain ⟨⟨l, cy, D, zK, zV⟩, p, e, R, s, m, args, below, meth, c, Q⟩ := X
  intro H locs ls hP hS hl
  obtain ⟨h0, h1⟩ := sg_ifn h
  exact lv_lrem C.1 C.2.1 hdg h0 (k h1 H locs ls hP hS hl)
theorem s_geti (C : sg_C Y ad X cc own nL d) {ci k0 j N index : Nat} {cn : String} {T : u_T} (hin : ∀ w ∈ u_ws cn T N, w ∈ sg_G) (hc : vwCl[ci]? = some (cn, T, N)) (h12 : ci < 12) (hN : sg_N ci = N) (ht : sg_t ci k0 = 0) (hk : k0 < N) (hlk : Cond.fieldLink own index (T k0).1 (T k0).2.1 (T k0).2.2.1 ∈ sg_G) (hj : sg_K Y j ci) (hdg : decode cc pc = .ok (.getfield index, 3)) (k : sg_T Y ad X nL (pc + 3) lv (.int (M.1 j k0) :: st) M) : sg_T Y ad X nL pc lv (.ref (ad j) :: st) M := by
  obtain ⟨⟨l, cy, D, zK, zV⟩, p, e, R, s, m, args, below, meth, c, Q⟩ := X
  intro H locs ls hP hS hl
  have he := sg_at (ad := ad) (cy := cy) (M := M) hj.1
  rw [sg_Eo hj.2 h12] at he
  have hv : ((List.range (sg_N ci)).map (sg_fv Y ad M j))[k0]? = some (.int (M.1 j k0)) := by
    rw [List.getElem?_map, List.getElem?_range (by rw [hN]; exact hk)]
    show some (sg_fv Y ad M j k0) = _
    unfold sg_fv
    rw [hj.2, ht]
    rfl
  exact va_get (C := cn) (T := T) (N := N) C.1 C.2.1 C.2.2.2.2.1 hin C.2.2.2.1 C.2.2.2.2.2.1 hP j he hc k0 hk (C.2.2.2.2.1 _ hlk) (fun _ h9 => h9) hv hdg (k H locs ls hP hS hl)
theorem s_getl (C : sg_C Y ad X cc own nL d) {ci k0 j N index : Nat} {cn : String} {T : u_T} (hin : ∀ w ∈ u_ws cn T N, w ∈ sg_G) (hc : vwCl[ci]? = some (cn, T, N)) (h12 : ci < 12) (hN : sg_N ci = N) (ht : sg_t ci k0 = 1) (hk : k0 < N) (hlk : Cond.fieldLink own index (T k0).1 (T k0).2.1 (T k0).2.2.1 ∈ sg_G) (hj : sg_K Y j ci) (hdg : decode cc pc = .ok (.getfield index, 3)) (k : sg_T Y ad X nL (pc + 3) lv (.long (M.2 j k0) :: st) M) : sg_T Y ad X nL pc lv (.ref (ad j) :: st) M := by
  obtain ⟨⟨l, cy, D, zK, zV⟩, p, e, R, s, m, args, below, meth, c, Q⟩ := X
  intro H locs ls hP hS hl
  have he := sg_at (ad := ad) (cy := cy) (M := M) hj.1
  rw [sg_Eo hj.2 h12] at he
  have hv : ((List.range (sg_N ci)).map (sg_fv Y ad M j))[k0]? = some (.long (M.2 j k0)) := by
    rw [List.getElem?_map, List.getElem?_range (by rw [hN]; exact hk)]
    show some (sg_fv Y ad M j k0) = _
    unfold sg_fv
    rw [hj.2, ht]
    rfl
  exact va_get (C := cn) (T := T) (N := N) C.1 C.2.1 C.2.2.2.2.1 hin C.2.2.2.1 C.2.2.2.2.2.1 hP j he hc k0 hk (C.2.2.2.2.1 _ hlk) (fun _ h9 => h9) hv hdg (k H locs ls hP hS hl)
theorem s_getr (C : sg_C Y ad X cc own nL d) {ci k0 j N index : Nat} {cn : String} {T : u_T} (hin : ∀ w ∈ u_ws cn T N, w ∈ sg_G) (hc : vwCl[ci]? = some (cn, T, N)) (h12 : ci < 12) (hN : sg_N ci = N) (ht : sg_t ci k0 = 2) (hk : k0 < N) (hlk : Cond.fieldLink own index (T k0).1 (T k0).2.1 (T k0).2.2.1 ∈ sg_G) (hj : sg_K Y j ci) (hdg : decode cc pc = .ok (.getfield index, 3)) (k : sg_T Y ad X nL (pc + 3) lv (.ref (ad (Y.2.2.2 j k0)) :: st) M) : sg_T Y ad X nL pc lv (.ref (ad j) :: st) M := by
  obtain ⟨⟨l, cy, D, zK, zV⟩, p, e, R, s, m, args, below, meth, c, Q⟩ := X
  intro H locs ls hP hS hl
  have he := sg_at (ad := ad) (cy := cy) (M := M) hj.1
  rw [sg_Eo hj.2 h12] at he
  have hv : ((List.range (sg_N ci)).map (sg_fv Y ad M j))[k0]? = some (.ref (ad (Y.2.2.2 j k0))) := by
    rw [List.getElem?_map, List.getElem?_range (by rw [hN]; exact hk)]
    show some (sg_fv Y ad M j k0) = _
    unfold sg_fv
    rw [hj.2, ht]
    rfl
  exact va_get (C := cn) (T := T) (N := N) C.1 C.2.1 C.2.2.2.2.1 hin C.2.2.2.1 C.2.2.2.2.2.1 hP j he hc k0 hk (C.2.2.2.2.1 _ hlk) (fun _ h9 => h9) hv hdg (k H locs ls hP hS hl)
theorem s_puti (C : sg_C Y ad X cc own nL d) {ci k0 j N index : Nat} {cn : String} {T : u_T} (hin : ∀ w ∈ u_ws cn T N, w ∈ sg_G) (hc : vwCl[ci]? = some (cn, T, N)) (h12 : ci < 12) (hN : sg_N ci = N) (ht : sg_t ci k0 = 0) (hk : k0 < N) (hlk : Cond.fieldLink own index (T k0).1 (T k0).2.1 (T k0).2.2.1 ∈ sg_G) (ty0 : Nat → FieldType) (hty : ∀ k, k < N → parseFieldDescriptor (T k).2.2.1 = some (ty0 k)) (hnm : ∀ a, a < N → ∀ b, b < N → a ≠ b → (T a).2.1 ≠ (T b).2.1) (hfin : (T k0).2.2.2 = false) (hd : parseFieldDescriptor (T k0).2.2.1 = some .int) {v : Int32}  (hj : sg_K Y j ci) (hdg : decode cc pc = .ok (.putfield index, 3)) (k : sg_T Y ad X nL (pc + 3) lv st (sg_uI M j k0 v)) : sg_T Y ad X nL pc lv (.int v :: .ref (ad j) :: st) M := by
  obtain ⟨⟨l, cy, D, zK, zV⟩, p, e, R, s, m, args, below, meth, c, Q⟩ := X
  intro H locs ls hP hS hl
  have he := sg_at (ad := ad) (cy := cy) (M := M) hj.1
  rw [sg_Eo hj.2 h12] at he
  refine va_put (C := cn) (T := T) (N := N) (ty := .int) C.1 C.2.1 C.2.2.2.2.1 hin ty0 hty hnm C.2.2.2.1 C.2.2.2.2.2.1 hP (sg_D C.2.2.2.2.2.2.1) hS j he hc k0 hk (C.2.2.2.2.1 _ hlk) (fun _ h9 => h9) hfin hd rfl rfl (by simpa [hN] using hk) hdg (fun H1 locs1 hP1 _ hS1 => ?_)
  rw [sg_setI hj h12 ht] at hP1
  exact k H1 locs1 ls hP1 hS1 hl
theorem s_putl (C : sg_C Y ad X cc own nL d) {ci k0 j N index : Nat} {cn : String} {T : u_T} (hin : ∀ w ∈ u_ws cn T N, w ∈ sg_G) (hc : vwCl[ci]? = some (cn, T, N)) (h12 : ci < 12) (hN : sg_N ci = N) (ht : sg_t ci k0 = 1) (hk : k0 < N) (hlk : Cond.fieldLink own index (T k0).1 (T k0).2.1 (T k0).2.2.1 ∈ sg_G) (ty0 : Nat → FieldType) (hty : ∀ k, k < N → parseFieldDescriptor (T k).2.2.1 = some (ty0 k)) (hnm : ∀ a, a < N → ∀ b, b < N → a ≠ b → (T a).2.1 ≠ (T b).2.1) (hfin : (T k0).2.2.2 = false) (hd : parseFieldDescriptor (T k0).2.2.1 = some .long) {v : Int64}  (hj : sg_K Y j ci) (hdg : decode cc pc = .ok (.putfield index, 3)) (k : sg_T Y ad X nL (pc + 3) lv st (sg_uJ M j k0 v)) : sg_T Y ad X nL pc lv (.long v :: .ref (ad j) :: st) M := by
  obtain ⟨⟨l, cy, D, zK, zV⟩, p, e, R, s, m, args, below, meth, c, Q⟩ := X
  intro H locs ls hP hS hl
  have he := sg_at (ad := ad) (cy := cy) (M := M) hj.1
  rw [sg_Eo hj.2 h12] at he
  refine va_put (C := cn) (T := T) (N := N) (ty := .long) C.1 C.2.1 C.2.2.2.2.1 hin ty0 hty hnm C.2.2.2.1 C.2.2.2.2.2.1 hP (sg_D C.2.2.2.2.2.2.1) hS j he hc k0 hk (C.2.2.2.2.1 _ hlk) (fun _ h9 => h9) hfin hd rfl rfl (by simpa [hN] using hk) hdg (fun H1 locs1 hP1 _ hS1 => ?_)
  rw [sg_setJ hj h12 ht] at hP1
  exact k H1 locs1 ls hP1 hS1 hl
theorem s_putz (C : sg_C Y ad X cc own nL d) {ci k0 j N index : Nat} {cn : String} {T : u_T} (hin : ∀ w ∈ u_ws cn T N, w ∈ sg_G) (hc : vwCl[ci]? = some (cn, T, N)) (h12 : ci < 12) (hN : sg_N ci = N) (ht : sg_t ci k0 = 0) (hk : k0 < N) (hlk : Cond.fieldLink own index (T k0).1 (T k0).2.1 (T k0).2.2.1 ∈ sg_G) (ty0 : Nat → FieldType) (hty : ∀ k, k < N → parseFieldDescriptor (T k).2.2.1 = some (ty0 k)) (hnm : ∀ a, a < N → ∀ b, b < N → a ≠ b → (T a).2.1 ≠ (T b).2.1) (hfin : (T k0).2.2.2 = false) (hd : parseFieldDescriptor (T k0).2.2.1 = some .boolean) {v : Int32} (hz : sg_bz v = true) (hj : sg_K Y j ci) (hdg : decode cc pc = .ok (.putfield index, 3)) (k : sg_T Y ad X nL (pc + 3) lv st (sg_uI M j k0 v)) : sg_T Y ad X nL pc lv (.int v :: .ref (ad j) :: st) M := by
  obtain ⟨⟨l, cy, D, zK, zV⟩, p, e, R, s, m, args, below, meth, c, Q⟩ := X
  intro H locs ls hP hS hl
  have he := sg_at (ad := ad) (cy := cy) (M := M) hj.1
  rw [sg_Eo hj.2 h12] at he
  refine va_put (C := cn) (T := T) (N := N) (ty := .boolean) C.1 C.2.1 C.2.2.2.2.1 hin ty0 hty hnm C.2.2.2.1 C.2.2.2.2.2.1 hP (sg_D C.2.2.2.2.2.2.1) hS j he hc k0 hk (C.2.2.2.2.1 _ hlk) (fun _ h9 => h9) hfin hd (sg_bz_nar hz) (sg_bz_fit hz) (by simpa [hN] using hk) hdg (fun H1 locs1 hP1 _ hS1 => ?_)
  rw [sg_setI hj h12 ht] at hP1
  exact k H1 locs1 ls hP1 hS1 hl
theorem s_iald (C : sg_C Y ad X cc own nL d) {β : Type} {A : Option β} {r : β} {i : Int32} {j : Nat} (hj : sg_K Y j 13) (hdg : decode cc pc = .ok (.iaload, 1)) (h : (if sg_ib i (Y.2.2.1 j) = true then A else none) = some r) (k : A = some r → sg_T Y ad X nL (pc + 1) lv (.int (M.1 j i.toNatClampNeg) :: st) M) : sg_T Y ad X nL pc lv (.int i :: .ref (ad j) :: st) M := by
  obtain ⟨⟨l, cy, D, zK, zV⟩, p, e, R, s, m, args, below, meth, c, Q⟩ := X
  intro H locs ls hP hS hl
  obtain ⟨h0, h1⟩ := sg_if h
  have he := sg_at (ad := ad) (cy := cy) (M := M) hj.1
  rw [sg_EI hj.2 (Or.inr (Or.inl rfl))] at he
  exact va_iald C.1 C.2.1 C.2.2.2.2.2.1 hP j 1 he rfl (sg_ib_in h0) hdg (k h1 H locs ls hP hS hl)
theorem s_bald (C : sg_C Y ad X cc own nL d) {β : Type} {A : Option β} {r : β} {i : Int32} {j : Nat} (hj : sg_K Y j 12) (hdg : decode cc pc = .ok (.baload, 1)) (h : (if sg_ib i (Y.2.2.1 j) = true then A else none) = some r) (k : A = some r → sg_T Y ad X nL (pc + 1) lv (.int (M.1 j i.toNatClampNeg) :: st) M) : sg_T Y ad X nL pc lv (.int i :: .ref (ad j) :: st) M := by
  obtain ⟨⟨l, cy, D, zK, zV⟩, p, e, R, s, m, args, below, meth, c, Q⟩ := X
  intro H locs ls hP hS hl
  obtain ⟨h0, h1⟩ := sg_if h
  have he := sg_at (ad := ad) (cy := cy) (M := M) hj.1
  rw [sg_EI hj.2 (Or.inl rfl)] at he
  exact va_bald C.1 C.2.1 C.2.2.2.2.2.1 hP j 0 he rfl (sg_ib_in h0) hdg (k h1 H locs ls hP hS hl)
theorem s_zald (C : sg_C Y ad X cc own nL d) {β : Type} {A : Option β} {r : β} {i : Int32} {j : Nat} (hj : sg_K Y j 15) (hdg : decode cc pc = .ok (.baload, 1)) (h : (if sg_ib i (Y.2.2.1 j) = true then A else none) = some r) (k : A = some r → sg_T Y ad X nL (pc + 1) lv (.int (M.1 j i.toNatClampNeg) :: st) M) : sg_T Y ad X nL pc lv (.int i :: .ref (ad j) :: st) M := by
  obtain ⟨⟨l, cy, D, zK, zV⟩, p, e, R, s, m, args, below, meth, c, Q⟩ := X
  intro H locs ls hP hS hl
  obtain ⟨h0, h1⟩ := sg_if h
  have he := sg_at (ad := ad) (cy := cy) (M := M) hj.1
  rw [sg_EI hj.2 (Or.inr (Or.inr rfl))] at he
  exact va_zald C.1 C.2.1 C.2.2.2.2.2.1 hP j 3 he rfl (sg_ib_in h0) hdg (k h1 H locs ls hP hS hl)
theorem s_lald (C : sg_C Y ad X cc own nL d) {β : Type} {A : Option β} {r : β} {i : Int32} {j : Nat} (hj : sg_K Y j 14) (hdg : decode cc pc = .ok (.laload, 1)) (h : (if sg_ib i (Y.2.2.1 j) = true then A else none) = some r) (k : A = some r → sg_T Y ad X nL (pc + 1) lv (.long (M.2 j i.toNatClampNeg) :: st) M) : sg_T Y ad X nL pc lv (.int i :: .ref (ad j) :: st) M := by
  obtain ⟨⟨l, cy, D, zK, zV⟩, p, e, R, s, m, args, below, meth, c, Q⟩ := X
  intro H locs ls hP hS hl
  obtain ⟨h0, h1⟩ := sg_if h
  have he := sg_at (ad := ad) (cy := cy) (M := M) hj.1
  rw [sg_EJ hj.2] at he
  exact va_lald C.1 C.2.1 C.2.2.2.2.2.1 hP j 2 he rfl (sg_ib_in h0) hdg (k h1 H locs ls hP hS hl)
theorem s_iast (C : sg_C Y ad X cc own nL d) {β : Type} {A : Option β} {r : β} {i x : Int32} {j : Nat} (hj : sg_K Y j 13) (hdg : decode cc pc = .ok (.iastore, 1)) (h : (if sg_ib i (Y.2.2.1 j) = true then A else none) = some r) (k : A = some r → sg_T Y ad X nL (pc + 1) lv st (sg_uI M j i.toNatClampNeg x)) : sg_T Y ad X nL pc lv (.int x :: .int i :: .ref (ad j) :: st) M := by
  obtain ⟨⟨l, cy, D, zK, zV⟩, p, e, R, s, m, args, below, meth, c, Q⟩ := X
  intro H locs ls hP hS hl
  obtain ⟨h0, h1⟩ := sg_if h
  have he := sg_at (ad := ad) (cy := cy) (M := M) hj.1
  rw [sg_EI hj.2 (Or.inr (Or.inl rfl))] at he
  refine va_iast C.1 C.2.1 C.2.2.2.2.2.1 hP (sg_D C.2.2.2.2.2.2.1) hS j 1 he rfl (sg_ib_in h0) hdg (fun H1 locs1 hP1 _ hS1 => ?_)
  rw [sg_setAI hj (Or.inr (Or.inl rfl))] at hP1
  exact k h1 H1 locs1 ls hP1 hS1 hl
theorem s_bast (C : sg_C Y ad X cc own nL d) {β : Type} {A : Option β} {r : β} {i x : Int32} {j : Nat} (hj : sg_K Y j 12) (hdg : decode cc pc = .ok (.bastore, 1)) (h : (if sg_ib i (Y.2.2.1 j) = true then A else none) = some r) (k : A = some r → sg_T Y ad X nL (pc + 1) lv st (sg_uI M j i.toNatClampNeg (vp_nar .byte x))) : sg_T Y ad X nL pc lv (.int x :: .int i :: .ref (ad j) :: st) M := by
  obtain ⟨⟨l, cy, D, zK, zV⟩, p, e, R, s, m, args, below, meth, c, Q⟩ := X
  intro H locs ls hP hS hl
  obtain ⟨h0, h1⟩ := sg_if h
  have he := sg_at (ad := ad) (cy := cy) (M := M) hj.1
  rw [sg_EI hj.2 (Or.inl rfl)] at he
  refine va_bast C.1 C.2.1 C.2.2.2.2.2.1 hP (sg_D C.2.2.2.2.2.2.1) hS j 0 he rfl (sg_ib_in h0) hdg (fun H1 locs1 hP1 _ hS1 => ?_)
  rw [sg_setAI hj (Or.inl rfl)] at hP1
  exact k h1 H1 locs1 ls hP1 hS1 hl
theorem s_zast (C : sg_C Y ad X cc own nL d) {β : Type} {A : Option β} {r : β} {i x : Int32} {j : Nat} (hj : sg_K Y j 15) (hdg : decode cc pc = .ok (.bastore, 1)) (h : (if sg_ib i (Y.2.2.1 j) = true then A else none) = some r) (k : A = some r → sg_T Y ad X nL (pc + 1) lv st (sg_uI M j i.toNatClampNeg (vp_nar .boolean x))) : sg_T Y ad X nL pc lv (.int x :: .int i :: .ref (ad j) :: st) M := by
  obtain ⟨⟨l, cy, D, zK, zV⟩, p, e, R, s, m, args, below, meth, c, Q⟩ := X
  intro H locs ls hP hS hl
  obtain ⟨h0, h1⟩ := sg_if h
  have he := sg_at (ad := ad) (cy := cy) (M := M) hj.1
  rw [sg_EI hj.2 (Or.inr (Or.inr rfl))] at he
  refine va_zast C.1 C.2.1 C.2.2.2.2.2.1 hP (sg_D C.2.2.2.2.2.2.1) hS j 3 he rfl (sg_ib_in h0) hdg (fun H1 locs1 hP1 _ hS1 => ?_)
  rw [sg_setAI hj (Or.inr (Or.inr rfl))] at hP1
  exact k h1 H1 locs1 ls hP1 hS1 hl
theorem s_last (C : sg_C Y ad X cc own nL d) {β : Type} {A : Option β} {r : β} {i : Int32} {x : Int64} {j : Nat} (hj : sg_K Y j 14) (hdg : decode cc pc = .ok (.lastore, 1)) (h : (if sg_ib i (Y.2.2.1 j) = true then A else none) = some r) (k : A = some r → sg_T Y ad X nL (pc + 1) lv st (sg_uJ M j i.toNatClampNeg x)) : sg_T Y ad X nL pc lv (.long x :: .int i :: .ref (ad j) :: st) M := by
  obtain ⟨⟨l, cy, D, zK, zV⟩, p, e, R, s, m, args, below, meth, c, Q⟩ := X
  intro H locs ls hP hS hl
  obtain ⟨h0, h1⟩ := sg_if h
  have he := sg_at (ad := ad) (cy := cy) (M := M) hj.1
  rw [sg_EJ hj.2] at he
  refine va_last C.1 C.2.1 C.2.2.2.2.2.1 hP (sg_D C.2.2.2.2.2.2.1) hS j 2 he rfl (sg_ib_in h0) hdg (fun H1 locs1 hP1 _ hS1 => ?_)
  rw [sg_setAJ hj] at hP1
  exact k h1 H1 locs1 ls hP1 hS1 hl
theorem s_aaldO (C : sg_C Y ad X cc own nL d) {β : Type} {A : Option β} {r : β} {i : Int32} {j : Nat} (hj : sg_K Y j 16) (hdg : decode cc pc = .ok (.aaload, 1)) (h : (if sg_ib i (Y.2.2.1 j) = true then A else none) = some r) (k : A = some r → sg_T Y ad X nL (pc + 1) lv (.ref (ad (Y.2.2.2 j i.toNatClampNeg)) :: st) M) : sg_T Y ad X nL pc lv (.int i :: .ref (ad j) :: st) M := by
  obtain ⟨⟨l, cy, D, zK, zV⟩, p, e, R, s, m, args, below, meth, c, Q⟩ := X
  intro H locs ls hP hS hl
  obtain ⟨h0, h1⟩ := sg_if h
  have he := sg_at (ad := ad) (cy := cy) (M := M) hj.1
  rw [sg_ER hj.2 (by decide)] at he
  exact va_aldq C.1 C.2.1 C.2.2.2.2.2.1 hP j 4 he rfl (sg_ib_in h0) hdg (k h1 H locs ls hP hS hl)
theorem s_aaldP (C : sg_C Y ad X cc own nL d) {β : Type} {A : Option β} {r : β} {i : Int32} {j : Nat} (hj : sg_K Y j 17) (hdg : decode cc pc = .ok (.aaload, 1)) (h : (if sg_ib i (Y.2.2.1 j) = true then A else none) = some r) (k : A = some r → sg_T Y ad X nL (pc + 1) lv (.ref (ad (Y.2.2.2 j i.toNatClampNeg)) :: st) M) : sg_T Y ad X nL pc lv (.int i :: .ref (ad j) :: st) M := by
  obtain ⟨⟨l, cy, D, zK, zV⟩, p, e, R, s, m, args, below, meth, c, Q⟩ := X
  intro H locs ls hP hS hl
  obtain ⟨h0, h1⟩ := sg_if h
  have he := sg_at (ad := ad) (cy := cy) (M := M) hj.1
  rw [sg_ER hj.2 (by decide)] at he
  exact va_aldq C.1 C.2.1 C.2.2.2.2.2.1 hP j 5 he rfl (sg_ib_in h0) hdg (k h1 H locs ls hP hS hl)
theorem s_aaldI (C : sg_C Y ad X cc own nL d) {β : Type} {A : Option β} {r : β} {i : Int32} {j : Nat} (hj : sg_K Y j 18) (hdg : decode cc pc = .ok (.aaload, 1)) (h : (if sg_ib i (Y.2.2.1 j) = true then A else none) = some r) (k : A = some r → sg_T Y ad X nL (pc + 1) lv (.ref (ad (Y.2.2.2 j i.toNatClampNeg)) :: st) M) : sg_T Y ad X nL pc lv (.int i :: .ref (ad j) :: st) M := by
  obtain ⟨⟨l, cy, D, zK, zV⟩, p, e, R, s, m, args, below, meth, c, Q⟩ := X
  intro H locs ls hP hS hl
  obtain ⟨h0, h1⟩ := sg_if h
  have he := sg_at (ad := ad) (cy := cy) (M := M) hj.1
  rw [sg_ER hj.2 (by decide)] at he
  exact by
    have hin := sg_ib_in h0
    have hlt : i.toNatClampNeg < Y.2.2.1 j := Nat.not_le.mp fun q => hin (Or.inr q)
    exact W.aald (v := va_rf (some (ad (Y.2.2.2 j i.toNatClampNeg)))) (ty := .array .int) C.1 C.2.1 (hP j _ he) ((C.2.2.2.2.2.1.2 6 _ rfl).1 (Y.2.2.1 j) (fun q => va_rf (some (ad (Y.2.2.2 j q))))) rfl (fun q => by cases q) (by show ¬ (i < 0 ∨ (arrV _ _ _).slots.size ≤ _); rw [arrV_size]; exact hin) (by show (arrV _ _ _).slots[_]? = _; rw [arrV_read _ _ hlt]) rfl rfl hdg (k h1 H locs ls hP hS hl)
theorem s_aaldJ (C : sg_C Y ad X cc own nL d) {β : Type} {A : Option β} {r : β} {i : Int32} {j : Nat} (hj : sg_K Y j 19) (hdg : decode cc pc = .ok (.aaload, 1)) (h : (if sg_ib i (Y.2.2.1 j) = true then A else none) = some r) (k : A = some r → sg_T Y ad X nL (pc + 1) lv (.ref (ad (Y.2.2.2 j i.toNatClampNeg)) :: st) M) : sg_T Y ad X nL pc lv (.int i :: .ref (ad j) :: st) M := by
  obtain ⟨⟨l, cy, D, zK, zV⟩, p, e, R, s, m, args, below, meth, c, Q⟩ := X
  intro H locs ls hP hS hl
  obtain ⟨h0, h1⟩ := sg_if h
  have he := sg_at (ad := ad) (cy := cy) (M := M) hj.1
  rw [sg_ER hj.2 (by decide)] at he
  exact by
    have hin := sg_ib_in h0
    have hlt : i.toNatClampNeg < Y.2.2.1 j := Nat.not_le.mp fun q => hin (Or.inr q)
    exact W.aald (v := va_rf (some (ad (Y.2.2.2 j i.toNatClampNeg)))) (ty := .array .long) C.1 C.2.1 (hP j _ he) ((C.2.2.2.2.2.1.2 7 _ rfl).1 (Y.2.2.1 j) (fun q => va_rf (some (ad (Y.2.2.2 j q))))) rfl (fun q => by cases q) (by show ¬ (i < 0 ∨ (arrV _ _ _).slots.size ≤ _); rw [arrV_size]; exact hin) (by show (arrV _ _ _).slots[_]? = _; rw [arrV_read _ _ hlt]) rfl rfl hdg (k h1 H locs ls hP hS hl)
theorem s_alenI (C : sg_C Y ad X cc own nL d) {j : Nat} (hj : sg_K Y j 13) (hdg : decode cc pc = .ok (.arraylength, 1)) (k : sg_T Y ad X nL (pc + 1) lv (.int (Int32.ofNat (Y.2.2.1 j)) :: st) M) : sg_T Y ad X nL pc lv (.ref (ad j) :: st) M := by
  obtain ⟨⟨l, cy, D, zK, zV⟩, p, e, R, s, m, args, below, meth, c, Q⟩ := X
  intro H locs ls hP hS hl
  have he := sg_at (ad := ad) (cy := cy) (M := M) hj.1
  rw [sg_EI hj.2 (Or.inr (Or.inl rfl))] at he
  exact va_alen C.1 C.2.1 C.2.2.2.2.2.1 hP j 1 he rfl rfl hdg (k H locs ls hP hS hl)
theorem s_alenJ (C : sg_C Y ad X cc own nL d) {j : Nat} (hj : sg_K Y j 14) (hdg : decode cc pc = .ok (.arraylength, 1)) (k : sg_T Y ad X nL (pc + 1) lv (.int (Int32.ofNat (Y.2.2.1 j)) :: st) M) : sg_T Y ad X nL pc lv (.ref (ad j) :: st) M := by
  obtain ⟨⟨l, cy, D, zK, zV⟩, p, e, R, s, m, args, below, meth, c, Q⟩ := X
  intro H locs ls hP hS hl
  have he := sg_at (ad := ad) (cy := cy) (M := M) hj.1
  rw [sg_EJ hj.2] at he
  exact va_alen C.1 C.2.1 C.2.2.2.2.2.1 hP j 2 he rfl rfl hdg (k H locs ls hP hS hl)
end SGW
