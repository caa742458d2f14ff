def sg_m {α β : Type} (v : α) (k : α → Option β) : Option β := k v
theorem sg_C.inj {Y : sg_Y} {ad : Nat → Nat} {X : sg_X} {cc : ByteArray} {own : String} {nL d : Nat} (C : sg_C Y ad X cc own nL d) : sg_inj Y ad := by
  obtain ⟨⟨l, cy, D, zK, zV⟩, p, e, R, s, m, args, below, meth, c, Q⟩ := X
  exact C.2.2.2.2.2.2.1
section SGZ
variable {Y : sg_Y} {ad : Nat → Nat} {X : sg_X} {cc : ByteArray} {own : String} {nL d pc : Nat} {lv lv' : List (Nat × Value)} {st : List Value} {M : sg_M} {β : Type} {r : β}
theorem sg_T.to (h : sg_T Y ad X nL pc lv' st M) (ks : List Nat) (hk : lv_pick lv ks = lv') : sg_T Y ad X nL pc lv st M := h.sub ks hk
theorem z_gi {x : Int32} {K : Int32 → Option β} (h : sg_m x K = some r) (k : ∀ y : Int32, K y = some r → sg_T Y ad X nL pc lv (.int y :: st) M) : sg_T Y ad X nL pc lv (.int x :: st) M := k x h
theorem z_gl {x : Int64} {K : Int64 → Option β} (h : sg_m x K = some r) (k : ∀ y : Int64, K y = some r → sg_T Y ad X nL pc lv (.long y :: st) M) : sg_T Y ad X nL pc lv (.long x :: st) M := k x h
theorem z_gM {M1 : sg_M} {K : sg_M → Option β} (h : sg_m M1 K = some r) (k : ∀ M2 : sg_M, K M2 = some r → sg_T Y ad X nL pc lv st M2) : sg_T Y ad X nL pc lv st M1 := k M1 h
theorem z_iinc {x c9 : Int32} {n : Int} {K : Int32 → Option β} (hc : Int32.ofInt n = c9) (h : sg_m (x + c9) K = some r) (k : ∀ v : Int32, x + Int32.ofInt n = v → K v = some r → sg_T Y ad X nL pc lv st M) : sg_T Y ad X nL pc lv st M := k _ (by rw [hc]) h
theorem z_if {c : Prop} [Decidable c] {A B : Option β} {G : Prop} (h : (if c then A else B) = some r) (ka : c → A = some r → G) (kb : ¬ c → B = some r → G) : G := by
  by_cases q : c
  · rw [if_pos q] at h; exact ka q h
  · rw [if_neg q] at h; exact kb q h
theorem z_bz {v : Int32} {A : Option β} (h : (if sg_bz v = true then A else none) = some r) : sg_bz v = true ∧ A = some r := sg_if h
theorem s_tabIn (C : sg_C Y ad X cc own nL d) {dflt lo hi off : Int} {offs : Array Int} {len : Nat} {x v : Int32} (tgt : Nat) (e : x = v) (hv : (¬ v.toInt < lo ∧ ¬ hi < v.toInt) ∧ offs[(v.toInt - lo).toNat]? = some off) (ht : (pc : Int) + off = (tgt : Int)) (hdg : decode cc pc = .ok (.tableswitch dflt lo hi offs, len)) (k : sg_T Y ad X nL tgt lv st M) : sg_T Y ad X nL pc lv (.int x :: st) M := by
  subst e
  obtain ⟨⟨l, cy, D, zK, zV⟩, p, e, R, s, m, args, below, meth, c, Q⟩ := X
  intro H locs ls hP hS hl
  exact lv_tableIn C.1 C.2.1 hdg hv.1.1 hv.1.2 hv.2 ht (k H locs ls hP hS hl)
theorem s_tabOut (C : sg_C Y ad X cc own nL d) {dflt lo hi : Int} {offs : Array Int} {len : Nat} {x : Int32} (tgt : Nat) (hx : x.toInt < lo ∨ hi < x.toInt) (ht : (pc : Int) + dflt = (tgt : Int)) (hdg : decode cc pc = .ok (.tableswitch dflt lo hi offs, len)) (k : sg_T Y ad X nL tgt lv st M) : sg_T Y ad X nL pc lv (.int x :: st) M := by
  obtain ⟨⟨l, cy, D, zK, zV⟩, p, e, R, s, m, args, below, meth, c, Q⟩ := X
  intro H locs ls hP hS hl
  exact lv_tableOut C.1 C.2.1 hdg hx ht (k H locs ls hP hS hl)
end SGZ
theorem sg_ne {x v : Int32} {a : Int} (h : ¬ x = v) (hv : v.toInt = a) : x.toInt ≠ a := fun q => h (Int32.toInt_inj.mp (by rw [hv]; exact q))
section SGI
variable {Y : sg_Y} {ad : Nat → Nat} {X : sg_X} {cc : ByteArray} {own : String} {nL d pc : Nat} {lv lv9 : List (Nat × Value)} {st : List Value} {M : sg_M} {β : Type} {r : β}
theorem i_iload (C : sg_C Y ad X cc own nL d) {i : Nat} {x : Int32} (hdg : decode cc pc = .ok (.iload i, 2)) (q : Nat) (hq : lv[q]? = some (i, .int x)) (k : sg_T Y ad X nL (pc + 2) lv (.int x :: st) M) : sg_T Y ad X nL pc lv st M := s_iload C q hq hdg k
theorem i_iload_n (C : sg_C Y ad X cc own nL d) {i : Fin 4} {x : Int32} (hdg : decode cc pc = .ok (.iload_n i, 1)) (q : Nat) (hq : lv[q]? = some ((i : Nat), .int x)) (k : sg_T Y ad X nL (pc + 1) lv (.int x :: st) M) : sg_T Y ad X nL pc lv st M := s_iload_n C q hq hdg k
theorem i_lload (C : sg_C Y ad X cc own nL d) {i : Nat} {x : Int64} (hdg : decode cc pc = .ok (.lload i, 2)) (q : Nat) (hq : lv[q]? = some (i, .long x)) (k : sg_T Y ad X nL (pc + 2) lv (.long x :: st) M) : sg_T Y ad X nL pc lv st M := s_lload C q hq hdg k
theorem i_lload_n (C : sg_C Y ad X cc own nL d) {i : Fin 4} {x : Int64} (hdg : decode cc pc = .ok (.lload_n i, 1)) (q : Nat) (hq : lv[q]? = some ((i : Nat), .long x)) (k : sg_T Y ad X nL (pc + 1) lv (.long x :: st) M) : sg_T Y ad X nL pc lv st M := s_lload_n C q hq hdg k
theorem i_aload (C : sg_C Y ad X cc own nL d) {i : Nat} {x : Nat} (hdg : decode cc pc = .ok (.aload i, 2)) (q : Nat) (hq : lv[q]? = some (i, .ref x)) (k : sg_T Y ad X nL (pc + 2) lv (.ref x :: st) M) : sg_T Y ad X nL pc lv st M := s_aload C q hq hdg k
theorem i_aload_n (C : sg_C Y ad X cc own nL d) {i : Fin 4} {x : Nat} (hdg : decode cc pc = .ok (.aload_n i, 1)) (q : Nat) (hq : lv[q]? = some ((i : Nat), .ref x)) (k : sg_T Y ad X nL (pc + 1) lv (.ref x :: st) M) : sg_T Y ad X nL pc lv st M := s_aload_n C q hq hdg k
theorem i_istore (C : sg_C Y ad X cc own nL d) {i : Nat} {x : Int32} (hdg : decode cc pc = .ok (.istore i, 2)) (hn : i < nL) (hv : (i, Value.int x) :: lv.filter (fun q => !(q.1 == i) && !(q.1 + 1 == i && q.2.category == 2)) = lv9) (k : sg_T Y ad X nL (pc + 2) lv9 st M) : sg_T Y ad X nL pc lv (.int x :: st) M := s_istore C hn hv hdg k
theorem i_istore_n (C : sg_C Y ad X cc own nL d) {i4 : Fin 4} (i : Nat) {x : Int32} (hdg : decode cc pc = .ok (.istore_n i4, 1)) (hi : (i4 : Nat) = i) (hn : i < nL) (hv : (i, Value.int x) :: lv.filter (fun q => !(q.1 == i) && !(q.1 + 1 == i && q.2.category == 2)) = lv9) (k : sg_T Y ad X nL (pc + 1) lv9 st M) : sg_T Y ad X nL pc lv (.int x :: st) M := s_istore_n C hi hn hv hdg k
theorem i_lstore (C : sg_C Y ad X cc own nL d) {i : Nat} {x : Int64} (hdg : decode cc pc = .ok (.lstore i, 2)) (hn : i + 1 < nL) (hv : (i, Value.long x) :: lv.filter (fun q => !(q.1 == i) && (!(q.1 == i + 1) && !(q.1 + 1 == i && q.2.category == 2))) = lv9) (k : sg_T Y ad X nL (pc + 2) lv9 st M) : sg_T Y ad X nL pc lv (.long x :: st) M := s_lstore C hn hv hdg k
theorem i_lstore_n (C : sg_C Y ad X cc own nL d) {i4 : Fin 4} (i : Nat) {x : Int64} (hdg : decode cc pc = .ok (.lstore_n i4, 1)) (hi : (i4 : Nat) = i) (hn : i + 1 < nL) (hv : (i, Value.long x) :: lv.filter (fun q => !(q.1 == i) && (!(q.1 == i + 1) && !(q.1 + 1 == i && q.2.category == 2))) = lv9) (k : sg_T Y ad X nL (pc + 1) lv9 st M) : sg_T Y ad X nL pc lv (.long x :: st) M := s_lstore_n C hi hn hv hdg k
theorem i_astore (C : sg_C Y ad X cc own nL d) {i : Nat} {x : Nat} (hdg : decode cc pc = .ok (.astore i, 2)) (hn : i < nL) (hv : (i, Value.ref x) :: lv.filter (fun q => !(q.1 == i) && !(q.1 + 1 == i && q.2.category == 2)) = lv9) (k : sg_T Y ad X nL (pc + 2) lv9 st M) : sg_T Y ad X nL pc lv (.ref x :: st) M := s_astore C hn hv hdg k
theorem i_astore_n (C : sg_C Y ad X cc own nL d) {i4 : Fin 4} (i : Nat) {x : Nat} (hdg : decode cc pc = .ok (.astore_n i4, 1)) (hi : (i4 : Nat) = i) (hn : i < nL) (hv : (i, Value.ref x) :: lv.filter (fun q => !(q.1 == i) && !(q.1 + 1 == i && q.2.category == 2)) = lv9) (k : sg_T Y ad X nL (pc + 1) lv9 st M) : sg_T Y ad X nL pc lv (.ref x :: st) M := s_astore_n C hi hn hv hdg k
theorem i_iinc (C : sg_C Y ad X cc own nL d) {i : Nat} {n : Int} {x v : Int32} (hdg : decode cc pc = .ok (.iinc i n, 3)) (q : Nat) (hq : lv[q]? = some (i, .int x)) (hx : x + Int32.ofInt n = v) (hn : i < nL) (hv : (i, Value.int v) :: lv.filter (fun q => !(q.1 == i) && !(q.1 + 1 == i && q.2.category == 2)) = lv9) (k : sg_T Y ad X nL (pc + 3) lv9 st M) : sg_T Y ad X nL pc lv st M := s_iinc C v hq hx hn hv hdg k
end SGI
