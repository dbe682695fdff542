/-! ===== the abstract walk: a state is a place, the listed locals, the stack; E is what the rest of the method answers ===== -/
abbrev CT : Type := Program × (Launch × (Jvm.Env × (Room × (State × (MethodId × (Array Value × (List Frame × (Method × Code))))))))
def xp (x : CT) : Program := x.1
def xl (x : CT) : Launch := x.2.1
def xe (x : CT) : Jvm.Env := x.2.2.1
def xR (x : CT) : Room := x.2.2.2.1
def xs (x : CT) : State := x.2.2.2.2.1
def xm (x : CT) : MethodId := x.2.2.2.2.2.1
def xa (x : CT) : Array Value := x.2.2.2.2.2.2.1
def xb (x : CT) : List Frame := x.2.2.2.2.2.2.2.1
def xt (x : CT) : Method := x.2.2.2.2.2.2.2.2.1
def xc (x : CT) : Code := x.2.2.2.2.2.2.2.2.2
def XW (x : CT) (H : Heap) (locs : List Loc) (cs : Nat × Nat) (Z : State → Prop) (g : JFrame) : Prop := W (xp x) (xl x) (xe x) (xR x) (xs x) (xm x) (xa x) (xb x) (xt x) (xc x) H locs cs.1 cs.2 Z g
def AW (x : CT) (nL : Nat) (A : Nat → Prop) (cs : Nat × Nat) (Z : State → Prop) (Wd : Heap → Prop) (pc : Nat) (lv : List (Nat × Value)) (st : List Value) : Prop :=
  ∀ (H : Heap) (locs : List Loc) (ls : Array Slot), Wd H → va_S A (xs x).heap H locs → lv_has ls nL lv → XW x H locs cs Z (F0 (xm x) pc ls st)
def Sn {ρ : Type} (x : CT) (nL : Nat) (A : Nat → Prop) (cs : Nat × Nat) (ζ : ρ → State → Prop) (Wd : Heap → Prop) (pc : Nat) (lv : List (Nat × Value)) (st : List Value) (E : Option ρ) : Prop :=
  ∀ r, E = some r → AW x nL A cs (ζ r) Wd pc lv st
def Gd (x : CT) (cc : ByteArray) (nL : Nat) (own : String) : Prop :=
  (xp x).tables.exec = Jvm.exec ∧ (xc x).code = cc ∧ (xc x).maxLocals = nL ∧ (xs x).vm.findClass own = some (xm x).cls ∧ (∀ w ∈ GW, w.before (xa x) (xs x) = true) ∧ (xt x).locks = false
/-! combinators of the answers -/
def hb {ρ : Type} (h : Hp) (K : Hp → Option ρ) : Option ρ := K h
def vb {α ρ : Type} (v : α) (K : α → Option ρ) : Option ρ := K v
def ck {ρ : Type} (b : Bool) (K : Option ρ) : Option ρ := if b = true then K else none
def cb {α ρ : Type} (F : Option (α × Hp)) (K : α → Hp → Option ρ) : Option ρ := match F with | none => none | some q => K q.1 q.2
def inb (i : Int32) (n : Nat) : Bool := !(decide (i < 0) || decide (n ≤ i.toNatClampNeg))
def isb (v : Int32) : Bool := decide (v = 0) || decide (v = 1)
theorem inb_vp {i : Int32} {n : Nat} (h : inb i n = true) : vp_in i n := by
  simpa [inb, vp_in] using h
theorem isb_cases {v : Int32} (h : isb v = true) : v = 0 ∨ v = 1 := by simpa [isb] using h
section SR
variable {ρ : Type} {x : CT} {cc : ByteArray} {nL : Nat} {own : String} {A : Nat → Prop} {cs : Nat × Nat} {ζ : ρ → State → Prop} {Wd : Heap → Prop} {pc : Nat} {lv lv' : List (Nat × Value)} {st : List Value} {E : Option ρ}
theorem s_none : Sn x nL A cs ζ Wd pc lv st none := fun _ h => by cases h
theorem s_lv (ks : List Nat) (hl : lv_pick lv ks = lv') (kk : Sn x nL A cs ζ Wd pc lv' st E) : Sn x nL A cs ζ Wd pc lv st E :=
  fun r hr H locs ls hW hS hv => kk r hr H locs ls hW hS (lv_sub hv ks hl)
theorem s_ck {b : Bool} (kk : b = true → Sn x nL A cs ζ Wd pc lv st E) : Sn x nL A cs ζ Wd pc lv st (ck b E) := by
  intro r hr
  unfold ck at hr
  by_cases hb : b = true
  · rw [if_pos hb] at hr
    exact kk hb r hr
  · rw [if_neg hb] at hr
    cases hr
theorem s_if {c : Prop} [Decidable c] {E1 E2 : Option ρ} (k1 : c → Sn x nL A cs ζ Wd pc lv st E1) (k2 : ¬ c → Sn x nL A cs ζ Wd pc lv st E2) : Sn x nL A cs ζ Wd pc lv st (if c then E1 else E2) := by
  by_cases h : c
  · rw [if_pos h]; exact k1 h
  · rw [if_neg h]; exact k2 h
theorem s_vI {v : Int32} {K : Int32 → Option ρ} (kk : ∀ y : Int32, Sn x nL A cs ζ Wd pc lv (.int y :: st) (K y)) : Sn x nL A cs ζ Wd pc lv (.int v :: st) (vb v K) := kk v
theorem s_vL {v : Int64} {K : Int64 → Option ρ} (kk : ∀ y : Int64, Sn x nL A cs ζ Wd pc lv (.long y :: st) (K y)) : Sn x nL A cs ζ Wd pc lv (.long v :: st) (vb v K) := kk v
theorem s_iconst (G : Gd x cc nL own) {n : Int} {v : Int32} (hd : decode cc pc = .ok (.iconst n, 1)) (hv : Int32.ofInt n = v) (kk : Sn x nL A cs ζ Wd (pc + 1) lv (.int v :: st) E) : Sn x nL A cs ζ Wd pc lv st E :=
  fun r hr H locs ls hW hS hl => lv_iconst G.1 G.2.1 hd hv (kk r hr H locs ls hW hS hl)
theorem s_bipush (G : Gd x cc nL own) {n : Int} {v : Int32} (hd : decode cc pc = .ok (.bipush n, 2)) (hv : (Int8.ofInt n).toInt32 = v) (kk : Sn x nL A cs ζ Wd (pc + 2) lv (.int v :: st) E) : Sn x nL A cs ζ Wd pc lv st E :=
  fun r hr H locs ls hW hS hl => lv_bipush G.1 G.2.1 hd hv (kk r hr H locs ls hW hS hl)
theorem s_sipush (G : Gd x cc nL own) {n : Int} {v : Int32} (hd : decode cc pc = .ok (.sipush n, 3)) (hv : (Int16.ofInt n).toInt32 = v) (kk : Sn x nL A cs ζ Wd (pc + 3) lv (.int v :: st) E) : Sn x nL A cs ζ Wd pc lv st E :=
  fun r hr H locs ls hW hS hl => lv_sipush G.1 G.2.1 hd hv (kk r hr H locs ls hW hS hl)
theorem s_lconst (G : Gd x cc nL own) {n : Fin 2} {v : Int64} (hd : decode cc pc = .ok (.lconst n, 1)) (hv : Int64.ofNat (n : Nat) = v) (kk : Sn x nL A cs ζ Wd (pc + 1) lv (.long v :: st) E) : Sn x nL A cs ζ Wd pc lv st E :=
  fun r hr H locs ls hW hS hl => lv_lconst G.1 G.2.1 hd hv (kk r hr H locs ls hW hS hl)
theorem s_ldc (G : Gd x cc nL own) {index : Nat} {v : Int32} (hd : decode cc pc = .ok (.ldc index, 2)) (hw : Jvm.Cond.constant own index v ∈ GW) (kk : Sn x nL A cs ζ Wd (pc + 2) lv (.int v :: st) E) : Sn x nL A cs ζ Wd pc lv st E :=
  fun r hr H locs ls hW hS hl => lv_ldc G.1 G.2.1 G.2.2.2.1 (G.2.2.2.2.1 _ hw) hd (kk r hr H locs ls hW hS hl)
theorem s_ldc2 (G : Gd x cc nL own) {index : Nat} {v : Int64} (hd : decode cc pc = .ok (.ldc2_w index, 3)) (hw : Jvm.Cond.constantLong own index v ∈ GW) (kk : Sn x nL A cs ζ Wd (pc + 3) lv (.long v :: st) E) : Sn x nL A cs ζ Wd pc lv st E :=
  fun r hr H locs ls hW hS hl => lv_ldc2 G.1 G.2.1 G.2.2.2.1 (G.2.2.2.2.1 _ hw) hd (kk r hr H locs ls hW hS hl)
theorem s_iload_n (G : Gd x cc nL own) {k : Fin 4} {i : Nat} {v : Int32} (hd : decode cc pc = .ok (.iload_n k, 1)) (j : Nat) (hj : lv[j]? = some (i, .int v)) (hi : (k : Nat) = i) (kk : Sn x nL A cs ζ Wd (pc + 1) lv (.int v :: st) E) : Sn x nL A cs ζ Wd pc lv st E :=
  fun r hr H locs ls hW hS hl => lv_iload_n G.1 G.2.1 hd hi (lv_at hl j hj) (kk r hr H locs ls hW hS hl)
theorem s_iload (G : Gd x cc nL own) {i : Nat} {v : Int32} (hd : decode cc pc = .ok (.iload i, 2)) (j : Nat) (hj : lv[j]? = some (i, .int v)) (kk : Sn x nL A cs ζ Wd (pc + 2) lv (.int v :: st) E) : Sn x nL A cs ζ Wd pc lv st E :=
  fun r hr H locs ls hW hS hl => lv_iload G.1 G.2.1 hd (lv_at hl j hj) (kk r hr H locs ls hW hS hl)
theorem s_lload_n (G : Gd x cc nL own) {k : Fin 4} {i : Nat} {v : Int64} (hd : decode cc pc = .ok (.lload_n k, 1)) (j : Nat) (hj : lv[j]? = some (i, .long v)) (hi : (k : Nat) = i) (kk : Sn x nL A cs ζ Wd (pc + 1) lv (.long v :: st) E) : Sn x nL A cs ζ Wd pc lv st E :=
  fun r hr H locs ls hW hS hl => lv_lload_n G.1 G.2.1 hd hi (lv_at hl j hj) (kk r hr H locs ls hW hS hl)
theorem s_lload (G : Gd x cc nL own) {i : Nat} {v : Int64} (hd : decode cc pc = .ok (.lload i, 2)) (j : Nat) (hj : lv[j]? = some (i, .long v)) (kk : Sn x nL A cs ζ Wd (pc + 2) lv (.long v :: st) E) : Sn x nL A cs ζ Wd pc lv st E :=
  fun r hr H locs ls hW hS hl => lv_lload G.1 G.2.1 hd (lv_at hl j hj) (kk r hr H locs ls hW hS hl)
theorem s_aload_n (G : Gd x cc nL own) {k : Fin 4} {i v : Nat} (hd : decode cc pc = .ok (.aload_n k, 1)) (j : Nat) (hj : lv[j]? = some (i, .ref v)) (hi : (k : Nat) = i) (kk : Sn x nL A cs ζ Wd (pc + 1) lv (.ref v :: st) E) : Sn x nL A cs ζ Wd pc lv st E :=
  fun r hr H locs ls hW hS hl => lv_aload_n G.1 G.2.1 hd hi (lv_at hl j hj) (kk r hr H locs ls hW hS hl)
theorem s_aload (G : Gd x cc nL own) {i v : Nat} (hd : decode cc pc = .ok (.aload i, 2)) (j : Nat) (hj : lv[j]? = some (i, .ref v)) (kk : Sn x nL A cs ζ Wd (pc + 2) lv (.ref v :: st) E) : Sn x nL A cs ζ Wd pc lv st E :=
  fun r hr H locs ls hW hS hl => lv_aload G.1 G.2.1 hd (lv_at hl j hj) (kk r hr H locs ls hW hS hl)
/-- a reference that may be null -/
theorem s_aload_nQ (G : Gd x cc nL own) {k : Fin 4} {i B v : Nat} (hd : decode cc pc = .ok (.aload_n k, 1)) (j : Nat) (hj : lv[j]? = some (i, rv B v)) (hi : (k : Nat) = i) (kk : Sn x nL A cs ζ Wd (pc + 1) lv (rv B v :: st) E) : Sn x nL A cs ζ Wd pc lv st E := by
  intro r hr H locs ls hW hS hl
  have hk := kk r hr H locs ls hW hS hl
  have hj' := lv_at hl j hj
  by_cases hv : v = 0
  · subst hv
    exact lv_aload_nN G.1 G.2.1 hd hi hj' hk
  · rw [rv_n B hv] at hj' hk
    exact lv_aload_n G.1 G.2.1 hd hi hj' hk
theorem s_aloadQ (G : Gd x cc nL own) {i B v : Nat} (hd : decode cc pc = .ok (.aload i, 2)) (j : Nat) (hj : lv[j]? = some (i, rv B v)) (kk : Sn x nL A cs ζ Wd (pc + 2) lv (rv B v :: st) E) : Sn x nL A cs ζ Wd pc lv st E := by
  intro r hr H locs ls hW hS hl
  have hk := kk r hr H locs ls hW hS hl
  have hj' := lv_at hl j hj
  by_cases hv : v = 0
  · subst hv
    exact lv_aloadN G.1 G.2.1 hd hj' hk
  · rw [rv_n B hv] at hj' hk
    exact lv_aload G.1 G.2.1 hd hj' hk
theorem s_istore_n (G : Gd x cc nL own) {k : Fin 4} {i : Nat} {v : Int32} (hd : decode cc pc = .ok (.istore_n k, 1)) (hi : (k : Nat) = i) (hn : i < nL) (hl : (i, Value.int v) :: lv.filter (fun q => !(q.1 == i) && !(q.1 + 1 == i && q.2.category == 2)) = lv') (kk : Sn x nL A cs ζ Wd (pc + 1) lv' st E) : Sn x nL A cs ζ Wd pc lv (.int v :: st) E :=
  fun r hr H locs ls hW hS h => lv_istore_n G.1 G.2.1 hd hi h hn hl (fun ls' h' => kk r hr H locs ls' hW hS h')
theorem s_istore (G : Gd x cc nL own) {i : Nat} {v : Int32} (hd : decode cc pc = .ok (.istore i, 2)) (hn : i < nL) (hl : (i, Value.int v) :: lv.filter (fun q => !(q.1 == i) && !(q.1 + 1 == i && q.2.category == 2)) = lv') (kk : Sn x nL A cs ζ Wd (pc + 2) lv' st E) : Sn x nL A cs ζ Wd pc lv (.int v :: st) E :=
  fun r hr H locs ls hW hS h => lv_istore G.1 G.2.1 hd h hn hl (fun ls' h' => kk r hr H locs ls' hW hS h')
theorem s_lstore_n (G : Gd x cc nL own) {k : Fin 4} {i : Nat} {v : Int64} (hd : decode cc pc = .ok (.lstore_n k, 1)) (hi : (k : Nat) = i) (hn : i + 1 < nL) (hl : (i, Value.long v) :: lv.filter (fun q => !(q.1 == i) && (!(q.1 == i + 1) && !(q.1 + 1 == i && q.2.category == 2))) = lv') (kk : Sn x nL A cs ζ Wd (pc + 1) lv' st E) : Sn x nL A cs ζ Wd pc lv (.long v :: st) E :=
  fun r hr H locs ls hW hS h => lv_lstore_n G.1 G.2.1 hd hi h hn hl (fun ls' h' => kk r hr H locs ls' hW hS h')
theorem s_lstore (G : Gd x cc nL own) {i : Nat} {v : Int64} (hd : decode cc pc = .ok (.lstore i, 2)) (hn : i + 1 < nL) (hl : (i, Value.long v) :: lv.filter (fun q => !(q.1 == i) && (!(q.1 == i + 1) && !(q.1 + 1 == i && q.2.category == 2))) = lv') (kk : Sn x nL A cs ζ Wd (pc + 2) lv' st E) : Sn x nL A cs ζ Wd pc lv (.long v :: st) E :=
  fun r hr H locs ls hW hS h => lv_lstore G.1 G.2.1 hd h hn hl (fun ls' h' => kk r hr H locs ls' hW hS h')
theorem s_astore_n (G : Gd x cc nL own) {k : Fin 4} {i v : Nat} (hd : decode cc pc = .ok (.astore_n k, 1)) (hi : (k : Nat) = i) (hn : i < nL) (hl : (i, Value.ref v) :: lv.filter (fun q => !(q.1 == i) && !(q.1 + 1 == i && q.2.category == 2)) = lv') (kk : Sn x nL A cs ζ Wd (pc + 1) lv' st E) : Sn x nL A cs ζ Wd pc lv (.ref v :: st) E :=
  fun r hr H locs ls hW hS h => lv_astore_n G.1 G.2.1 hd hi h hn hl (fun ls' h' => kk r hr H locs ls' hW hS h')
theorem s_astore (G : Gd x cc nL own) {i v : Nat} (hd : decode cc pc = .ok (.astore i, 2)) (hn : i < nL) (hl : (i, Value.ref v) :: lv.filter (fun q => !(q.1 == i) && !(q.1 + 1 == i && q.2.category == 2)) = lv') (kk : Sn x nL A cs ζ Wd (pc + 2) lv' st E) : Sn x nL A cs ζ Wd pc lv (.ref v :: st) E :=
  fun r hr H locs ls hW hS h => lv_astore G.1 G.2.1 hd h hn hl (fun ls' h' => kk r hr H locs ls' hW hS h')
theorem s_astore_nQ (G : Gd x cc nL own) {k : Fin 4} {i B v : Nat} (hd : decode cc pc = .ok (.astore_n k, 1)) (hi : (k : Nat) = i) (hn : i < nL) (hl : (i, rv B v) :: lv.filter (fun q => !(q.1 == i) && !(q.1 + 1 == i && q.2.category == 2)) = lv') (kk : Sn x nL A cs ζ Wd (pc + 1) lv' st E) : Sn x nL A cs ζ Wd pc lv (rv B v :: st) E := by
  intro r hr H locs ls hW hS h
  by_cases hv : v = 0
  · subst hv
    exact lv_astore_nN G.1 G.2.1 hd hi h hn hl (fun ls' h' => kk r hr H locs ls' hW hS h')
  · rw [rv_n B hv] at hl ⊢
    exact lv_astore_n G.1 G.2.1 hd hi h hn hl (fun ls' h' => kk r hr H locs ls' hW hS h')
theorem s_astoreQ (G : Gd x cc nL own) {i B v : Nat} (hd : decode cc pc = .ok (.astore i, 2)) (hn : i < nL) (hl : (i, rv B v) :: lv.filter (fun q => !(q.1 == i) && !(q.1 + 1 == i && q.2.category == 2)) = lv') (kk : Sn x nL A cs ζ Wd (pc + 2) lv' st E) : Sn x nL A cs ζ Wd pc lv (rv B v :: st) E := by
  intro r hr H locs ls hW hS h
  by_cases hv : v = 0
  · subst hv
    exact lv_astoreN G.1 G.2.1 hd h hn hl (fun ls' h' => kk r hr H locs ls' hW hS h')
  · rw [rv_n B hv] at hl ⊢
    exact lv_astore G.1 G.2.1 hd h hn hl (fun ls' h' => kk r hr H locs ls' hW hS h')
theorem s_iinc (G : Gd x cc nL own) {i : Nat} {n : Int} {v w : Int32} {K : Int32 → Option ρ} (hd : decode cc pc = .ok (.iinc i n, 3)) (j : Nat) (hj : lv[j]? = some (i, .int v)) (hw : Int32.ofInt n = w) (hn : i < nL) (lv' : Int32 → List (Nat × Value)) (hl : ∀ y, (i, Value.int y) :: lv.filter (fun q => !(q.1 == i) && !(q.1 + 1 == i && q.2.category == 2)) = lv' y) (kk : ∀ y, Sn x nL A cs ζ Wd (pc + 3) (lv' y) st (K y)) : Sn x nL A cs ζ Wd pc lv st (vb (v + w) K) := by
  intro r hr H locs ls hW hS h
  subst hw
  exact lv_iinc G.1 G.2.1 hd h hj rfl hn (hl _) (fun ls' h' => kk _ r hr H locs ls' hW hS h')
theorem s_iadd (G : Gd x cc nL own) {a b : Int32} (hd : decode cc pc = .ok (.iadd, 1)) (kk : Sn x nL A cs ζ Wd (pc + 1) lv (.int (a + b) :: st) E) : Sn x nL A cs ζ Wd pc lv (.int b :: .int a :: st) E :=
  fun r hr H locs ls hW hS hl => lv_iadd G.1 G.2.1 hd (kk r hr H locs ls hW hS hl)
theorem s_isub (G : Gd x cc nL own) {a b : Int32} (hd : decode cc pc = .ok (.isub, 1)) (kk : Sn x nL A cs ζ Wd (pc + 1) lv (.int (a - b) :: st) E) : Sn x nL A cs ζ Wd pc lv (.int b :: .int a :: st) E :=
  fun r hr H locs ls hW hS hl => lv_isub G.1 G.2.1 hd (kk r hr H locs ls hW hS hl)
theorem s_imul (G : Gd x cc nL own) {a b : Int32} (hd : decode cc pc = .ok (.imul, 1)) (kk : Sn x nL A cs ζ Wd (pc + 1) lv (.int (a * b) :: st) E) : Sn x nL A cs ζ Wd pc lv (.int b :: .int a :: st) E :=
  fun r hr H locs ls hW hS hl => lv_imul G.1 G.2.1 hd (kk r hr H locs ls hW hS hl)
theorem s_idiv (G : Gd x cc nL own) {a b : Int32} (hd : decode cc pc = .ok (.idiv, 1)) (hz : ¬ b = 0) (kk : Sn x nL A cs ζ Wd (pc + 1) lv (.int (a / b) :: st) E) : Sn x nL A cs ζ Wd pc lv (.int b :: .int a :: st) E :=
  fun r hr H locs ls hW hS hl => lv_idiv G.1 G.2.1 hd hz (kk r hr H locs ls hW hS hl)
theorem s_irem (G : Gd x cc nL own) {a b : Int32} (hd : decode cc pc = .ok (.irem, 1)) (hz : ¬ b = 0) (kk : Sn x nL A cs ζ Wd (pc + 1) lv (.int (a - a / b * b) :: st) E) : Sn x nL A cs ζ Wd pc lv (.int b :: .int a :: st) E :=
  fun r hr H locs ls hW hS hl => lv_irem G.1 G.2.1 hd hz (kk r hr H locs ls hW hS hl)
theorem s_iand (G : Gd x cc nL own) {a b : Int32} (hd : decode cc pc = .ok (.iand, 1)) (kk : Sn x nL A cs ζ Wd (pc + 1) lv (.int (a &&& b) :: st) E) : Sn x nL A cs ζ Wd pc lv (.int b :: .int a :: st) E :=
  fun r hr H locs ls hW hS hl => lv_iand G.1 G.2.1 hd (kk r hr H locs ls hW hS hl)
theorem s_ior (G : Gd x cc nL own) {a b : Int32} (hd : decode cc pc = .ok (.ior, 1)) (kk : Sn x nL A cs ζ Wd (pc + 1) lv (.int (a ||| b) :: st) E) : Sn x nL A cs ζ Wd pc lv (.int b :: .int a :: st) E :=
  fun r hr H locs ls hW hS hl => lv_ior G.1 G.2.1 hd (kk r hr H locs ls hW hS hl)
theorem s_ixor (G : Gd x cc nL own) {a b : Int32} (hd : decode cc pc = .ok (.ixor, 1)) (kk : Sn x nL A cs ζ Wd (pc + 1) lv (.int (a ^^^ b) :: st) E) : Sn x nL A cs ζ Wd pc lv (.int b :: .int a :: st) E :=
  fun r hr H locs ls hW hS hl => lv_ixor G.1 G.2.1 hd (kk r hr H locs ls hW hS hl)
theorem s_ishl (G : Gd x cc nL own) {a b : Int32} (hd : decode cc pc = .ok (.ishl, 1)) (kk : Sn x nL A cs ζ Wd (pc + 1) lv (.int (a <<< (b &&& 31)) :: st) E) : Sn x nL A cs ζ Wd pc lv (.int b :: .int a :: st) E :=
  fun r hr H locs ls hW hS hl => lv_ishl G.1 G.2.1 hd (kk r hr H locs ls hW hS hl)
theorem s_ishr (G : Gd x cc nL own) {a b : Int32} (hd : decode cc pc = .ok (.ishr, 1)) (kk : Sn x nL A cs ζ Wd (pc + 1) lv (.int (a >>> (b &&& 31)) :: st) E) : Sn x nL A cs ζ Wd pc lv (.int b :: .int a :: st) E :=
  fun r hr H locs ls hW hS hl => lv_ishr G.1 G.2.1 hd (kk r hr H locs ls hW hS hl)
theorem s_iushr (G : Gd x cc nL own) {a b : Int32} (hd : decode cc pc = .ok (.iushr, 1)) (kk : Sn x nL A cs ζ Wd (pc + 1) lv (.int (a.toUInt32 >>> (b.toUInt32 &&& Int32.toUInt32 31)).toInt32 :: st) E) : Sn x nL A cs ζ Wd pc lv (.int b :: .int a :: st) E :=
  fun r hr H locs ls hW hS hl => lv_iushr G.1 G.2.1 hd rfl (kk r hr H locs ls hW hS hl)
theorem s_ineg (G : Gd x cc nL own) {a : Int32} (hd : decode cc pc = .ok (.ineg, 1)) (kk : Sn x nL A cs ζ Wd (pc + 1) lv (.int (-a) :: st) E) : Sn x nL A cs ζ Wd pc lv (.int a :: st) E :=
  fun r hr H locs ls hW hS hl => lv_ineg G.1 G.2.1 hd (kk r hr H locs ls hW hS hl)
theorem s_ladd (G : Gd x cc nL own) {a b : Int64} (hd : decode cc pc = .ok (.ladd, 1)) (kk : Sn x nL A cs ζ Wd (pc + 1) lv (.long (a + b) :: st) E) : Sn x nL A cs ζ Wd pc lv (.long b :: .long a :: st) E :=
  fun r hr H locs ls hW hS hl => lv_ladd G.1 G.2.1 hd (kk r hr H locs ls hW hS hl)
theorem s_lsub (G : Gd x cc nL own) {a b : Int64} (hd : decode cc pc = .ok (.lsub, 1)) (kk : Sn x nL A cs ζ Wd (pc + 1) lv (.long (a - b) :: st) E) : Sn x nL A cs ζ Wd pc lv (.long b :: .long a :: st) E :=
  fun r hr H locs ls hW hS hl => lv_lsub G.1 G.2.1 hd (kk r hr H locs ls hW hS hl)
theorem s_lmul (G : Gd x cc nL own) {a b : Int64} (hd : decode cc pc = .ok (.lmul, 1)) (kk : Sn x nL A cs ζ Wd (pc + 1) lv (.long (a * b) :: st) E) : Sn x nL A cs ζ Wd pc lv (.long b :: .long a :: st) E :=
  fun r hr H locs ls hW hS hl => lv_lmul G.1 G.2.1 hd (kk r hr H locs ls hW hS hl)
theorem s_ldiv (G : Gd x cc nL own) {a b : Int64} (hd : decode cc pc = .ok (.ldiv, 1)) (hz : ¬ b = 0) (kk : Sn x nL A cs ζ Wd (pc + 1) lv (.long (a / b) :: st) E) : Sn x nL A cs ζ Wd pc lv (.long b :: .long a :: st) E :=
  fun r hr H locs ls hW hS hl => lv_ldiv G.1 G.2.1 hd hz (kk r hr H locs ls hW hS hl)
theorem s_lrem (G : Gd x cc nL own) {a b : Int64} (hd : decode cc pc = .ok (.lrem, 1)) (hz : ¬ b = 0) (kk : Sn x nL A cs ζ Wd (pc + 1) lv (.long (a - a / b * b) :: st) E) : Sn x nL A cs ζ Wd pc lv (.long b :: .long a :: st) E :=
  fun r hr H locs ls hW hS hl => lv_lrem G.1 G.2.1 hd hz (kk r hr H locs ls hW hS hl)
theorem s_lneg (G : Gd x cc nL own) {a : Int64} (hd : decode cc pc = .ok (.lneg, 1)) (kk : Sn x nL A cs ζ Wd (pc + 1) lv (.long (-a) :: st) E) : Sn x nL A cs ζ Wd pc lv (.long a :: st) E :=
  fun r hr H locs ls hW hS hl => lv_lneg G.1 G.2.1 hd (kk r hr H locs ls hW hS hl)
theorem s_land (G : Gd x cc nL own) {a b : Int64} (hd : decode cc pc = .ok (.land, 1)) (kk : Sn x nL A cs ζ Wd (pc + 1) lv (.long (a &&& b) :: st) E) : Sn x nL A cs ζ Wd pc lv (.long b :: .long a :: st) E :=
  fun r hr H locs ls hW hS hl => lv_land G.1 G.2.1 hd (kk r hr H locs ls hW hS hl)
theorem s_lor (G : Gd x cc nL own) {a b : Int64} (hd : decode cc pc = .ok (.lor, 1)) (kk : Sn x nL A cs ζ Wd (pc + 1) lv (.long (a ||| b) :: st) E) : Sn x nL A cs ζ Wd pc lv (.long b :: .long a :: st) E :=
  fun r hr H locs ls hW hS hl => lv_lor G.1 G.2.1 hd (kk r hr H locs ls hW hS hl)
theorem s_lxor (G : Gd x cc nL own) {a b : Int64} (hd : decode cc pc = .ok (.lxor, 1)) (kk : Sn x nL A cs ζ Wd (pc + 1) lv (.long (a ^^^ b) :: st) E) : Sn x nL A cs ζ Wd pc lv (.long b :: .long a :: st) E :=
  fun r hr H locs ls hW hS hl => lv_lxor G.1 G.2.1 hd (kk r hr H locs ls hW hS hl)
theorem s_lshl (G : Gd x cc nL own) {a : Int64} {b : Int32} (hd : decode cc pc = .ok (.lshl, 1)) (kk : Sn x nL A cs ζ Wd (pc + 1) lv (.long (a <<< (b.toInt64 &&& 63)) :: st) E) : Sn x nL A cs ζ Wd pc lv (.int b :: .long a :: st) E :=
  fun r hr H locs ls hW hS hl => lv_lshl G.1 G.2.1 hd rfl (kk r hr H locs ls hW hS hl)
theorem s_lushr (G : Gd x cc nL own) {a : Int64} {b : Int32} (hd : decode cc pc = .ok (.lushr, 1)) (kk : Sn x nL A cs ζ Wd (pc + 1) lv (.long (a.toUInt64 >>> (b.toInt64.toUInt64 &&& Int64.toUInt64 63)).toInt64 :: st) E) : Sn x nL A cs ζ Wd pc lv (.int b :: .long a :: st) E :=
  fun r hr H locs ls hW hS hl => lv_lushr G.1 G.2.1 hd rfl (kk r hr H locs ls hW hS hl)
theorem s_i2l (G : Gd x cc nL own) {a : Int32} (hd : decode cc pc = .ok (.i2l, 1)) (kk : Sn x nL A cs ζ Wd (pc + 1) lv (.long a.toInt64 :: st) E) : Sn x nL A cs ζ Wd pc lv (.int a :: st) E :=
  fun r hr H locs ls hW hS hl => lv_i2l G.1 G.2.1 hd rfl (kk r hr H locs ls hW hS hl)
theorem s_l2i (G : Gd x cc nL own) {a : Int64} (hd : decode cc pc = .ok (.l2i, 1)) (kk : Sn x nL A cs ζ Wd (pc + 1) lv (.int a.toInt32 :: st) E) : Sn x nL A cs ζ Wd pc lv (.long a :: st) E :=
  fun r hr H locs ls hW hS hl => lv_l2i G.1 G.2.1 hd rfl (kk r hr H locs ls hW hS hl)
theorem s_i2b (G : Gd x cc nL own) {a : Int32} (hd : decode cc pc = .ok (.i2b, 1)) (kk : Sn x nL A cs ζ Wd (pc + 1) lv (.int a.toInt8.toInt32 :: st) E) : Sn x nL A cs ζ Wd pc lv (.int a :: st) E :=
  fun r hr H locs ls hW hS hl => lv_i2b G.1 G.2.1 hd rfl (kk r hr H locs ls hW hS hl)
theorem s_i2s (G : Gd x cc nL own) {a : Int32} (hd : decode cc pc = .ok (.i2s, 1)) (kk : Sn x nL A cs ζ Wd (pc + 1) lv (.int a.toInt16.toInt32 :: st) E) : Sn x nL A cs ζ Wd pc lv (.int a :: st) E :=
  fun r hr H locs ls hW hS hl => lv_i2s G.1 G.2.1 hd rfl (kk r hr H locs ls hW hS hl)
theorem s_i2c (G : Gd x cc nL own) {a : Int32} (hd : decode cc pc = .ok (.i2c, 1)) (kk : Sn x nL A cs ζ Wd (pc + 1) lv (.int (a.toUInt32 % 65536).toInt32 :: st) E) : Sn x nL A cs ζ Wd pc lv (.int a :: st) E :=
  fun r hr H locs ls hW hS hl => lv_i2c G.1 G.2.1 hd rfl (kk r hr H locs ls hW hS hl)
theorem s_lcmp (G : Gd x cc nL own) {a b : Int64} (hd : decode cc pc = .ok (.lcmp, 1)) (kk : Sn x nL A cs ζ Wd (pc + 1) lv (.int (lg_cmp a b) :: st) E) : Sn x nL A cs ζ Wd pc lv (.long b :: .long a :: st) E :=
  fun r hr H locs ls hW hS hl => W.lcmp G.1 G.2.1 hd (kk r hr H locs ls hW hS hl)
theorem s_dup (G : Gd x cc nL own) {v : Value} (hd : decode cc pc = .ok (.dup, 1)) (hv : v.category = 1) (kk : Sn x nL A cs ζ Wd (pc + 1) lv (v :: v :: st) E) : Sn x nL A cs ζ Wd pc lv (v :: st) E :=
  fun r hr H locs ls hW hS hl => lv_dup G.1 G.2.1 hd hv (kk r hr H locs ls hW hS hl)
theorem s_pop (G : Gd x cc nL own) {v : Value} (hd : decode cc pc = .ok (.pop, 1)) (hv : v.category = 1) (kk : Sn x nL A cs ζ Wd (pc + 1) lv st E) : Sn x nL A cs ζ Wd pc lv (v :: st) E :=
  fun r hr H locs ls hW hS hl => lv_pop G.1 G.2.1 hd hv (kk r hr H locs ls hW hS hl)
theorem s_dup2 (G : Gd x cc nL own) {v w : Value} (hd : decode cc pc = .ok (.dup2, 1)) (hv : v.category = 1) (hw : w.category = 1) (kk : Sn x nL A cs ζ Wd (pc + 1) lv (v :: w :: v :: w :: st) E) : Sn x nL A cs ζ Wd pc lv (v :: w :: st) E :=
  fun r hr H locs ls hW hS hl => lv_dup2_11 G.1 G.2.1 hd hv hw (kk r hr H locs ls hW hS hl)
theorem s_null (G : Gd x cc nL own) {B : Nat} (hd : decode cc pc = .ok (.aconst_null, 1)) (kk : Sn x nL A cs ζ Wd (pc + 1) lv (rv B 0 :: st) E) : Sn x nL A cs ζ Wd pc lv st E :=
  fun r hr H locs ls hW hS hl => lv_null G.1 G.2.1 hd (kk r hr H locs ls hW hS hl)
theorem s_goto (G : Gd x cc nL own) {off : Int} {tgt : Nat} (hd : decode cc pc = .ok (.goto off, 3)) (ht : (pc : Int) + off = (tgt : Int)) (kk : Sn x nL A cs ζ Wd tgt lv st E) : Sn x nL A cs ζ Wd pc lv st E :=
  fun r hr H locs ls hW hS hl => lv_goto G.1 G.2.1 hd ht (kk r hr H locs ls hW hS hl)
theorem s_ifnull (G : Gd x cc nL own) {B v : Nat} {off : Int} {tgt : Nat} {E1 E2 : Option ρ} (hd : decode cc pc = .ok (.ifnull off, 3)) (ht : (pc : Int) + off = (tgt : Int)) (k1 : v = 0 → Sn x nL A cs ζ Wd tgt lv st E1) (k2 : ¬ v = 0 → Sn x nL A cs ζ Wd (pc + 3) lv st E2) : Sn x nL A cs ζ Wd pc lv (rv B v :: st) (if v = 0 then E1 else E2) := by
  intro r hr H locs ls hW hS hl
  by_cases hv : v = 0
  · rw [if_pos hv] at hr
    subst hv
    exact lv_ifnullN G.1 G.2.1 hd ht (k1 rfl r hr H locs ls hW hS hl)
  · rw [if_neg hv] at hr
    rw [rv_n B hv]
    exact lv_ifnull G.1 G.2.1 hd (k2 hv r hr H locs ls hW hS hl)
theorem s_ifnonnull (G : Gd x cc nL own) {B v : Nat} {off : Int} {tgt : Nat} {E1 E2 : Option ρ} (hd : decode cc pc = .ok (.ifnonnull off, 3)) (ht : (pc : Int) + off = (tgt : Int)) (k1 : v = 0 → Sn x nL A cs ζ Wd (pc + 3) lv st E1) (k2 : ¬ v = 0 → Sn x nL A cs ζ Wd tgt lv st E2) : Sn x nL A cs ζ Wd pc lv (rv B v :: st) (if v = 0 then E1 else E2) := by
  intro r hr H locs ls hW hS hl
  by_cases hv : v = 0
  · rw [if_pos hv] at hr
    subst hv
    exact lv_ifnonnullN G.1 G.2.1 hd (k1 rfl r hr H locs ls hW hS hl)
  · rw [if_neg hv] at hr
    rw [rv_n B hv]
    exact lv_ifnonnull G.1 G.2.1 hd ht (k2 hv r hr H locs ls hW hS hl)
theorem s_if_eq (G : Gd x cc nL own) {a : Int32} {off : Int} {tgt : Nat} {E1 E2 : Option ρ} (hd : decode cc pc = .ok (.ifCond .eq off, 3)) (ht : (pc : Int) + off = (tgt : Int)) (k1 : a = 0 → Sn x nL A cs ζ Wd tgt lv st E1) (k2 : ¬ a = 0 → Sn x nL A cs ζ Wd (pc + 3) lv st E2) : Sn x nL A cs ζ Wd pc lv (.int a :: st) (if a = 0 then E1 else E2) := by
  intro r hr H locs ls hW hS hl
  exact lv_if_eq G.1 G.2.1 hd ht (fun h => k1 h r (by rw [if_pos h] at hr; exact hr) H locs ls hW hS hl) (fun h => k2 h r (by rw [if_neg h] at hr; exact hr) H locs ls hW hS hl)
theorem s_icmp_eq (G : Gd x cc nL own) {a b : Int32} {off : Int} {tgt : Nat} {E1 E2 : Option ρ} (hd : decode cc pc = .ok (.if_icmp .eq off, 3)) (ht : (pc : Int) + off = (tgt : Int)) (k1 : a = b → Sn x nL A cs ζ Wd tgt lv st E1) (k2 : ¬ a = b → Sn x nL A cs ζ Wd (pc + 3) lv st E2) : Sn x nL A cs ζ Wd pc lv (.int b :: .int a :: st) (if a = b then E1 else E2) := by
  intro r hr H locs ls hW hS hl
  exact lv_icmp_eq G.1 G.2.1 hd ht (fun h => k1 h r (by rw [if_pos h] at hr; exact hr) H locs ls hW hS hl) (fun h => k2 h r (by rw [if_neg h] at hr; exact hr) H locs ls hW hS hl)
theorem s_if_lt (G : Gd x cc nL own) {a : Int32} {off : Int} {tgt : Nat} {E1 E2 : Option ρ} (hd : decode cc pc = .ok (.ifCond .lt off, 3)) (ht : (pc : Int) + off = (tgt : Int)) (k1 : a < 0 → Sn x nL A cs ζ Wd tgt lv st E1) (k2 : ¬ a < 0 → Sn x nL A cs ζ Wd (pc + 3) lv st E2) : Sn x nL A cs ζ Wd pc lv (.int a :: st) (if a < 0 then E1 else E2) := by
  intro r hr H locs ls hW hS hl
  exact lv_if_lt G.1 G.2.1 hd ht (fun h => k1 h r (by rw [if_pos h] at hr; exact hr) H locs ls hW hS hl) (fun h => k2 h r (by rw [if_neg h] at hr; exact hr) H locs ls hW hS hl)
theorem s_icmp_lt (G : Gd x cc nL own) {a b : Int32} {off : Int} {tgt : Nat} {E1 E2 : Option ρ} (hd : decode cc pc = .ok (.if_icmp .lt off, 3)) (ht : (pc : Int) + off = (tgt : Int)) (k1 : a < b → Sn x nL A cs ζ Wd tgt lv st E1) (k2 : ¬ a < b → Sn x nL A cs ζ Wd (pc + 3) lv st E2) : Sn x nL A cs ζ Wd pc lv (.int b :: .int a :: st) (if a < b then E1 else E2) := by
  intro r hr H locs ls hW hS hl
  exact lv_icmp_lt G.1 G.2.1 hd ht (fun h => k1 h r (by rw [if_pos h] at hr; exact hr) H locs ls hW hS hl) (fun h => k2 h r (by rw [if_neg h] at hr; exact hr) H locs ls hW hS hl)
theorem s_if_ge (G : Gd x cc nL own) {a : Int32} {off : Int} {tgt : Nat} {E1 E2 : Option ρ} (hd : decode cc pc = .ok (.ifCond .ge off, 3)) (ht : (pc : Int) + off = (tgt : Int)) (k1 : 0 ≤ a → Sn x nL A cs ζ Wd tgt lv st E1) (k2 : ¬ 0 ≤ a → Sn x nL A cs ζ Wd (pc + 3) lv st E2) : Sn x nL A cs ζ Wd pc lv (.int a :: st) (if 0 ≤ a then E1 else E2) := by
  intro r hr H locs ls hW hS hl
  exact lv_if_ge G.1 G.2.1 hd ht (fun h => k1 h r (by rw [if_pos h] at hr; exact hr) H locs ls hW hS hl) (fun h => k2 h r (by rw [if_neg h] at hr; exact hr) H locs ls hW hS hl)
theorem s_icmp_ge (G : Gd x cc nL own) {a b : Int32} {off : Int} {tgt : Nat} {E1 E2 : Option ρ} (hd : decode cc pc = .ok (.if_icmp .ge off, 3)) (ht : (pc : Int) + off = (tgt : Int)) (k1 : b ≤ a → Sn x nL A cs ζ Wd tgt lv st E1) (k2 : ¬ b ≤ a → Sn x nL A cs ζ Wd (pc + 3) lv st E2) : Sn x nL A cs ζ Wd pc lv (.int b :: .int a :: st) (if b ≤ a then E1 else E2) := by
  intro r hr H locs ls hW hS hl
  exact lv_icmp_ge G.1 G.2.1 hd ht (fun h => k1 h r (by rw [if_pos h] at hr; exact hr) H locs ls hW hS hl) (fun h => k2 h r (by rw [if_neg h] at hr; exact hr) H locs ls hW hS hl)
theorem s_if_gt (G : Gd x cc nL own) {a : Int32} {off : Int} {tgt : Nat} {E1 E2 : Option ρ} (hd : decode cc pc = .ok (.ifCond .gt off, 3)) (ht : (pc : Int) + off = (tgt : Int)) (k1 : 0 < a → Sn x nL A cs ζ Wd tgt lv st E1) (k2 : ¬ 0 < a → Sn x nL A cs ζ Wd (pc + 3) lv st E2) : Sn x nL A cs ζ Wd pc lv (.int a :: st) (if 0 < a then E1 else E2) := by
  intro r hr H locs ls hW hS hl
  exact lv_if_gt G.1 G.2.1 hd ht (fun h => k1 h r (by rw [if_pos h] at hr; exact hr) H locs ls hW hS hl) (fun h => k2 h r (by rw [if_neg h] at hr; exact hr) H locs ls hW hS hl)
theorem s_icmp_gt (G : Gd x cc nL own) {a b : Int32} {off : Int} {tgt : Nat} {E1 E2 : Option ρ} (hd : decode cc pc = .ok (.if_icmp .gt off, 3)) (ht : (pc : Int) + off = (tgt : Int)) (k1 : b < a → Sn x nL A cs ζ Wd tgt lv st E1) (k2 : ¬ b < a → Sn x nL A cs ζ Wd (pc + 3) lv st E2) : Sn x nL A cs ζ Wd pc lv (.int b :: .int a :: st) (if b < a then E1 else E2) := by
  intro r hr H locs ls hW hS hl
  exact lv_icmp_gt G.1 G.2.1 hd ht (fun h => k1 h r (by rw [if_pos h] at hr; exact hr) H locs ls hW hS hl) (fun h => k2 h r (by rw [if_neg h] at hr; exact hr) H locs ls hW hS hl)
theorem s_if_le (G : Gd x cc nL own) {a : Int32} {off : Int} {tgt : Nat} {E1 E2 : Option ρ} (hd : decode cc pc = .ok (.ifCond .le off, 3)) (ht : (pc : Int) + off = (tgt : Int)) (k1 : a ≤ 0 → Sn x nL A cs ζ Wd tgt lv st E1) (k2 : ¬ a ≤ 0 → Sn x nL A cs ζ Wd (pc + 3) lv st E2) : Sn x nL A cs ζ Wd pc lv (.int a :: st) (if a ≤ 0 then E1 else E2) := by
  intro r hr H locs ls hW hS hl
  exact lv_if_le G.1 G.2.1 hd ht (fun h => k1 h r (by rw [if_pos h] at hr; exact hr) H locs ls hW hS hl) (fun h => k2 h r (by rw [if_neg h] at hr; exact hr) H locs ls hW hS hl)
theorem s_icmp_le (G : Gd x cc nL own) {a b : Int32} {off : Int} {tgt : Nat} {E1 E2 : Option ρ} (hd : decode cc pc = .ok (.if_icmp .le off, 3)) (ht : (pc : Int) + off = (tgt : Int)) (k1 : a ≤ b → Sn x nL A cs ζ Wd tgt lv st E1) (k2 : ¬ a ≤ b → Sn x nL A cs ζ Wd (pc + 3) lv st E2) : Sn x nL A cs ζ Wd pc lv (.int b :: .int a :: st) (if a ≤ b then E1 else E2) := by
  intro r hr H locs ls hW hS hl
  exact lv_icmp_le G.1 G.2.1 hd ht (fun h => k1 h r (by rw [if_pos h] at hr; exact hr) H locs ls hW hS hl) (fun h => k2 h r (by rw [if_neg h] at hr; exact hr) H locs ls hW hS hl)
theorem s_if_ne (G : Gd x cc nL own) {a : Int32} {off : Int} {tgt : Nat} {E1 E2 : Option ρ} (hd : decode cc pc = .ok (.ifCond .ne off, 3)) (ht : (pc : Int) + off = (tgt : Int)) (k1 : a = 0 → Sn x nL A cs ζ Wd (pc + 3) lv st E1) (k2 : ¬ a = 0 → Sn x nL A cs ζ Wd tgt lv st E2) : Sn x nL A cs ζ Wd pc lv (.int a :: st) (if a = 0 then E1 else E2) := by
  intro r hr H locs ls hW hS hl
  exact lv_if_ne G.1 G.2.1 hd ht (fun h => k2 h r (by rw [if_neg h] at hr; exact hr) H locs ls hW hS hl) (fun h => k1 h r (by rw [if_pos h] at hr; exact hr) H locs ls hW hS hl)
theorem s_icmp_ne (G : Gd x cc nL own) {a b : Int32} {off : Int} {tgt : Nat} {E1 E2 : Option ρ} (hd : decode cc pc = .ok (.if_icmp .ne off, 3)) (ht : (pc : Int) + off = (tgt : Int)) (k1 : a = b → Sn x nL A cs ζ Wd (pc + 3) lv st E1) (k2 : ¬ a = b → Sn x nL A cs ζ Wd tgt lv st E2) : Sn x nL A cs ζ Wd pc lv (.int b :: .int a :: st) (if a = b then E1 else E2) := by
  intro r hr H locs ls hW hS hl
  exact lv_icmp_ne G.1 G.2.1 hd ht (fun h => k2 h r (by rw [if_neg h] at hr; exact hr) H locs ls hW hS hl) (fun h => k1 h r (by rw [if_pos h] at hr; exact hr) H locs ls hW hS hl)
end SR
