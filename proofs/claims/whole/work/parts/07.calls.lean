/-! ===== calls, ends, the library's own ===== -/
def rmd (d : Nat) : Room := { frames := d, cells := 0, slots := 0, locals := 64 * d }
def PcM (g : GT) (av : List Value) (h : Hp) : Array Value → State → Prop := fun v U => v = av.toArray ∧ gW g h U.heap ∧ EnvG g U U.heap
def QcM (g : GT) (o : Option Value) (h' : Hp) : Array Value → State → Outcome → State → Prop := fun _ st oc t => oc = .returned o ∧ gW g h' t.heap ∧ va_F (gA g) st t
def MetM (l : Launch) (g : GT) (y : MethodName) (cc : ByteArray) (maxL : Nat) (ret : Option FieldType) (d : Nat) (av : List Value) (h : Hp) (o : Option Value) (h' : Hp) : Prop :=
  Met l y (.code y cc maxL ret :: GW) (rmd d) (PcM g av h) (QcM g o h') 0 0 (gA g)
def ζM {α : Type} (x : CT) (g : GT) (inj : α → Option Value) : α × Hp → State → Prop := fun r => MQ (xb x) (QcM g (inj r.1) r.2) (xa x) (xs x) 0 0 (gA g)
def Rt (x : CT) (ret : Option FieldType) : Prop := (xt x).sig.returnType = ret
theorem blind_M {g : GT} {av : List Value} {h : Hp} : FrameBlind (PcM g av h) := fun a U gf mk q => ⟨q.1, q.2.1, EnvG.go (s := U) (U := U.calling gf mk a) q.2.2 (State.WarmedH.refl U) (fun _ _ _ => rfl)⟩
def VCb (own : String) (idx : Nat) (y : MethodName) (cc : ByteArray) (maxL : Nat) (ret : Option FieldType) (n : Nat) : Prop :=
  Cond.methodLink own idx y ∈ GW ∧ Cond.code y cc maxL ret ∈ GW ∧ Cond.initialized y.cls ∈ GW ∧ (y.cls ≠ "java/lang/invoke/MethodHandle" ∧ y.cls ≠ "java/lang/invoke/VarHandle" ∧ (parseMethodDescriptor y.desc).map (fun d => d.parameters.length) = some n) ∧ maxL ≤ 40
def VV (own : String) (idx : Nat) (y : MethodName) (cc : ByteArray) (maxL : Nat) (ret : Option FieldType) (n : Nat) : Prop := VCb own idx y cc maxL ret n ∧ Cond.instanceMethod y ∈ GW ∧ Cond.selects y.cls y y ∈ GW
def VS (own : String) (idx : Nat) (y : MethodName) (cc : ByteArray) (maxL : Nat) (ret : Option FieldType) (n : Nat) : Prop := VCb own idx y cc maxL ret n ∧ Cond.static y ∈ GW
section SC
variable {x : CT} {cc : ByteArray} {nL : Nat} {own : String} {cs : Nat × Nat} {pc : Nat} {lv lv' : List (Nat × Value)} {st : List Value} {g : GT} {h : Hp}
theorem x_call {H : Heap} {locs : List Loc} {ls : Array Slot} {Z : State → Prop} {stk : List Value} {o : Option Value} {h1 : Hp} {av : Array Value} (hS : va_S (gA g) (xs x).heap H locs)
    (hr : va_Run (xp x) (xl x) (xe x) (xR x) (xs x) (xm x) (xa x) (xb x) (xt x) (xc x) H locs cs.1 cs.2 0 0 (F0 (xm x) pc ls stk) st (QcM g o h1 av) (gA g))
    (kk : ∀ H1 locs1, gW g h1 H1 → va_S (gA g) (xs x).heap H1 locs1 → XW x H1 locs1 cs Z (F0 (xm x) (pc + 3) ls (o.toList ++ st))) : XW x H locs cs Z (F0 (xm x) pc ls stk) := by
  intro T hT X
  obtain ⟨v, st₀, t, T', L, h0, X', hL, e1, e2, ⟨hv, hw, hz, hk⟩, stp⟩ := hr T hT X
  obtain rfl : v = o := Outcome.returned.inj hv
  rw [h0] at hz hk
  obtain ⟨t2, a1, b1⟩ := kk T'.heap (locs ++ L) (by rw [e1]; exact hw) ⟨Nat.le_trans hS.1 (by rw [e1]; exact hz), fun q h1 h2 => by rw [e1, hk q (Nat.lt_of_lt_of_le h1 hS.1) h2]; exact hS.2.1 q h1 h2, fun q hq => by
      rcases List.mem_append.mp hq with h | h
      · exact hS.2.2 q h
      · exact hL q h⟩ T' rfl X'
  exact ⟨t2, stp t2 a1, b1⟩
theorem c_env (Q : Ge x g) {H : Heap} {locs : List Loc} (hS : va_S (gA g) (xs x).heap H locs) {U : State} (hU : U.heap = H) (hW : (xs x).WarmedH U.vm) : EnvG g U U.heap := by
  rw [hU]; exact Q.1.go hW hS.2.1
theorem c_base (G : Gd x cc nL own) {idx n d' maxL : Nat} {y : MethodName} {cc' : ByteArray} {ret : Option FieldType} (hR : Rm x (d' + 1)) (hv : VCb own idx y cc' maxL ret n) :
    CallB (xR x) (xs x) (xa x) own idx y cc' maxL ret (.code y cc' maxL ret :: GW) (rmd d') 0 0 n := by
  obtain ⟨h1, h2, h3, h4, h5⟩ := hv
  have hts := G.2.2.2.2.1
  refine ⟨rfl, rfl, hR.1, ?_, ?_, List.mem_cons_self, hts _ h2, hts _ h3, ⟨h4.1, h4.2.1⟩, fun sig hs => ?_, hts _ h1⟩
  · have := hR.2
    show 8 + (maxL + 11) + 64 * d' ≤ _
    omega
  · intro w hw a' U hWU
    have hw' : w ∈ GW := by
      rcases List.mem_cons.mp hw with rfl | hw
      · exact h2
      · exact hw
    exact word_at hWU (gw_goodW hw') (hts w hw')
  · have h6 := h4.2.2
    rw [hs] at h6
    exact (Option.some.inj h6).symm
variable {ρ α : Type} {ζ : ρ → State → Prop} {E : Option ρ}
theorem Rm.le {d d' : Nat} (h : Rm x d) (hd : d' ≤ d) : Rm x d' := ⟨Nat.le_trans hd h.1, Nat.le_trans (Nat.mul_le_mul_left 64 hd) h.2⟩
def inI : Int32 → Option Value := fun v => some (.int v)
def inL : Int64 → Option Value := fun v => some (.long v)
def inV : Unit → Option Value := fun _ => none
def inR (B : Nat) : Nat → Option Value := fun v => some (rv B v)
def inS (k : Nat → Nat) : Nat → Option Value := fun v => some (.ref (k v))
/-- a method of an object of ours -/
theorem s_callV {A : Nat → Prop} (hA : A = gA g) (G : Gd x cc nL own) (Q : Ge x g) {inj : α → Option Value} {F : Option (α × Hp)} {K : α → Hp → Option ρ} {a c idx n d d' maxL : Nat} {As stk : List Value} {y : MethodName} {cc' : ByteArray} {ret : Option FieldType}
    (hd : decode cc pc = .ok (.invokevirtual idx, 3)) (hR : Rm x d) (hdd : d' + 1 ≤ d) (hv : VV own idx y cc' maxL ret n) (hc : c < 10) (hy : y.cls = cN c) (hL : gL g a = (c + 1, 0)) (hn : As.length = n) (hst : (st.map fun v => v.category).sum ≤ 8) (hk : stk = As.reverse ++ .ref (gB g + a) :: st)
    (hm : ∀ v h1, F = some (v, h1) → MetM (xl x) g y cc' maxL ret d' (.ref (gB g + a) :: As) h (inj v) h1)
    (kk : ∀ v h1, Sn x nL A (0, 0) ζ (gW g h1) (pc + 3) lv ((inj v).toList ++ st) (K v h1)) : Sn x nL A (0, 0) ζ (gW g h) pc lv stk (cb F K) := by
  subst hA
  intro r hr H locs ls hW hS hl
  cases hF : F with
  | none => rw [hF] at hr; cases hr
  | some q =>
    obtain ⟨v, h1⟩ := q
    rw [hF] at hr
    have hM := hm v h1 hF
    obtain ⟨ha1, ha2⟩ := Q.2 a (by rw [hL]; exact Nat.succ_ne_zero _)
    have hq : (wl g h (gN g))[a - 1]? = some (gB g + a, .inr (c, (List.range (cK c)).map (fv (gB g) c h a))) := by rw [wl_get ha1 ha2, ent_obj hL hc]
    obtain ⟨cellB, b1, b2, b3⟩ := va_recv (q := (cN c, cT c, cK c)) Q.1.1 hW.2 (vw_at hc) hq
    have cw : CallW (xR x) (xs x) (xa x) own (cN c) idx y cc' maxL ret (.code y cc' maxL ret :: GW) (rmd d') 0 0 n := ⟨c_base G (hR.le hdd) hv.1, G.2.2.2.2.1 _ hv.2.1, by rw [← hy]; exact G.2.2.2.2.1 _ hv.2.2⟩
    exact x_call (av := (Value.ref (gB g + a) :: As).toArray) hS (va_runV (As := As) (rest := st) ⟨G.1, G.2.1, G.2.2.1, G.2.2.2.1, G.2.2.2.2.1⟩ hM cw ⟨blind_M, ⟨cellB, b1, b2, b3⟩, fun U hU hWU => ⟨rfl, by rw [hU]; exact hW, c_env Q hS hU hWU⟩⟩ rfl hn hl.1 hk (lv_room hst) hd ⟨Nat.zero_le _, Nat.zero_le _⟩) (fun H1 locs1 hW1 hS1 => kk v h1 r hr H1 locs1 ls hW1 hS1 hl)
/-- a static method -/
theorem s_callS {A : Nat → Prop} (hA : A = gA g) (G : Gd x cc nL own) (Q : Ge x g) {inj : α → Option Value} {F : Option (α × Hp)} {K : α → Hp → Option ρ} {idx n d d' maxL : Nat} {As stk : List Value} {y : MethodName} {cc' : ByteArray} {ret : Option FieldType}
    (hd : decode cc pc = .ok (.invokestatic idx, 3)) (hR : Rm x d) (hdd : d' + 1 ≤ d) (hv : VS own idx y cc' maxL ret n) (hn : As.length = n) (hst : (st.map fun v => v.category).sum ≤ 8) (hk : stk = As.reverse ++ st)
    (hm : ∀ v h1, F = some (v, h1) → MetM (xl x) g y cc' maxL ret d' As h (inj v) h1)
    (kk : ∀ v h1, Sn x nL A (0, 0) ζ (gW g h1) (pc + 3) lv ((inj v).toList ++ st) (K v h1)) : Sn x nL A (0, 0) ζ (gW g h) pc lv stk (cb F K) := by
  subst hA
  intro r hr H locs ls hW hS hl
  cases hF : F with
  | none => rw [hF] at hr; cases hr
  | some q =>
    obtain ⟨v, h1⟩ := q
    rw [hF] at hr
    have hM := hm v h1 hF
    exact x_call (av := As.toArray) hS (va_runS (As := As) (rest := st) ⟨G.1, G.2.1, G.2.2.1, G.2.2.2.1, G.2.2.2.2.1⟩ hM ⟨c_base G (hR.le hdd) hv.1, G.2.2.2.2.1 _ hv.2⟩ ⟨blind_M, fun U hU hWU => ⟨rfl, by rw [hU]; exact hW, c_env Q hS hU hWU⟩⟩ rfl hn hl.1 hk (lv_room hst) hd ⟨Nat.zero_le _, Nat.zero_le _⟩) (fun H1 locs1 hW1 hS1 => kk v h1 r hr H1 locs1 ls hW1 hS1 hl)
/-- a method of a String constant -/
theorem s_callK {A : Nat → Prop} (hA : A = gA g) (G : Gd x cc nL own) (Q : Ge x g) {inj : α → Option Value} {F : Option (α × Hp)} {K : α → Hp → Option ρ} {i idx n d d' maxL : Nat} {As stk : List Value} {y : MethodName} {cc' : ByteArray} {ret : Option FieldType}
    (hd : decode cc pc = .ok (.invokevirtual idx, 3)) (hR : Rm x d) (hdd : d' + 1 ≤ d) (hv : VV own idx y cc' maxL ret n) (hi : i < 12) (hy : y.cls = "java/lang/String") (hn : As.length = n) (hst : (st.map fun v => v.category).sum ≤ 8) (hk : stk = As.reverse ++ .ref (gK g i) :: st)
    (hm : ∀ v h1, F = some (v, h1) → MetM (xl x) g y cc' maxL ret d' (.ref (gK g i) :: As) h (inj v) h1)
    (kk : ∀ v h1, Sn x nL A (0, 0) ζ (gW g h1) (pc + 3) lv ((inj v).toList ++ st) (K v h1)) : Sn x nL A (0, 0) ζ (gW g h) pc lv stk (cb F K) := by
  subst hA
  intro r hr H locs ls hW hS hl
  cases hF : F with
  | none => rw [hF] at hr; cases hr
  | some q =>
    obtain ⟨v, h1⟩ := q
    rw [hF] at hr
    have hM := hm v h1 hF
    obtain ⟨cellB, b1, b2, b3⟩ := vk_recv Q.1.2.2.1 hi hS
    have cw : CallW (xR x) (xs x) (xa x) own "java/lang/String" idx y cc' maxL ret (.code y cc' maxL ret :: GW) (rmd d') 0 0 n := ⟨c_base G (hR.le hdd) hv.1, G.2.2.2.2.1 _ hv.2.1, by rw [← hy]; exact G.2.2.2.2.1 _ hv.2.2⟩
    exact x_call (av := (Value.ref (gK g i) :: As).toArray) hS (va_runV (As := As) (rest := st) ⟨G.1, G.2.1, G.2.2.1, G.2.2.2.1, G.2.2.2.2.1⟩ hM cw ⟨blind_M, ⟨cellB, b1, b2, b3⟩, fun U hU hWU => ⟨rfl, by rw [hU]; exact hW, c_env Q hS hU hWU⟩⟩ rfl hn hl.1 hk (lv_room hst) hd ⟨Nat.zero_le _, Nat.zero_le _⟩) (fun H1 locs1 hW1 hS1 => kk v h1 r hr H1 locs1 ls hW1 hS1 hl)
/-! ends -/
theorem s_iret (G : Gd x cc nL own) (hrt : Rt x (some .int)) {v : Int32} (hd : decode cc pc = .ok (.ireturn, 1)) : Sn x nL (gA g) (0, 0) (ζM x g inI) (gW g h) pc lv [.int v] (some (v, h)) := by
  intro r hr H locs ls hW hS hl
  cases hr
  exact W.iret (Qc := QcM g (inI v) h) G.1 G.2.1 hrt (fun t ht _ => ⟨rfl, by rw [ht]; exact hW, hS.F ht⟩) hS.2.2 hd G.2.2.2.2.2
theorem s_zret (G : Gd x cc nL own) (hrt : Rt x (some .boolean)) {v : Int32} (hv : v = 0 ∨ v = 1) (hd : decode cc pc = .ok (.ireturn, 1)) : Sn x nL (gA g) (0, 0) (ζM x g inI) (gW g h) pc lv [.int v] (some (v, h)) := by
  intro r hr H locs ls hW hS hl
  cases hr
  exact W.zret (Qc := QcM g (inI v) h) G.1 G.2.1 hrt (nar_b hv).1 (fun t ht _ => ⟨rfl, by rw [ht]; exact hW, hS.F ht⟩) hS.2.2 hd G.2.2.2.2.2
theorem s_nret (G : Gd x cc nL own) {ty : FieldType} (hrt : Rt x (some ty)) {v : Int32} (hv : narrow ty (.int v) = .int v) (hd : decode cc pc = .ok (.ireturn, 1)) : Sn x nL (gA g) (0, 0) (ζM x g inI) (gW g h) pc lv [.int v] (some (v, h)) := by
  intro r hr H locs ls hW hS hl
  cases hr
  exact W.zret (Qc := QcM g (inI v) h) G.1 G.2.1 hrt hv (fun t ht _ => ⟨rfl, by rw [ht]; exact hW, hS.F ht⟩) hS.2.2 hd G.2.2.2.2.2
theorem s_lret (G : Gd x cc nL own) (hrt : Rt x (some .long)) {v : Int64} (hd : decode cc pc = .ok (.lreturn, 1)) : Sn x nL (gA g) (0, 0) (ζM x g inL) (gW g h) pc lv [.long v] (some (v, h)) := by
  intro r hr H locs ls hW hS hl
  cases hr
  exact W.lret (Qc := QcM g (inL v) h) G.1 G.2.1 hrt (fun t ht _ => ⟨rfl, by rw [ht]; exact hW, hS.F ht⟩) hS.2.2 hd G.2.2.2.2.2
theorem s_vret (G : Gd x cc nL own) (hrt : Rt x none) (hd : decode cc pc = .ok (.return_, 1)) : Sn x nL (gA g) (0, 0) (ζM x g inV) (gW g h) pc lv [] (some ((), h)) := by
  intro r hr H locs ls hW hS hl
  cases hr
  exact W.vret (Qc := QcM g (inV ()) h) G.1 G.2.1 hrt (fun t ht _ => ⟨rfl, by rw [ht]; exact hW, hS.F ht⟩) hS.2.2 hd G.2.2.2.2.2
theorem s_aret (G : Gd x cc nL own) {C : String} (hrt : Rt x (some (.object C))) {v : Nat} (hd : decode cc pc = .ok (.areturn, 1)) : Sn x nL (gA g) (0, 0) (ζM x g (inR (gB g))) (gW g h) pc lv [rv (gB g) v] (some (v, h)) := by
  intro r hr H locs ls hW hS hl
  cases hr
  refine W.aret (Qc := QcM g (inR (gB g) v) h) G.1 G.2.1 hrt (Or.inl ⟨C, rfl⟩) ?_ (fun t ht _ => ⟨rfl, by rw [ht]; exact hW, hS.F ht⟩) hS.2.2 hd G.2.2.2.2.2
  by_cases h0 : v = 0
  · exact Or.inl (by rw [h0]; rfl)
  · exact Or.inr ⟨_, rv_n _ h0⟩
theorem s_kret (G : Gd x cc nL own) {C : String} (hrt : Rt x (some (.object C))) {v : Nat} (hd : decode cc pc = .ok (.areturn, 1)) : Sn x nL (gA g) (0, 0) (ζM x g (inS (gK g))) (gW g h) pc lv [.ref (gK g v)] (some (v, h)) := by
  intro r hr H locs ls hW hS hl
  cases hr
  exact W.aret (Qc := QcM g (inS (gK g) v) h) G.1 G.2.1 hrt (Or.inl ⟨C, rfl⟩) (Or.inr ⟨_, rfl⟩) (fun t ht _ => ⟨rfl, by rw [ht]; exact hW, hS.F ht⟩) hS.2.2 hd G.2.2.2.2.2
/-! the library's own -/
theorem s_mmin (G : Gd x cc nL own) {A : Nat → Prop} {Wd : Heap → Prop} {d idx : Nat} (hR : Rm x d) (h1 : 1 ≤ d) {a b : Int32} (hd : decode cc pc = .ok (.invokestatic idx, 3)) (w1 : Cond.methodLink own idx Lib.Math.min.name ∈ GW) (w2 : Cond.static Lib.Math.min.name ∈ GW) (w3 : Cond.initialized "java/lang/Math" ∈ GW) (w4 : Cond.code Lib.Math.min.name Lib.Math.min.code 2 (some .int) ∈ GW) (hst : (st.map fun v => v.category).sum ≤ 8)
    (kk : Sn x nL A (0, 0) ζ Wd (pc + 3) lv (.int (if b < a then b else a) :: st) E) : Sn x nL A (0, 0) ζ Wd pc lv (.int b :: .int a :: st) E := by
  intro r hr H locs ls hW hS hl
  have hts := G.2.2.2.2.1
  exact va_mmin G.1 G.2.1 (G.2.2.1.trans hl.1.symm) G.2.2.2.1 (hts _ w1) (hts _ w2) (hts _ w3) (hts _ w4) (Nat.le_trans h1 hR.1) (by have := hR.2; omega) (Nat.zero_le _) (Nat.zero_le _) hd (kk r hr H locs ls hW hS hl)
theorem s_mminL (G : Gd x cc nL own) {A : Nat → Prop} {Wd : Heap → Prop} {d idx : Nat} (hR : Rm x d) (h1 : 1 ≤ d) {a b : Int64} (hd : decode cc pc = .ok (.invokestatic idx, 3)) (w1 : Cond.methodLink own idx Lib.MathLoose.min_long.x ∈ GW) (w2 : Cond.static Lib.MathLoose.min_long.x ∈ GW) (w3 : Cond.initialized "java/lang/Math" ∈ GW) (w4 : Cond.code Lib.MathLoose.min_long.x Lib.MathLoose.min_long.code 4 (some .long) ∈ GW) (hst : (st.map fun v => v.category).sum ≤ 8)
    (kk : Sn x nL A (0, 0) ζ Wd (pc + 3) lv (.long (if b < a then b else a) :: st) E) : Sn x nL A (0, 0) ζ Wd pc lv (.long b :: .long a :: st) E := by
  intro r hr H locs ls hW hS hl
  have hts := G.2.2.2.2.1
  exact va_mmin_long G.1 G.2.1 (G.2.2.1.trans hl.1.symm) G.2.2.2.1 (hts _ w1) (hts _ w2) (hts _ w3) (hts _ w4) (Nat.le_trans h1 hR.1) (by have := hR.2; omega) (Nat.zero_le _) (Nat.zero_le _) hd (kk r hr H locs ls hW hS hl)
theorem s_mmaxL (G : Gd x cc nL own) {A : Nat → Prop} {Wd : Heap → Prop} {d idx : Nat} (hR : Rm x d) (h1 : 1 ≤ d) {a b : Int64} (hd : decode cc pc = .ok (.invokestatic idx, 3)) (w1 : Cond.methodLink own idx Lib.MathLoose.max_long.x ∈ GW) (w2 : Cond.static Lib.MathLoose.max_long.x ∈ GW) (w3 : Cond.initialized "java/lang/Math" ∈ GW) (w4 : Cond.code Lib.MathLoose.max_long.x Lib.MathLoose.max_long.code 4 (some .long) ∈ GW) (hst : (st.map fun v => v.category).sum ≤ 8)
    (kk : Sn x nL A (0, 0) ζ Wd (pc + 3) lv (.long (if b < a then a else b) :: st) E) : Sn x nL A (0, 0) ζ Wd pc lv (.long b :: .long a :: st) E := by
  intro r hr H locs ls hW hS hl
  have hts := G.2.2.2.2.1
  exact va_mmax_long G.1 G.2.1 (G.2.2.1.trans hl.1.symm) G.2.2.2.1 (hts _ w1) (hts _ w2) (hts _ w3) (hts _ w4) (Nat.le_trans h1 hR.1) (by have := hR.2; omega) (Nat.zero_le _) (Nat.zero_le _) hd (kk r hr H locs ls hW hS hl)
theorem s_mabsL (G : Gd x cc nL own) {A : Nat → Prop} {Wd : Heap → Prop} {d idx : Nat} (hR : Rm x d) (h1 : 1 ≤ d) {a : Int64} (hd : decode cc pc = .ok (.invokestatic idx, 3)) (w1 : Cond.methodLink own idx Lib.MathLoose.abs_long.x ∈ GW) (w2 : Cond.static Lib.MathLoose.abs_long.x ∈ GW) (w3 : Cond.initialized "java/lang/Math" ∈ GW) (w4 : Cond.code Lib.MathLoose.abs_long.x Lib.MathLoose.abs_long.code 2 (some .long) ∈ GW) (hst : (st.map fun v => v.category).sum ≤ 8)
    (kk : Sn x nL A (0, 0) ζ Wd (pc + 3) lv (.long (if 0 < a then a else -a) :: st) E) : Sn x nL A (0, 0) ζ Wd pc lv (.long a :: st) E := by
  intro r hr H locs ls hW hS hl
  have hts := G.2.2.2.2.1
  exact va_mabs_long G.1 G.2.1 (G.2.2.1.trans hl.1.symm) G.2.2.2.1 (hts _ w1) (hts _ w2) (hts _ w3) (hts _ w4) (Nat.le_trans h1 hR.1) (by have := hR.2; omega) (Nat.zero_le _) (Nat.zero_le _) hd (kk r hr H locs ls hW hS hl)
def cpI (h : Hp) (a0 sp a1 dp n : Nat) : Hp := (fun b j => if b = a1 then va_cpy (h.1 a0) (h.1 a1) sp dp n j else h.1 b j, h.2)
def cpL (h : Hp) (a0 sp a1 dp n : Nat) : Hp := (h.1, fun b j => if b = a1 then va_cpy (h.2.1 a0) (h.2.1 a1) sp dp n j else h.2.1 b j, h.2.2)
def cpk (sp dp n : Int32) (n0 n1 : Nat) : Bool := decide (¬ sp < 0) && decide (¬ dp < 0) && decide (¬ n < 0) && decide (sp.toNatClampNeg + n.toNatClampNeg ≤ n0) && decide (dp.toNatClampNeg + n.toNatClampNeg ≤ n1)
theorem cpk_of {sp dp n : Int32} {n0 n1 : Nat} (h : cpk sp dp n n0 n1 = true) : (¬ sp < 0) ∧ (¬ dp < 0) ∧ (¬ n < 0) ∧ sp.toNatClampNeg + n.toNatClampNeg ≤ n0 ∧ dp.toNatClampNeg + n.toNatClampNeg ≤ n1 := by
  simp only [cpk, Bool.and_eq_true, decide_eq_true_eq] at h
  exact ⟨h.1.1.1.1, h.1.1.1.2, h.1.1.2, h.1.2, h.2⟩
theorem ent_cpI {a0 sp a1 dp n : Nat} : ∀ b, b ≠ a1 → ent g (cpI h a0 sp a1 dp n) b = ent g h b := by
  intro b hb
  have e1 : gi (cpI h a0 sp a1 dp n) b = gi h b := by funext j; simp [gi, cpI, hb]
  have e2 : ∀ c, fv (gB g) c (cpI h a0 sp a1 dp n) b = fv (gB g) c h b := by
    intro c; funext j
    show (match fty (cY c j) with | 0 => Value.int (gi (cpI h a0 sp a1 dp n) b j) | 1 => .long (gl h b j) | _ => rv (gB g) (gr h b j)) = _
    rw [e1]; rfl
  unfold ent
  rw [e1, e2]
  rfl
theorem ent_cpL {a0 sp a1 dp n : Nat} : ∀ b, b ≠ a1 → ent g (cpL h a0 sp a1 dp n) b = ent g h b := by
  intro b hb
  have e1 : gl (cpL h a0 sp a1 dp n) b = gl h b := by funext j; simp [gl, cpL, hb]
  have e2 : ∀ c, fv (gB g) c (cpL h a0 sp a1 dp n) b = fv (gB g) c h b := by
    intro c; funext j
    show (match fty (cY c j) with | 0 => Value.int (gi h b j) | 1 => .long (gl (cpL h a0 sp a1 dp n) b j) | _ => rv (gB g) (gr h b j)) = _
    rw [e1]; rfl
  unfold ent
  rw [e1, e2]
  rfl
theorem s_copyI (G : Gd x cc nL own) (Q : Ge x g) {d idx a0 a1 n0 n1 : Nat} {sp dp n : Int32} {K : Hp → Option ρ} (hR : Rm x d) (hd1 : 1 ≤ d) (hd : decode cc pc = .ok (.invokestatic idx, 3)) (w1 : Cond.methodLink own idx arraycopyName ∈ GW) (w2 : Cond.native arraycopyName ∈ GW) (w3 : Cond.static arraycopyName ∈ GW) (w4 : Cond.initialized "java/lang/System" ∈ GW) (hst : (st.map fun v => v.category).sum ≤ 8)
    (hL0 : gL g a0 = (20, n0)) (hL1 : gL g a1 = (20, n1)) (hb1 : cpk sp dp n n0 n1 = true)
    (kk : ∀ h', Sn x nL (gA g) (0, 0) ζ (gW g h') (pc + 3) lv st (K h')) : Sn x nL (gA g) (0, 0) ζ (gW g h) pc lv (.int n :: .int dp :: .ref (gB g + a1) :: .int sp :: .ref (gB g + a0) :: st) (hb (cpI h a0 sp.toNatClampNeg a1 dp.toNatClampNeg n.toNatClampNeg) K) := by
  intro r hr H locs ls hW hS hl
  have hts := G.2.2.2.2.1
  obtain ⟨hst', hP⟩ := hW
  obtain ⟨b1, b2, b3, b4, b5⟩ := cpk_of hb1
  obtain ⟨q1, q2⟩ := Q.2 a0 (by rw [hL0]; exact Nat.succ_ne_zero _)
  obtain ⟨q3, q4⟩ := Q.2 a1 (by rw [hL1]; exact Nat.succ_ne_zero _)
  refine va_copyi G.1 G.2.1 (G.2.2.1.trans hl.1.symm) G.2.2.2.1 (hts _ w1) (hts _ w2) (hts _ w3) (hts _ w4) Q.1.1 hP (wl_D (Nat.le_refl _)) hS (a0 - 1) (a1 - 1) 0 0 (by rw [wl_get q1 q2, ent_int hL0]) (by rw [wl_get q3 q4, ent_int hL1]) (tys_at (by omega)) (tys_at (by omega)) rfl b1 b2 b3 b4 b5 (fun _ _ => rfl) (Nat.le_trans hd1 hR.1) ?_ hd (fun H1 locs1 hP1 hD1 hS1 => ?_)
  · have e : nativeFrameWords "java/lang/System" "arraycopy" 5 ≤ 40 := by decide +kernel
    have := hR.2
    omega
  · rw [wl_set q3 q4 (h' := cpI h a0 sp.toNatClampNeg a1 dp.toNatClampNeg n.toNatClampNeg) (by rw [ent_int hL1]; rw [show gi (cpI h a0 sp.toNatClampNeg a1 dp.toNatClampNeg n.toNatClampNeg) a1 = va_cpy (gi h a0) (gi h a1) sp.toNatClampNeg dp.toNatClampNeg n.toNatClampNeg by funext j; simp only [gi, cpI, if_true]; rfl]) ent_cpI] at hP1
    exact kk _ r hr H1 locs1 ls ⟨hst', hP1⟩ hS1 hl
theorem s_copyL (G : Gd x cc nL own) (Q : Ge x g) {d idx a0 a1 n0 n1 : Nat} {sp dp n : Int32} {K : Hp → Option ρ} (hR : Rm x d) (hd1 : 1 ≤ d) (hd : decode cc pc = .ok (.invokestatic idx, 3)) (w1 : Cond.methodLink own idx arraycopyName ∈ GW) (w2 : Cond.native arraycopyName ∈ GW) (w3 : Cond.static arraycopyName ∈ GW) (w4 : Cond.initialized "java/lang/System" ∈ GW) (hst : (st.map fun v => v.category).sum ≤ 8)
    (hL0 : gL g a0 = (21, n0)) (hL1 : gL g a1 = (21, n1)) (hb1 : cpk sp dp n n0 n1 = true)
    (kk : ∀ h', Sn x nL (gA g) (0, 0) ζ (gW g h') (pc + 3) lv st (K h')) : Sn x nL (gA g) (0, 0) ζ (gW g h) pc lv (.int n :: .int dp :: .ref (gB g + a1) :: .int sp :: .ref (gB g + a0) :: st) (hb (cpL h a0 sp.toNatClampNeg a1 dp.toNatClampNeg n.toNatClampNeg) K) := by
  intro r hr H locs ls hW hS hl
  have hts := G.2.2.2.2.1
  obtain ⟨hst', hP⟩ := hW
  obtain ⟨b1, b2, b3, b4, b5⟩ := cpk_of hb1
  obtain ⟨q1, q2⟩ := Q.2 a0 (by rw [hL0]; exact Nat.succ_ne_zero _)
  obtain ⟨q3, q4⟩ := Q.2 a1 (by rw [hL1]; exact Nat.succ_ne_zero _)
  refine va_copyl G.1 G.2.1 (G.2.2.1.trans hl.1.symm) G.2.2.2.1 (hts _ w1) (hts _ w2) (hts _ w3) (hts _ w4) Q.1.1 hP (wl_D (Nat.le_refl _)) hS (a0 - 1) (a1 - 1) 1 1 (by rw [wl_get q1 q2, ent_long hL0]) (by rw [wl_get q3 q4, ent_long hL1]) (tys_at (by omega)) (tys_at (by omega)) rfl b1 b2 b3 b4 b5 (fun _ _ => rfl) (Nat.le_trans hd1 hR.1) ?_ hd (fun H1 locs1 hP1 hD1 hS1 => ?_)
  · have e : nativeFrameWords "java/lang/System" "arraycopy" 5 ≤ 40 := by decide +kernel
    have := hR.2
    omega
  · rw [wl_set q3 q4 (h' := cpL h a0 sp.toNatClampNeg a1 dp.toNatClampNeg n.toNatClampNeg) (by rw [ent_long hL1]; rw [show gl (cpL h a0 sp.toNatClampNeg a1 dp.toNatClampNeg n.toNatClampNeg) a1 = va_cpy (gl h a0) (gl h a1) sp.toNatClampNeg dp.toNatClampNeg n.toNatClampNeg by funext j; simp only [gl, cpL, if_true]; rfl]) ent_cpL] at hP1
    exact kk _ r hr H1 locs1 ls ⟨hst', hP1⟩ hS1 hl
/-! static arrays, String constants -/
theorem s_gsB (G : Gd x cc nL own) (Q : Ge x g) {Wd : Heap → Prop} {idx : Nat} (hd : decode cc pc = .ok (.getstatic idx, 3)) (w1 : Cond.fieldLink own idx RX1 "BODIES" "[I" ∈ GW) (kk : Sn x nL (gA g) cs ζ Wd (pc + 3) lv (.ref (gTb g) :: st) E) : Sn x nL (gA g) cs ζ Wd pc lv st E :=
  fun r hr H locs ls hW hS hl => va_gets G.1 G.2.1 Q.1.2.2.2.2.1 hS G.2.2.2.1 (G.2.2.2.2.1 _ w1) (fun _ h => h) hd (kk r hr H locs ls hW hS hl)
theorem s_gsA (G : Gd x cc nL own) (Q : Ge x g) {Wd : Heap → Prop} {idx : Nat} (hd : decode cc pc = .ok (.getstatic idx, 3)) (w1 : Cond.fieldLink own idx RX8 "ABOVE" "[I" ∈ GW) (kk : Sn x nL (gA g) cs ζ Wd (pc + 3) lv (.ref (gTa g) :: st) E) : Sn x nL (gA g) cs ζ Wd pc lv st E :=
  fun r hr H locs ls hW hS hl => va_gets G.1 G.2.1 Q.1.2.2.2.2.2.2.1 hS G.2.2.2.1 (G.2.2.2.2.1 _ w1) (fun _ h => h) hd (kk r hr H locs ls hW hS hl)
theorem s_gsAN (G : Gd x cc nL RX1) (Q : Ge x g) {Wd : Heap → Prop} (hd : decode cc pc = .ok (.getstatic 36, 3)) (kk : Sn x nL (gA g) cs ζ Wd (pc + 3) lv (.ref (gTa g) :: st) E) : Sn x nL (gA g) cs ζ Wd pc lv st E :=
  fun r hr H locs ls hW hS hl => va_getsN G.1 G.2.1 Q.1.2.2.2.2.2.2.1 hS G.2.2.2.1 (va_Nw.use rfl Q.1.2.2.2.2.2.2.2.2.2.1) (fun _ h => h) hd (kk r hr H locs ls hW hS hl)
theorem s_gsC (G : Gd x cc nL own) (Q : Ge x g) {Wd : Heap → Prop} {idx : Nat} (hd : decode cc pc = .ok (.getstatic idx, 3)) (w1 : Cond.fieldLink own idx "java/lang/String" "COMPACT_STRINGS" "Z" ∈ GW) (kk : Sn x nL (gA g) cs ζ Wd (pc + 3) lv (.int 1 :: st) E) : Sn x nL (gA g) cs ζ Wd pc lv st E :=
  fun r hr H locs ls hW hS hl => va_gets G.1 G.2.1 Q.1.2.2.2.1 hS G.2.2.2.1 (G.2.2.2.2.1 _ w1) (fun _ h => h) hd (kk r hr H locs ls hW hS hl)
theorem s_gsF (G : Gd x cc nL own) (Q : Ge x g) {Wd : Heap → Prop} {idx : Nat} (hd : decode cc pc = .ok (.getstatic idx, 3)) (w1 : Cond.fieldLink own idx "jdk/internal/util/Preconditions" "SIOOBE_FORMATTER" "Ljava/util/function/BiFunction;" ∈ GW) (kk : Sn x nL (gA g) cs ζ Wd (pc + 3) lv (va_rf (gTf g) :: st) E) : Sn x nL (gA g) cs ζ Wd pc lv st E :=
  fun r hr H locs ls hW hS hl => va_gets G.1 G.2.1 Q.1.2.2.2.2.2.2.2.2.1 hS G.2.2.2.1 (G.2.2.2.2.1 _ w1) (fun _ h => h) hd (kk r hr H locs ls hW hS hl)
theorem s_tB (G : Gd x cc nL own) (Q : Ge x g) {Wd : Heap → Prop} {i : Int32} (hd : decode cc pc = .ok (.iaload, 1)) (hi : inb i 21 = true) (kk : Sn x nL (gA g) cs ζ Wd (pc + 1) lv (.int (bodT i.toNatClampNeg) :: st) E) : Sn x nL (gA g) cs ζ Wd pc lv (.int i :: .ref (gTb g) :: st) E :=
  fun r hr H locs ls hW hS hl => va_ti G.1 G.2.1 Q.1.2.2.2.2.2.1 hS (inb_vp hi) rfl hd (kk r hr H locs ls hW hS hl)
theorem s_tA (G : Gd x cc nL own) (Q : Ge x g) {Wd : Heap → Prop} {i : Int32} (hd : decode cc pc = .ok (.iaload, 1)) (hi : inb i 7 = true) (kk : Sn x nL (gA g) cs ζ Wd (pc + 1) lv (.int (abvT i.toNatClampNeg) :: st) E) : Sn x nL (gA g) cs ζ Wd pc lv (.int i :: .ref (gTa g) :: st) E :=
  fun r hr H locs ls hW hS hl => va_ti G.1 G.2.1 Q.1.2.2.2.2.2.2.2.1 hS (inb_vp hi) rfl hd (kk r hr H locs ls hW hS hl)
theorem s_ldcK (G : Gd x cc nL RX4) (Q : Ge x g) {A : Nat → Prop} {Wd : Heap → Prop} (i : Nat) (hi : i < 12) {idx : Nat} (hx : sIx i = idx) (hd : decode cc pc = .ok (.ldc idx, 2)) (kk : Sn x nL A cs ζ Wd (pc + 2) lv (.ref (gK g i) :: st) E) : Sn x nL A cs ζ Wd pc lv st E := by
  subst hx
  exact fun r hr H locs ls hW hS hl => va_ldcS G.1 G.2.1 G.2.2.2.1 (Q.1.2.1 i hi) hd (kk r hr H locs ls hW hS hl)
theorem s_kval (G : Gd x cc nL own) (Q : Ge x g) {Wd : Heap → Prop} {i idx : Nat} (hi : i < 12) (hd : decode cc pc = .ok (.getfield idx, 3)) (w1 : Cond.fieldLink own idx "java/lang/String" "value" "[B" ∈ GW) (kk : Sn x nL (gA g) cs ζ Wd (pc + 3) lv (.ref (gV g i) :: st) E) : Sn x nL (gA g) cs ζ Wd pc lv (.ref (gK g i) :: st) E :=
  fun r hr H locs ls hW hS hl => vk_getf G.1 G.2.1 (Q.1.2.2.1.1 i hi).2.2.1 hS G.2.2.2.1 (G.2.2.2.2.1 _ w1) (fun _ h => h) hd (kk r hr H locs ls hW hS hl)
theorem s_kcod (G : Gd x cc nL own) (Q : Ge x g) {Wd : Heap → Prop} {i idx : Nat} (hi : i < 12) (hd : decode cc pc = .ok (.getfield idx, 3)) (w1 : Cond.fieldLink own idx "java/lang/String" "coder" "B" ∈ GW) (kk : Sn x nL (gA g) cs ζ Wd (pc + 3) lv (.int 0 :: st) E) : Sn x nL (gA g) cs ζ Wd pc lv (.ref (gK g i) :: st) E :=
  fun r hr H locs ls hW hS hl => vk_getf G.1 G.2.1 (Q.1.2.2.1.1 i hi).2.1 hS G.2.2.2.1 (G.2.2.2.2.1 _ w1) (fun _ h => h) hd (kk r hr H locs ls hW hS hl)
theorem s_klen (G : Gd x cc nL own) (Q : Ge x g) {Wd : Heap → Prop} {i : Nat} (hi : i < 12) (hd : decode cc pc = .ok (.arraylength, 1)) (kk : Sn x nL (gA g) cs ζ Wd (pc + 1) lv (.int (Int32.ofNat (sLen.getD i 0)) :: st) E) : Sn x nL (gA g) cs ζ Wd pc lv (.ref (gV g i) :: st) E :=
  fun r hr H locs ls hW hS hl => va_tlen G.1 G.2.1 (Q.1.2.2.1.1 i hi).2.2.2 hS rfl hd (kk r hr H locs ls hW hS hl)
theorem s_kbal (G : Gd x cc nL own) (Q : Ge x g) {Wd : Heap → Prop} {i : Nat} {j : Int32} (hi : i < 12) (hd : decode cc pc = .ok (.baload, 1)) (hj : inb j (sLen.getD i 0) = true) (kk : Sn x nL (gA g) cs ζ Wd (pc + 1) lv (.int ((sByt.getD i []).getD j.toNatClampNeg 0) :: st) E) : Sn x nL (gA g) cs ζ Wd pc lv (.int j :: .ref (gV g i) :: st) E :=
  fun r hr H locs ls hW hS hl => va_tb G.1 G.2.1 (Q.1.2.2.1.1 i hi).2.2.2 hS (inb_vp hj) rfl hd (kk r hr H locs ls hW hS hl)
/-! switches -/
theorem s_tsw (G : Gd x cc nL own) {A : Nat → Prop} {Wd : Heap → Prop} {dflt lo hi : Int} {offs : Array Int} {len : Nat} {v : Int32} (hd : decode cc pc = .ok (.tableswitch dflt lo hi offs, len)) {E1 E2 : Option ρ} {off : Int} (w : Int32) (hw : lo ≤ w.toInt ∧ w.toInt ≤ hi ∧ offs[(w.toInt - lo).toNat]? = some off) {tgt : Nat} (ht : (pc : Int) + off = (tgt : Int))
    (k1 : v = w → Sn x nL A cs ζ Wd tgt lv st E1) (k2 : ¬ v = w → Sn x nL A cs ζ Wd pc lv (.int v :: st) E2) : Sn x nL A cs ζ Wd pc lv (.int v :: st) (if v = w then E1 else E2) := by
  refine s_if (fun hv => ?_) k2
  intro r hr H locs ls hW hS hl
  subst hv
  exact lv_tableIn G.1 G.2.1 hd (by omega) (by omega) hw.2.2 ht (k1 rfl r hr H locs ls hW hS hl)
theorem s_tswD (G : Gd x cc nL own) {A : Nat → Prop} {Wd : Heap → Prop} {dflt lo hi : Int} {offs : Array Int} {len : Nat} {v : Int32} (hd : decode cc pc = .ok (.tableswitch dflt lo hi offs, len)) {tgt : Nat} (ht : (pc : Int) + dflt = (tgt : Int)) (h : v.toInt < lo ∨ hi < v.toInt)
    (kk : Sn x nL A cs ζ Wd tgt lv st E) : Sn x nL A cs ζ Wd pc lv (.int v :: st) E :=
  fun r hr H locs ls hW hS hl => lv_tableOut G.1 G.2.1 hd h ht (kk r hr H locs ls hW hS hl)
theorem s_tswC (G : Gd x cc nL own) {A : Nat → Prop} {Wd : Heap → Prop} {dflt lo hi : Int} {offs : Array Int} {len : Nat} {v : Int32} (hd : decode cc pc = .ok (.tableswitch dflt lo hi offs, len)) {off : Int} (hw : lo ≤ v.toInt ∧ v.toInt ≤ hi ∧ offs[(v.toInt - lo).toNat]? = some off) {tgt : Nat} (ht : (pc : Int) + off = (tgt : Int))
    (kk : Sn x nL A cs ζ Wd tgt lv st E) : Sn x nL A cs ζ Wd pc lv (.int v :: st) E :=
  fun r hr H locs ls hW hS hl => lv_tableIn G.1 G.2.1 hd (by omega) (by omega) hw.2.2 ht (kk r hr H locs ls hW hS hl)
theorem s_lsw (G : Gd x cc nL own) {A : Nat → Prop} {Wd : Heap → Prop} {dflt : Int} {ps : Array (Int × Int)} {len : Nat} {v : Int32} (hd : decode cc pc = .ok (.lookupswitch dflt ps, len)) (hp : (ps.toList.zip (ps.toList.drop 1)).all (fun (a, next) => a.1 < next.1) = true) {off : Int} (ho : Op.lookupswitch.offset ps.toList dflt v.toInt = off) {tgt : Nat} (ht : (pc : Int) + off = (tgt : Int))
    (kk : Sn x nL A cs ζ Wd tgt lv st E) : Sn x nL A cs ζ Wd pc lv (.int v :: st) E :=
  fun r hr H locs ls hW hS hl => lv_lookup G.1 G.2.1 hd hp ho ht (kk r hr H locs ls hW hS hl)
end SC
/-! a method, out of its walk -/
set_option maxHeartbeats 400000 in
theorem met_of {α : Type} {l : Launch} {g : GT} {y : MethodName} {cc : ByteArray} {maxL d : Nat} {ret : Option FieldType} {av : List Value} {h : Hp} {inj : α → Option Value} {E : Option (α × Hp)} (hy : plainName y.cls = true) (hk : Lok g) (hav : (lg_sl av).length ≤ maxL)
    (body : ∀ x : CT, xl x = l → Gd x cc maxL y.cls → Ge x g → Rm x d → Rt x ret → Sn x maxL (gA g) (0, 0) (ζM x g inj) (gW g h) 0 (lv_args 0 av) [] E) :
    ∀ v h', E = some (v, h') → MetM l g y cc maxL ret d av h (inj v) h' := by
  intro v h' hE
  refine Met.ofW (cc := cc) (maxL := maxL) (ret := ret) hy rfl ?_
  intro p e s m args below meth c s₁ B hml hv
  obtain ⟨rfl, hW, hE2⟩ := hv
  have hts := atoms_spec (ws := .code y cc maxL ret :: GW) B.pre
  have hl := lv_entry av (n := maxL) hav
  rw [lg_entry_eq]
  generalize (lg_sl av ++ List.replicate (maxL - (lg_sl av).length) Slot.unset).toArray = ls at hl ⊢
  exact body (p, l, e, (headSpec (.code y cc maxL ret :: GW) (rmd d)).room, s, m, av.toArray, below, meth, c) rfl ⟨B.exec, B.bytes, hml, findClass_of_methodNamed B.named, fun w hw => hts w (List.mem_cons_of_mem _ hw), B.notSynchronized⟩ ⟨hE2, hk⟩ ⟨Nat.le_refl _, Nat.le_refl _⟩ B.returns _ hE s.heap [] ls hW va_S.rf hl
