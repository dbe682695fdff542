/-! ===== the law's own rows ===== -/
def lA (x : CT) : Nat → Prop := fun q => (xs x).heap.size ≤ q
def WW (w w2 : WT) (hC hM : Hp) (H : Heap) : Prop := gW (GC w) hC H ∧ gW (GM w2) hM H
def Lx (x : CT) (w w2 : WT) (b L : Nat) (xv : Nat → Int32) : Prop :=
  va_X b L xv (xs x) (xs x).heap ∧ b < (xs x).heap.size ∧ EnvG (GC w) (xs x) (xs x).heap ∧ EnvG (GM w2) (xs x) (xs x).heap ∧ gB (GC w) + 1 = (xs x).heap.size ∧ (xR x).cells = 600000 ∧ (xR x).slots = 7302250
def Lz (x : CT) (ζ : Unit → State → Prop) : Prop := ∀ (H : Heap) (ls : Array Slot) (pc : Nat), decode code pc = .ok (.ireturn, 1) → XW x H [] (600000, 7302250) (ζ ()) (F0 (xm x) pc ls [.int 1])
theorem gW.kept {g : GT} {h : Hp} {H H1 : Heap} (hW : gW g h H) (hk : ∀ q, q < H.size → gA g q → H1[q]? = H[q]?) : gW g h H1 :=
  ⟨hW.1, hW.2.kept (fun k y hy => hk y.1 (hW.2 k y hy).lt ((wl_D (Nat.le_refl _)).2 k y hy))⟩
section SLW
variable {x : CT} {ζ : Unit → State → Prop} {pc : Nat} {lv : List (Nat × Value)} {st : List Value} {E : Option Unit} {w w2 : WT} {b L : Nat} {xv : Nat → Int32} {Wd : Heap → Prop} {cs : Nat × Nat}
theorem l_len (G : Gd x code 4 RL) (hL : Lx x w w2 b L xv) (hd : decode code pc = .ok (.arraylength, 1)) (kk : Sn x 4 (lA x) cs ζ Wd (pc + 1) lv (.int (Int32.ofNat L) :: st) E) : Sn x 4 (lA x) cs ζ Wd pc lv (.ref b :: st) E := by
  intro r hr H locs ls hW hS hl
  exact va_slen G.1 G.2.1 hL.1 hL.2.1 (fun q => Nat.not_le.mpr hL.2.1 q) hS hd (kk r hr H locs ls hW hS hl)
theorem l_ld (G : Gd x code 4 RL) (hL : Lx x w w2 b L xv) {i : Int32} (hd : decode code pc = .ok (.iaload, 1)) (hi : inb i L = true) (kk : Sn x 4 (lA x) cs ζ Wd (pc + 1) lv (.int (xv i.toNatClampNeg) :: st) E) : Sn x 4 (lA x) cs ζ Wd pc lv (.int i :: .ref b :: st) E := by
  intro r hr H locs ls hW hS hl
  exact va_sld G.1 G.2.1 hL.1 hL.2.1 (fun q => Nat.not_le.mpr hL.2.1 q) hS (inb_vp hi) hd (kk r hr H locs ls hW hS hl)
theorem l_ret (G : Gd x code 4 RL) (hZ : Lz x ζ) (hd : decode code pc = .ok (.ireturn, 1)) : Sn x 4 (lA x) (220, 5129) ζ Wd pc lv [.int 1] (some ()) := by
  intro r hr H locs ls hW hS hl
  refine W.widen (k := 600000) (n := 7302250) (Nat.le_of_ble_eq_true rfl) (Nat.le_of_ble_eq_true rfl) ?_
  exact va_forget hS.2.2 (hZ H ls pc hd)
theorem l_call {α : Type} {g : GT} {h : Hp} {Pd : Heap → Prop} (hPd : ∀ H H1 : Heap, Pd H → (∀ q, q < H.size → ¬ gA g q → H1[q]? = H[q]?) → Pd H1) (hgA : ∀ q, gA g q → lA x q) (hLok : Lok g) (hE : EnvG g (xs x) (xs x).heap) (G : Gd x code 4 RL) {inj : α → Option Value} {F : Option (α × Hp)} {K : α → Hp → Option Unit} {a c idx n d d' maxL : Nat} {As stk : List Value} {y : MethodName} {cc' : ByteArray} {ret : Option FieldType}
    (hd : decode code pc = .ok (.invokevirtual idx, 3)) (hR : Rm x d) (hdd : d' + 1 ≤ d) (hv : VV RL idx y cc' maxL ret n) (hc : c < 10) (hy : y.cls = cN c) (hL : gL g a = (c + 1, 0)) (hn : As.length = n) (hst : (st.map fun v => v.category).sum ≤ 8) (hk : stk = As.reverse ++ .ref (gB g + a) :: st)
    (hcs : cs.1 ≤ (xR x).cells ∧ cs.2 ≤ (xR x).slots)
    (hm : ∀ v h1, F = some (v, h1) → MetM (xl x) g y cc' maxL ret d' (.ref (gB g + a) :: As) h (inj v) h1)
    (kk : ∀ v h1, Sn x 4 (lA x) cs ζ (fun H => gW g h1 H ∧ Pd H) (pc + 3) lv ((inj v).toList ++ st) (K v h1)) : Sn x 4 (lA x) cs ζ (fun H => gW g h H ∧ Pd H) pc lv stk (cb F K) := by
  intro r hr H locs ls hW hS hl
  cases hF : F with
  | none => rw [hF] at hr; cases hr
  | some q =>
    obtain ⟨v, h1⟩ := q
    rw [hF] at hr
    have hM := hm v h1 hF
    obtain ⟨ha1, ha2⟩ := hLok a (by rw [hL]; exact Nat.succ_ne_zero _)
    have hq : (wl g h (gN g))[a - 1]? = some (gB g + a, .inr (c, (List.range (cK c)).map (fv (gB g) c h a))) := by rw [wl_get ha1 ha2, ent_obj hL hc]
    obtain ⟨cellB, b1, b2, b3⟩ := va_recv (q := (cN c, cT c, cK c)) hE.1 hW.1.2 (vw_at hc) hq
    have cw : CallW (xR x) (xs x) (xa x) RL (cN c) idx y cc' maxL ret (.code y cc' maxL ret :: GW) (rmd d') 0 0 n := ⟨c_base G (hR.le hdd) hv.1, G.2.2.2.2.1 _ hv.2.1, by rw [← hy]; exact G.2.2.2.2.1 _ hv.2.2⟩
    have env : ∀ U : State, U.heap = H → (xs x).WarmedH U.vm → EnvG g U U.heap := by
      intro U hU hWU
      rw [hU]
      exact hE.go hWU (fun q h1 _ => hS.2.1 q h1 (Nat.not_le.mpr h1))
    have run := va_runV (As := As) (rest := st) (g := F0 (xm x) pc ls stk) (cells := cs.1) (slots := cs.2) (locs := locs) (H := H) (below := xb x) (meth := xt x) (e := xe x) ⟨G.1, G.2.1, G.2.2.1, G.2.2.2.1, G.2.2.2.2.1⟩ hM cw ⟨blind_M, ⟨cellB, b1, b2, b3⟩, fun U hU hWU => ⟨rfl, by rw [hU]; exact hW.1, env U hU hWU⟩⟩ rfl hn hl.1 hk (lv_room hst) hd hcs
    intro T hT X
    obtain ⟨v', st₀, t, T', L', h0, X', hL', e1, e2, ⟨hv', hw, hz, hk'⟩, stp⟩ := run T hT X
    obtain rfl : v' = inj v := Outcome.returned.inj hv'
    rw [h0] at hz hk'
    obtain ⟨t2, a1, b1⟩ := kk v h1 r hr T'.heap (locs ++ L') ls ⟨by rw [e1]; exact hw, by rw [e1]; exact hPd H t.heap hW.2 hk'⟩ ⟨Nat.le_trans hS.1 (by rw [e1]; exact hz), fun q h1 h2 => by rw [e1, hk' q (Nat.lt_of_lt_of_le h1 hS.1) (fun z => h2 (hgA q z))]; exact hS.2.1 q h1 h2, fun q hq => by
        rcases List.mem_append.mp hq with h | h
        · exact hS.2.2 q h
        · exact hgA _ (hL' q h)⟩ hl T' rfl X'
    exact ⟨t2, stp t2 a1, b1⟩
theorem l_cells (hL : Lx x w w2 b L xv) : ((220, 5129) : Nat × Nat).1 ≤ (xR x).cells ∧ ((220, 5129) : Nat × Nat).2 ≤ (xR x).slots := by
  rw [hL.2.2.2.2.2.1, hL.2.2.2.2.2.2]; exact ⟨Nat.le_of_ble_eq_true rfl, Nat.le_of_ble_eq_true rfl⟩
end SLW
section SLC2
variable {x : CT} {ζ : Unit → State → Prop} {pc : Nat} {lv : List (Nat × Value)} {st : List Value} {b L : Nat} {xv : Nat → Int32} {hC hM : Hp}
theorem gA_C {w : WT} {q : Nat} : gA (GC w) q ↔ gB (GC w) < q ∧ q ≤ gB (GC w) + 191 := Iff.rfl
theorem gA_M {w : WT} {q : Nat} : gA (GM w) q ↔ gB (GM w) < q ∧ q ≤ gB (GM w) + 29 := Iff.rfl
theorem l_callC {α : Type} (w w2 : WT) (hw : gB (GM w2) = gB (GC w) + 191) (G : Gd x code 4 RL) (hL : Lx x w w2 b L xv) {inj : α → Option Value} {F : Option (α × Hp)} {K : α → Hp → Option Unit} {idx n d d' maxL : Nat} {As stk : List Value} {y : MethodName} {cc' : ByteArray} {ret : Option FieldType}
    (hR : Rm x d) (hd : decode code pc = .ok (.invokevirtual idx, 3)) (hdd : d' + 1 ≤ d) (hv : VV RL idx y cc' maxL ret n) (hn : As.length = n) (hy : y.cls = RX8) (hst : (st.map fun v => v.category).sum ≤ 8) (hk : stk = As.reverse ++ .ref (gB (GC w) + 1) :: st)
    (hm : ∀ v h1, F = some (v, h1) → MetM (xl x) (GC w) y cc' maxL ret d' (.ref (gB (GC w) + 1) :: As) hC (inj v) h1)
    (kk : ∀ v h1, Sn x 4 (lA x) (220, 5129) ζ (WW w w2 h1 hM) (pc + 3) lv ((inj v).toList ++ st) (K v h1)) : Sn x 4 (lA x) (220, 5129) ζ (WW w w2 hC hM) pc lv stk (cb F K) := by
  refine l_call (g := GC w) (Pd := gW (GM w2) hM) (c := 8) (a := 1) (fun H H1 hP h => hP.kept (fun q h1 h2 => h q h1 (fun h3 => ?_))) (fun q h => ?_) (lokC w) hL.2.2.1 G hd hR hdd hv (by decide) hy kC_1 hn hst hk (l_cells hL) hm kk
  · have h4 := gA_M.mp h2
    have h5 := gA_C.mp h3
    omega
  · have h5 := gA_C.mp h
    have h6 := hL.2.2.2.2.1
    show (xs x).heap.size ≤ q
    omega
theorem l_callM {α : Type} (w w2 : WT) (hw : gB (GM w2) = gB (GC w) + 191) (G : Gd x code 4 RL) (hL : Lx x w w2 b L xv) {inj : α → Option Value} {F : Option (α × Hp)} {K : α → Hp → Option Unit} {idx n d d' maxL : Nat} {As stk : List Value} {y : MethodName} {cc' : ByteArray} {ret : Option FieldType}
    (hR : Rm x d) (hd : decode code pc = .ok (.invokevirtual idx, 3)) (hdd : d' + 1 ≤ d) (hv : VV RL idx y cc' maxL ret n) (hn : As.length = n) (hy : y.cls = RX9) (hst : (st.map fun v => v.category).sum ≤ 8) (hk : stk = As.reverse ++ .ref (gB (GM w2) + 1) :: st)
    (hm : ∀ v h1, F = some (v, h1) → MetM (xl x) (GM w2) y cc' maxL ret d' (.ref (gB (GM w2) + 1) :: As) hM (inj v) h1)
    (kk : ∀ v h1, Sn x 4 (lA x) (220, 5129) ζ (WW w w2 hC h1) (pc + 3) lv ((inj v).toList ++ st) (K v h1)) : Sn x 4 (lA x) (220, 5129) ζ (WW w w2 hC hM) pc lv stk (cb F K) := by
  have sw : ∀ {h1 : Hp} {pc' : Nat} {st' : List Value} {E : Option Unit}, Sn x 4 (lA x) (220, 5129) ζ (WW w w2 hC h1) pc' lv st' E → Sn x 4 (lA x) (220, 5129) ζ (fun H => gW (GM w2) h1 H ∧ gW (GC w) hC H) pc' lv st' E :=
    fun k r hr H locs ls hW hS hl => k r hr H locs ls ⟨hW.2, hW.1⟩ hS hl
  have ws : ∀ {h1 : Hp} {pc' : Nat} {st' : List Value} {E : Option Unit}, Sn x 4 (lA x) (220, 5129) ζ (fun H => gW (GM w2) h1 H ∧ gW (GC w) hC H) pc' lv st' E → Sn x 4 (lA x) (220, 5129) ζ (WW w w2 hC h1) pc' lv st' E :=
    fun k r hr H locs ls hW hS hl => k r hr H locs ls ⟨hW.2, hW.1⟩ hS hl
  refine ws (l_call (g := GM w2) (Pd := gW (GC w) hC) (c := 9) (a := 1) (fun H H1 hP h => hP.kept (fun q h1 h2 => h q h1 (fun h3 => ?_))) (fun q h => ?_) (lokM w2) hL.2.2.2.1 G hd hR hdd hv (by decide) hy kM_1 hn hst hk (l_cells hL) hm (fun v h1 => sw (kk v h1)))
  · have h4 := gA_C.mp h2
    have h5 := gA_M.mp h3
    omega
  · have h5 := gA_M.mp h
    have h6 := hL.2.2.2.2.1
    show (xs x).heap.size ≤ q
    omega
end SLC2
