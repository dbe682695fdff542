/-! ===== the making of a system ===== -/
def zr (h : Hp) (a : Nat) : Hp := (fun b j => if b = a then 0 else h.1 b j, fun b j => if b = a then 0 else h.2.1 b j, fun b j => if b = a then 0 else h.2.2 b j)
def bW (g : GT) (n : Nat) (h : Hp) (H : Heap) : Prop := va_P (gD g) vwCl (wl g h n) H ∧ H.size = gB g + n + 1
def rmb (d mc ms : Nat) : Room := { frames := d, cells := mc, slots := ms, locals := 64 * d }
def PcB (g : GT) (a n : Nat) (h : Hp) : Array Value → State → Prop := fun v U => v = ([Value.ref (gB g + a)] : List Value).toArray ∧ bW g n h U.heap ∧ EnvG g U U.heap
def QcB (g : GT) (n : Nat) (h : Hp) : Array Value → State → Outcome → State → Prop := fun _ st oc t => oc = .returned none ∧ bW g n h t.heap ∧ va_F (gA g) st t
def MetB (l : Launch) (g : GT) (y : MethodName) (cc : ByteArray) (maxL d mc ms a n : Nat) (h : Hp) (n' : Nat) (h' : Hp) : Prop :=
  Met l y (.code y cc maxL none :: GW) (rmb d mc ms) (PcB g a n h) (QcB g n' h') mc ms (gA g)
def ζB (x : CT) (g : GT) (mc ms : Nat) : Nat × Hp → State → Prop := fun r => MQ (xb x) (QcB g r.1 r.2) (xa x) (xs x) mc ms (gA g)
def Rb (x : CT) (mc ms : Nat) : Prop := (xR x).cells = mc ∧ (xR x).slots = ms
def rk (n N c mc z ms : Nat) : Bool := decide (n ≤ N) && decide (c ≤ mc) && decide (z ≤ ms)
theorem rk_of {n N c mc z ms : Nat} (h : rk n N c mc z ms = true) : n ≤ N ∧ c ≤ mc ∧ z ≤ ms := by
  simp only [rk, Bool.and_eq_true, decide_eq_true_eq] at h
  exact ⟨h.1.1, h.1.2, h.2⟩
def lk (q : Nat × Nat) (k len : Nat) (a n : Nat) : Bool := decide (q = (k, len)) && decide (1 ≤ a) && decide (a ≤ n)
theorem lk_of {q : Nat × Nat} {k len a n : Nat} (h : lk q k len a n = true) : q = (k, len) ∧ 1 ≤ a ∧ a ≤ n := by
  simp only [lk, Bool.and_eq_true, decide_eq_true_eq] at h
  exact ⟨h.1.1, h.1.2, h.2⟩
def bb {ρ : Type} (F : Option (Nat × Hp)) (K : Nat → Hp → Option ρ) : Option ρ := match F with | none => none | some q => K q.1 q.2
theorem ent_zr {g : GT} {h : Hp} {a : Nat} : ∀ b, b ≠ a → ent g (zr h a) b = ent g h b := by
  intro b hb
  have e1 : gi (zr h a) b = gi h b := by funext j; simp [gi, zr, hb]
  have e2 : gl (zr h a) b = gl h b := by funext j; simp [gl, zr, hb]
  have e3 : gr (zr h a) b = gr h b := by funext j; simp [gr, zr, hb]
  have e4 : ∀ c, fv (gB g) c (zr h a) b = fv (gB g) c h b := by
    intro c; funext j
    simp only [fv, e1, e2, e3]
  unfold ent
  rw [e1, e2, e3, e4]
theorem dfv : ∀ c, c < 10 → ∀ k, k < cK c → defaultValue (cY c k) = (match fty (cY c k) with | 0 => Value.int 0 | 1 => .long 0 | _ => .null) := by decide +kernel
section SB
variable {ρ : Type} {x : CT} {cc : ByteArray} {nL : Nat} {own : String} {ζ : ρ → State → Prop} {pc : Nat} {lv lv' : List (Nat × Value)} {st : List Value} {E : Option ρ} {g : GT} {h : Hp} {n c z : Nat}
theorem b_push {H H1 : Heap} {e : va_E} {h' : Hp} (hW : bW g n h H) (z1 : H1.size = gB g + n + 1 + 1) (o1 : ∀ q, q < gB g + n + 1 → H1[q]? = H[q]?) (he : e = ent g h' (n + 1)) (ho : ∀ b, b ≠ n + 1 → ent g h' b = ent g h b) (hat : va_at (gD g) vwCl (gB g + (n + 1), e) H1) : bW g (n + 1) h' H1 := by
  obtain ⟨hP, hz⟩ := hW
  refine ⟨?_, by rw [z1]; omega⟩
  rw [← wl_push (q := gB g + (n + 1)) (e := e) rfl he ho]
  have hk : ∀ (k : Nat) (y : Nat × va_E), (wl g h n)[k]? = some y → H1[y.1]? = H[y.1]? := fun k y hy => o1 y.1 (by rw [← hz]; exact (hP k y hy).lt)
  refine (hP.kept hk).app (fun k y hy => ?_)
  have hz' : k < 1 := (List.getElem?_eq_some_iff.mp hy).1
  rw [show k = 0 by omega] at hy
  cases hy
  exact hat
theorem b_S {A : Nat → Prop} {H0 H H1 : Heap} {locs : List Loc} {m : Nat} (hS : va_S A H0 H locs) (hz : H.size = m) (z1 : H1.size = m + 1) (o1 : ∀ q, q < m → H1[q]? = H[q]?) : va_S A H0 H1 locs :=
  ⟨Nat.le_trans hS.1 (by omega), fun q h1 h2 => (o1 q (Nat.lt_of_lt_of_le h1 (by rw [← hz]; exact hS.1))).trans (hS.2.1 q h1 h2), hS.2.2⟩
theorem b_new (G : Gd x cc nL own) (Q : Ge x g) {idx ci mc ms : Nat} (hB : Rb x mc ms) (hd : decode cc pc = .ok (.new idx, 3)) (hc : ci < 10) (w1 : Cond.classLink own idx (cN ci) ∈ GW) (w2 : Cond.instantiable (cN ci) (cK ci) ∈ GW) (w3 : Cond.initialized (cN ci) ∈ GW)
    (hk : rk (n + 1) (gN g) (c + 1) mc (z + cK ci) ms = true) (hL : gL g (n + 1) = (ci + 1, 0))
    (kk : Sn x nL (gA g) (c + 1, z + cK ci) ζ (bW g (n + 1) (zr h (n + 1))) (pc + 3) lv (.ref (gB g + (n + 1)) :: st) E) : Sn x nL (gA g) (c, z) ζ (bW g n h) pc lv st E := by
  intro r hr H locs ls hW hS hl
  have hts := G.2.2.2.2.1
  obtain ⟨k1, k2, k3⟩ := rk_of hk
  have hKn := Q.1.1.1 ci _ (vw_at hc)
  refine W.newcK G.1 G.2.1 G.2.2.2.1 (hts _ w1) (hts _ w2) (hts _ w3) rfl hd (by rw [hB.1]; exact k2) (by rw [hB.2]; exact k3) hKn.2.1 hW.2 (fun H1 kC hkC e1 z1 o1 => ?_)
  have hcell : H1[gB g + (n + 1)]? = some (blank ((gD g).1 ci) kC) := e1
  refine kk r hr H1 locs ls (b_push hW z1 o1 (e := .inr (ci, (List.range (cK ci)).map (fv (gB g) ci (zr h (n + 1)) (n + 1)))) (by rw [ent_obj hL hc]) ent_zr ⟨_, vw_at hc, (u_born (cY ci) hts (cw_in hc) hKn hkC hcell (cY_ok hc)).to (fun k hk => ?_)⟩) (b_S hS hW.2 z1 o1) hl
  show defaultValue (cY ci k) = (List.getD _ k .null)
  rw [List.getD_eq_getElem?_getD, fl_get hk, dfv ci hc k hk]
  simp [fv, gi, gl, gr, zr, rv, ro, va_rf]
  generalize fty (cY ci k) = t
  rcases t with _ | _ | t <;> rfl
theorem b_newa (G : Gd x cc nL own) (Q : Ge x g) {mc ms t len : Nat} {atype : ArrayType} {v : Int32} (hB : Rb x mc ms) (hd : decode cc pc = .ok (.newarray atype, 2)) (w1 : Cond.arrayClass (newarray.typeOf atype) ∈ GW) (ht : t < 3) (hty : newarray.typeOf atype = aty t) (hv : ¬ v < 0) (hv2 : v.toNatClampNeg = len) (hb8 : len * 8 ≤ 536870912)
    (hk : rk (n + 1) (gN g) (c + 1) mc (z + len) ms = true) (hL : gL g (n + 1) = (20 + t, len))
    (kk : Sn x nL (gA g) (c + 1, z + len) ζ (bW g (n + 1) (zr h (n + 1))) (pc + 2) lv (.ref (gB g + (n + 1)) :: st) E) : Sn x nL (gA g) (c, z) ζ (bW g n h) pc lv (.int v :: st) E := by
  intro r hr H locs ls hW hS hl
  have hts := G.2.2.2.2.1
  obtain ⟨k1, k2, k3⟩ := rk_of hk
  have hby : componentBytes (newarray.typeOf atype) ≤ 8 := by rw [hty]; rcases (show t = 0 ∨ t = 1 ∨ t = 2 by omega) with rfl | rfl | rfl <;> decide
  refine va_newaK G.1 G.2.1 (hts _ w1) rfl hd rfl hv hv2 (Nat.le_trans (Nat.mul_le_mul_left len hby) hb8) (by rw [hB.1]; exact k2) (by rw [hB.2]; exact k3) hW.2 (fun H1 cA e1 z1 o1 hAr hNm => ?_)
  have hcA : cA = gcy g t := by
    have h2 := (Q.1.1.2 t _ (tys_at (g := g) (by omega))).2
    rw [hty] at hNm
    rcases (show t = 0 ∨ t = 1 ∨ t = 2 by omega) with rfl | rfl | rfl
    · have h3 : (xs x).vm.findClass ("[" ++ (FieldType.int).toString) = some (gcy g 0) := h2
      exact Option.some.inj (hNm.symm.trans h3)
    · have h3 : (xs x).vm.findClass ("[" ++ (FieldType.long).toString) = some (gcy g 1) := h2
      exact Option.some.inj (hNm.symm.trans h3)
    · have h3 : (xs x).vm.findClass ("[" ++ (FieldType.boolean).toString) = some (gcy g 2) := h2
      exact Option.some.inj (hNm.symm.trans h3)
  subst hcA
  rw [hty] at e1
  refine kk r hr H1 locs ls (b_push (h' := zr h (n + 1)) hW z1 o1 rfl ent_zr ?_) (b_S hS hW.2 z1 o1) hl
  have e1 : H1[gB g + (n + 1)]? = some (arrV (gcy g t) len (fun _ => defaultValue (aty t))) := e1
  rcases (show t = 0 ∨ t = 1 ∨ t = 2 by omega) with rfl | rfl | rfl
  · rw [ent_int hL]
    show H1[gB g + (n + 1)]? = some (vp_cell _ _)
    rw [vp_cell_i, e1]
    simp [gi, zr, aty, defaultValue]
  · rw [ent_long hL]
    show H1[gB g + (n + 1)]? = some (vp_cell _ _)
    rw [vp_cell_l, e1]
    simp [gl, zr, aty, defaultValue]
  · rw [ent_bool hL]
    show H1[gB g + (n + 1)]? = some (vp_cell _ _)
    rw [vp_cell_i, e1]
    simp [gi, zr, aty, defaultValue]
theorem b_newq (G : Gd x cc nL own) (Q : Ge x g) {mc ms j len idx : Nat} {v : Int32} (hB : Rb x mc ms) (hd : decode cc pc = .ok (.anewarray idx, 3)) (hj : j < 5) (w1 : Cond.classLink own idx (cN (acl j)) ∈ GW) (hv : ¬ v < 0) (hv2 : v.toNatClampNeg = len) (hb8 : len * 4 ≤ 536870912)
    (hk : rk (n + 1) (gN g) (c + 1) mc (z + len) ms = true) (hL : gL g (n + 1) = (23 + j, len))
    (kk : Sn x nL (gA g) (c + 1, z + len) ζ (bW g (n + 1) (zr h (n + 1))) (pc + 3) lv (.ref (gB g + (n + 1)) :: st) E) : Sn x nL (gA g) (c, z) ζ (bW g n h) pc lv (.int v :: st) E := by
  subst hv2
  intro r hr H locs ls hW hS hl
  have hts := G.2.2.2.2.1
  obtain ⟨k1, k2, k3⟩ := rk_of hk
  refine W.anew G.1 G.2.1 G.2.2.2.1 (hts _ w1) (va_AO.use (Q.1.2.2.2.2.2.2.2.2.2.2 j hj)) rfl hd rfl hv hb8 (by rw [hB.1]; exact k2) (by rw [hB.2]; exact k3) (fun cA kA comp f1 f2 f3 f4 => ?_)
  have hcA : cA = gcy g (3 + j) := by
    obtain ⟨-, -, -, -, -, h2⟩ := (Q.1.1.2 (3 + j) _ (show (tys g)[3 + j]? = some (gcy g (3 + j), .object (cN (acl j))) by rw [tys_at (by omega)]; rw [show 3 + j = j + 3 by omega]; rfl)).2
    exact Option.some.inj (f1.symm.trans h2)
  subst hcA
  generalize hH1 : H.push ({ cls := gcy g (3 + j), slots := Array.replicate v.toNatClampNeg .null, vm := .none } : Cell) = H1
  have z1 : H1.size = gB g + n + 1 + 1 := by rw [← hH1, Array.size_push, hW.2]
  have e1 : H1[gB g + (n + 1)]? = some (arrV (gcy g (3 + j)) v.toNatClampNeg (fun _ => .null)) := by
    rw [show gB g + (n + 1) = H.size by rw [hW.2]; omega, ← hH1, Array.getElem?_push_size, ← arrV_new]
  have o1 : ∀ q : Nat, q < gB g + n + 1 → H1[q]? = H[q]? := fun q hq => by rw [← hH1, Array.getElem?_push, if_neg (by rw [hW.2]; omega)]
  have hsz : H.size = gB g + (n + 1) := by rw [hW.2]; omega
  rw [hsz]
  refine kk r hr H1 locs ls (b_push (h' := zr h (n + 1)) hW z1 o1 rfl ent_zr ?_) (b_S hS hW.2 z1 o1) hl
  rw [ent_ref hL]
  show H1[gB g + (n + 1)]? = some (vp_cell _ _)
  rw [vp_cell_q, e1]
  simp [gr, zr, ro, va_rf]
theorem b_obj (G : Gd x cc nL own) {idx a : Nat} {Wd : Heap → Prop} {A : Nat → Prop} {cs : Nat × Nat} (hR1 : 1 ≤ (xR x).frames) (hR2 : 64 ≤ (xR x).locals) (hd : decode cc pc = .ok (.invokespecial idx, 3)) (w1 : Cond.methodLink own idx Lib.objectInit ∈ GW) (w2 : Cond.instanceMethod Lib.objectInit ∈ GW) (w3 : Cond.code Lib.objectInit ⟨#[0xb1]⟩ 1 none ∈ GW) (hst : (st.map fun v => v.category).sum ≤ 8)
    (kk : Sn x nL A cs ζ Wd (pc + 3) lv st E) : Sn x nL A cs ζ Wd pc lv (.ref a :: st) E := by
  intro r hr H locs ls hW hS hl
  have hts := G.2.2.2.2.1
  exact W.objInit G.1 G.2.1 G.2.2.2.1 (hts _ w1) (hts _ w2) (hts _ w3) rfl (by rw [G.2.2.1]; exact hl.1) rfl hd hR1 (by show 2 * 0 + _ + 12 ≤ _; omega) (kk r hr H locs ls hW hS hl)
theorem b_getR (G : Gd x cc nL own) (Q : Ge x g) {a ci k idx : Nat} {cs : Nat × Nat} (hd : decode cc pc = .ok (.getfield idx, 3)) (hf : FL own idx ci k) (ht : fty (cY ci k) = 2) (hL : lk (gL g a) (ci + 1) 0 a n = true) (hr0 : gr h a k ≠ 0)
    (kk : Sn x nL (gA g) cs ζ (bW g n h) (pc + 3) lv (.ref (gB g + gr h a k) :: st) E) : Sn x nL (gA g) cs ζ (bW g n h) pc lv (.ref (gB g + a) :: st) E := by
  obtain ⟨hc, hk, hw, he⟩ := hf
  obtain ⟨hL, ha1, ha2⟩ := lk_of hL
  intro r hr H locs ls hW hS hl
  have h1 : (wl g h n)[a - 1]? = some (gB g + a, .inr (ci, (List.range (cK ci)).map (fv (gB g) ci h a))) := by rw [wl_get ha1 ha2, ent_obj hL hc]
  exact va_get (C := cN ci) (T := cT ci) (N := cK ci) (ref := cN ci) (index := idx) G.1 G.2.1 G.2.2.2.2.1 (cw_in hc) G.2.2.2.1 Q.1.1 hW.1 (a - 1) h1 (vw_at hc) k hk (G.2.2.2.2.1 _ hw) (fun y hy => by rw [he] at hy; exact hy) (by rw [fl_get hk, fv_ref ht, rv_n _ hr0]) hd (kk r hr H locs ls hW hS hl)
theorem b_put (G : Gd x cc nL own) (Q : Ge x g) {a ci k idx : Nat} {cs : Nat × Nat} {v : Value} {h' : Hp} {K : Hp → Option ρ} {ty : FieldType} (hd : decode cc pc = .ok (.putfield idx, 3)) (hf : FL own idx ci k) (hnm : (xt x).name = "<init>") (hdl : (cT ci k).1 = own) (hL : lk (gL g a) (ci + 1) 0 a n = true) (hn : n ≤ gN g) (hty : cY ci k = ty) (hn1 : narrow ty v = v) (hfit : fits ty v = true)
    (he1 : fv (gB g) ci h' a k = v) (he2 : ∀ j, j ≠ k → fv (gB g) ci h' a j = fv (gB g) ci h a j) (he3 : ∀ b, b ≠ a → ent g h' b = ent g h b)
    (kk : Sn x nL (gA g) cs ζ (bW g n h') (pc + 3) lv st (K h')) : Sn x nL (gA g) cs ζ (bW g n h) pc lv (v :: .ref (gB g + a) :: st) (hb h' K) := by
  obtain ⟨hc, hk, hw, he⟩ := hf
  obtain ⟨hL, ha1, ha2⟩ := lk_of hL
  intro r hr H locs ls hW hS0 hl
  obtain ⟨hP, hsz⟩ := hW
  have hts := G.2.2.2.2.1
  have hq : (wl g h n)[a - 1]? = some (gB g + a, .inr (ci, (List.range (cK ci)).map (fv (gB g) ci h a))) := by rw [wl_get ha1 ha2, ent_obj hL hc]
  have hD := wl_D (g := g) (h := h) hn
  have hap := va_apart (own := own) hts (cw_in hc) (cY ci) (cY_ok hc) (cT_nm hc) Q.1.1 (vw_at hc)
  obtain ⟨rr, h1, cell, q1, q2, q3, q4⟩ := hP (a - 1) _ hq
  obtain rfl : rr = (cN ci, cT ci, cK ci) := Option.some.inj (h1.symm.trans (vw_at hc))
  obtain ⟨hS, hfc, kC, hkC, hkind⟩ := Q.1.1.1 ci _ (vw_at hc)
  obtain ⟨cf, kf, fi, f, hi, hsl⟩ := hS k hk
  have hlay := hts _ (cw_in hc _ (u_in_lay hk))
  have hst := (u_facts hfc hkC (u_lays hts (cw_in hc) hk) hi).1
  have hdd : parseFieldDescriptor (cT ci k).2.2.1 = some ty := by rw [cY_ok hc k hk, hty]
  have fin : ∀ H' : Heap, H'[gB g + a]? = some (cell.setSlot f.slot v) → H'.size = H.size → (∀ q, q ≠ gB g + a → H'[q]? = H[q]?) → XW x H' (locs ++ [⟨gB g + a, f.slot⟩]) cs (ζ r) (F0 (xm x) (pc + 3) ls st) := by
    intro H' e1 e2 e3
    have hP1 := hP.set hD hq (e := .inr (ci, ((List.range (cK ci)).map (fv (gB g) ci h a)).set k v)) ⟨_, vw_at hc, t_OB.to (V := updV (vp_V ((List.range (cK ci)).map (fv (gB g) ci h a))) k v) ⟨_, e1, q2, q3, by rw [hsl]; exact t_set q4 hap hk v⟩ (fun j _ => vp_updV_set (by rw [List.length_map, List.length_range]; exact hk) v j)⟩ e3
    rw [wl_set ha1 ha2 (h' := h') (by rw [ent_obj hL hc, fl_set hk he1 he2]) he3] at hP1
    exact kk r hr H' _ ls ⟨hP1, by rw [e2]; exact hsz⟩ (hS0.put e2 e3 (hD.2 (a - 1) _ hq)) hl
  unfold u_lay at hlay
  by_cases hfin : (cT ci k).2.2.2 = true
  · rw [if_pos hfin] at hlay
    have hcf : (xm x).cls = cf := by
      obtain ⟨_, _, c', _, _, _, -, -, hf', -, -, -, hown2, -⟩ := Cond.laysFinal_spec hlay
      have e1 : c' = cf := by have := hi.symm.trans hf'; simp at this; exact this.1.symm
      rw [hdl] at hown2
      rw [← e1]; exact Option.some.inj (G.2.2.2.1.symm.trans hown2)
    have h6 := u_fits hfc hkC hkind (Or.inr hlay) hi hdd hn1 hfit
    refine W.putFinK G.1 G.2.1 (ref := cN ci) (index := idx) G.2.2.2.1 (hts _ hw) (by rw [he] at hi; exact hi) hst hcf hnm (by rw [q2]; exact h6) q1 q3 (by rw [hsl]; exact k2_hasslot (q4 k hk)) rfl rfl hd fin
  · rw [if_neg hfin] at hlay
    have h6 := u_store hfc hkC hkind hlay hi hdd hn1 hfit
    refine W.putK G.1 G.2.1 (f := f) (ref := cN ci) (index := idx) ⟨G.2.2.2.1, hts _ hw, ⟨_, _, _, by rw [he] at hi; exact hi⟩, hst⟩ (by rw [q2]; exact h6) q1 q3 (by rw [hsl]; exact k2_hasslot (q4 k hk)) rfl rfl hd fin
theorem b_putI (G : Gd x cc nL own) (Q : Ge x g) {a ci k idx : Nat} {cs : Nat × Nat} {v : Int32} {K : Hp → Option ρ} {ty : FieldType} (hd : decode cc pc = .ok (.putfield idx, 3)) (hf : FL own idx ci k) (hnm : (xt x).name = "<init>") (hdl : (cT ci k).1 = own) (hL : lk (gL g a) (ci + 1) 0 a n = true) (hn : n ≤ gN g) (hty : cY ci k = ty) (hf0 : fty ty = 0) (hn1 : narrow ty (.int v) = .int v) (hfit : fits ty (.int v) = true)
    (kk : ∀ h', Sn x nL (gA g) cs ζ (bW g n h') (pc + 3) lv st (K h')) : Sn x nL (gA g) cs ζ (bW g n h) pc lv (.int v :: .ref (gB g + a) :: st) (hb (si h a k v) K) :=
  b_put G Q hd hf hnm hdl hL hn hty hn1 hfit (by rw [fv_int (by rw [hty]; exact hf0), gi_si]) fv_si ent_si (kk _)
theorem b_putL (G : Gd x cc nL own) (Q : Ge x g) {a ci k idx : Nat} {cs : Nat × Nat} {v : Int64} {K : Hp → Option ρ} (hd : decode cc pc = .ok (.putfield idx, 3)) (hf : FL own idx ci k) (hnm : (xt x).name = "<init>") (hdl : (cT ci k).1 = own) (hL : lk (gL g a) (ci + 1) 0 a n = true) (hn : n ≤ gN g) (hty : cY ci k = .long)
    (kk : ∀ h', Sn x nL (gA g) cs ζ (bW g n h') (pc + 3) lv st (K h')) : Sn x nL (gA g) cs ζ (bW g n h) pc lv (.long v :: .ref (gB g + a) :: st) (hb (sl h a k v) K) :=
  b_put G Q hd hf hnm hdl hL hn hty rfl rfl (by rw [fv_long (by rw [hty]; rfl), gl_sl]) fv_sl ent_sl (kk _)
theorem b_putR (G : Gd x cc nL own) (Q : Ge x g) {a ci k idx r : Nat} {cs : Nat × Nat} {K : Hp → Option ρ} {ty : FieldType} (hd : decode cc pc = .ok (.putfield idx, 3)) (hf : FL own idx ci k) (hnm : (xt x).name = "<init>") (hdl : (cT ci k).1 = own) (hL : lk (gL g a) (ci + 1) 0 a n = true) (hn : n ≤ gN g) (hty : cY ci k = ty) (hn1 : ∀ q, narrow ty (.ref q) = .ref q) (hfit : ∀ q, fits ty (.ref q) = true) (hf2 : fty ty = 2) (hr0 : r ≠ 0)
    (kk : ∀ h', Sn x nL (gA g) cs ζ (bW g n h') (pc + 3) lv st (K h')) : Sn x nL (gA g) cs ζ (bW g n h) pc lv (.ref (gB g + r) :: .ref (gB g + a) :: st) (hb (sr h a k r) K) :=
  b_put G Q hd hf hnm hdl hL hn hty (hn1 _) (hfit _) (by rw [fv_ref (by rw [hty]; exact hf2), gr_sr, rv_n _ hr0]) fv_sr ent_sr (kk _)
theorem b_aald (G : Gd x cc nL own) (Q : Ge x g) {a len j : Nat} {cs : Nat × Nat} {i : Int32} (hd : decode cc pc = .ok (.aaload, 1)) (hj : j < 5) (hL : lk (gL g a) (23 + j) len a n = true) (hi : inb i len = true) (hr0 : gr h a i.toNatClampNeg ≠ 0)
    (kk : Sn x nL (gA g) cs ζ (bW g n h) (pc + 1) lv (.ref (gB g + gr h a i.toNatClampNeg) :: st) E) : Sn x nL (gA g) cs ζ (bW g n h) pc lv (.int i :: .ref (gB g + a) :: st) E := by
  obtain ⟨hL, ha1, ha2⟩ := lk_of hL
  intro r hr H locs ls hW hS hl
  have hk := kk r hr H locs ls hW hS hl
  rw [← rv_n (gB g) hr0] at hk
  exact va_aldq (C := cN (acl j)) (f := fun k => ro (gB g) (gr h a k)) G.1 G.2.1 Q.1.1 hW.1 (a - 1) (3 + j) (by rw [wl_get ha1 ha2, ent_ref hL]) (by rw [tys_at (by omega)]; rw [show 3 + j = j + 3 by omega]; rfl) (inb_vp hi) hd hk
theorem b_aast (G : Gd x cc nL own) (Q : Ge x g) {a len j v : Nat} {cs : Nat × Nat} {i : Int32} {K : Hp → Option ρ} (hd : decode cc pc = .ok (.aastore, 1)) (hj : j < 5) (hn : n ≤ gN g) (hL : lk (gL g a) (23 + j) len a n = true) (hi : inb i len = true) (hv : lk (gL g v) (acl j + 1) 0 v n = true)
    (kk : ∀ h', Sn x nL (gA g) cs ζ (bW g n h') (pc + 1) lv st (K h')) : Sn x nL (gA g) cs ζ (bW g n h) pc lv (.ref (gB g + v) :: .int i :: .ref (gB g + a) :: st) (hb (sr h a i.toNatClampNeg v) K) := by
  obtain ⟨hL, ha1, ha2⟩ := lk_of hL
  obtain ⟨hv, hv1, hv2⟩ := lk_of hv
  intro r hr H locs ls hW hS hl
  obtain ⟨hP, hsz⟩ := hW
  have hD := wl_D (g := g) (h := h) hn
  have hin := inb_vp hi
  have hlt : i.toNatClampNeg < len := Nat.not_le.mp fun q => hin (Or.inr q)
  have h0 : ¬ i < 0 := fun q => hin (Or.inl q)
  have hc : acl j < 10 := by
    rcases (show j = 0 ∨ j = 1 ∨ j = 2 ∨ j = 3 ∨ j = 4 by omega) with rfl | rfl | rfl | rfl | rfl <;> decide
  have ha : (wl g h n)[a - 1]? = some (gB g + a, .inl (gcy g (3 + j), len, .inr (.inr (.inr (.inr (fun k => ro (gB g) (gr h a k))))))) := by rw [wl_get ha1 ha2, ent_ref hL]
  have hvw : (wl g h n)[v - 1]? = some (gB g + v, .inr (acl j, (List.range (cK (acl j))).map (fv (gB g) (acl j) h v))) := by rw [wl_get hv1 hv2, ent_obj hv hc]
  obtain ⟨r', hr', cellV, g1, g2, g3, -⟩ := hP (v - 1) _ hvw
  have hcls := (Q.1.1.1 (acl j) _ (vw_at hc)).2
  have ht : (tys g)[3 + j]? = some (gcy g (3 + j), .object (cN (acl j))) := by rw [tys_at (by omega)]; rw [show 3 + j = j + 3 by omega]; rfl
  obtain ⟨kA, comp, k1, k2, k3, -⟩ := (Q.1.1.2 (3 + j) _ ht).2
  have hcomp : comp = (gD g).1 (acl j) := Option.some.inj (k3.symm.trans hcls.1)
  subst hcomp
  obtain ⟨kC, hkC, -⟩ := hcls.2
  refine W.aast G.1 G.2.1 (hP (a - 1) _ ha) (fun q h => by cases h) (fun h => by cases h) k1 k2 rfl hkC ⟨h0, by show _ < (arrV _ _ _).slots.size; rw [arrV_size]; exact hlt⟩ g1 (fun q h => by rw [g3] at h; cases h) (by rw [g2]; exact hkC) (by rw [g2]; exact va_assign hcls) rfl rfl hd (fun H1 e z1 oq => ?_)
  have hP1 := hP.set hD ha (e := .inl (gcy g (3 + j), len, .inr (.inr (.inr (.inr (va_up (fun k => ro (gB g) (gr h a k)) i.toNatClampNeg (some (gB g + v)))))))) (by
    show H1[gB g + a]? = some (vp_cell _ _)
    rw [e, vp_cell_q, vp_cell_q, arrV_store]
    congr 2
    funext q
    by_cases hq : q = i.toNatClampNeg
    · subst hq; simp [updV, va_up, va_rf]
    · simp [updV, va_up, hq]) oq
  rw [wl_set ha1 ha2 (h' := sr h a i.toNatClampNeg v) (by rw [ent_ref hL, upd_gr _ _ _ _ _ (show v ≠ 0 by omega)]) ent_sr] at hP1
  exact kk _ r hr H1 _ ls ⟨hP1, by rw [z1]; exact hsz⟩ (hS.put z1 oq (hD.2 (a - 1) _ ha)) hl
theorem b_iast (G : Gd x cc nL own) (Q : Ge x g) {a len : Nat} {cs : Nat × Nat} {i v : Int32} {K : Hp → Option ρ} (hd : decode cc pc = .ok (.iastore, 1)) (hn : n ≤ gN g) (hL : lk (gL g a) 20 len a n = true) (hi : inb i len = true)
    (kk : ∀ h', Sn x nL (gA g) cs ζ (bW g n h') (pc + 1) lv st (K h')) : Sn x nL (gA g) cs ζ (bW g n h) pc lv (.int v :: .int i :: .ref (gB g + a) :: st) (hb (si h a i.toNatClampNeg v) K) := by
  obtain ⟨hL, ha1, ha2⟩ := lk_of hL
  intro r hr H locs ls hW hS hl
  obtain ⟨hP, hsz⟩ := hW
  have hD := wl_D (g := g) (h := h) hn
  have hin := inb_vp hi
  have ha : (wl g h n)[a - 1]? = some (gB g + a, .inl (gcy g 0, len, .inl (gi h a))) := by rw [wl_get ha1 ha2, ent_int hL]
  refine W.iast G.1 G.2.1 (hP (a - 1) _ ha) ((Q.1.1.2 0 _ (tys_at (by omega))).1 len (fun j => .int (gi h a j))) (fun q => by cases q) (by show ¬ (i < 0 ∨ (arrV _ _ _).slots.size ≤ _); rw [arrV_size]; exact hin) rfl rfl hd (fun H1 e z1 oq => ?_)
  have hP1 := hP.set hD ha (e := .inl (gcy g 0, len, .inl (upd (gi h a) i.toNatClampNeg v))) (by
    show H1[gB g + a]? = some (vp_cell _ _)
    rw [e, vp_cell_i, vp_cell_i, arrV_store]
    congr 2
    funext q
    by_cases hq : q = i.toNatClampNeg
    · subst hq; simp [updV, upd]
    · simp [updV, upd, hq]) oq
  rw [wl_set ha1 ha2 (h' := si h a i.toNatClampNeg v) (by rw [ent_int hL, upd_gi]) ent_si] at hP1
  exact kk _ r hr H1 _ ls ⟨hP1, by rw [z1]; exact hsz⟩ (hS.put z1 oq (hD.2 (a - 1) _ ha)) hl
theorem b_vret (G : Gd x cc nL own) (hrt : Rt x none) {mc ms : Nat} (hc : c ≤ mc) (hz : z ≤ ms) (hd : decode cc pc = .ok (.return_, 1)) : Sn x nL (gA g) (c, z) (ζB x g mc ms) (bW g n h) pc lv [] (some (n, h)) := by
  intro r hr H locs ls hW hS hl
  cases hr
  refine W.widen (k := mc) (n := ms) hc hz ?_
  exact W.vret (Qc := QcB g n h) G.1 G.2.1 hrt (fun t ht _ => ⟨rfl, by rw [ht]; exact hW, hS.F ht⟩) hS.2.2 hd G.2.2.2.2.2
theorem b_call (G : Gd x cc nL own) (Q : Ge x g) {K : Nat → Hp → Option ρ} {F : Option (Nat × Hp)} {a idx d d' maxL mc ms MC MS : Nat} {y : MethodName} {cc' : ByteArray} (hB : Rb x MC MS) (hd : decode cc pc = .ok (.invokespecial idx, 3)) (hR : Rm x d) (hdd : d' + 1 ≤ d)
    (hv : VCb own idx y cc' maxL none 0) (hi : Cond.instanceMethod y ∈ GW) (hy : y.name = "<init>") (hst : (st.map fun v => v.category).sum ≤ 8) (hk : rk 0 0 (c + mc) MC (z + ms) MS = true)
    (hm : ∀ n' h', F = some (n', h') → MetB (xl x) g y cc' maxL d' mc ms a n h n' h')
    (kk : ∀ n' h', Sn x nL (gA g) (c + mc, z + ms) ζ (bW g n' h') (pc + 3) lv st (K n' h')) : Sn x nL (gA g) (c, z) ζ (bW g n h) pc lv (.ref (gB g + a) :: st) (bb F K) := by
  intro r hr H locs ls hW hS hl
  cases hF : F with
  | none => rw [hF] at hr; cases hr
  | some q =>
    obtain ⟨n', h'⟩ := q
    rw [hF] at hr
    have hM := hm n' h' hF
    have hts := G.2.2.2.2.1
    obtain ⟨-, k2, k3⟩ := rk_of hk
    obtain ⟨h1, h2, h3, h4, h5⟩ := hv
    have hR' : Rm x (d' + 1) := hR.le hdd
    have cb0 : CallB (xR x) (xs x) (xa x) own idx y cc' maxL none (.code y cc' maxL none :: GW) (rmb d' mc ms) mc ms 0 := by
      refine ⟨rfl, rfl, hR'.1, ?_, ?_, List.mem_cons_self, hts _ h2, hts _ h3, ⟨h4.1, h4.2.1⟩, fun sig hs => ?_, hts _ h1⟩
      · have := hR'.2
        show 8 + (maxL + 11) + 64 * d' ≤ _
        omega
      · intro w hw a' U hWU
        have hw' : w ∈ GW := by
          rcases List.mem_cons.mp hw with rfl | hw
          · exact h2
          · exact hw
        exact word_at hWU (gw_goodW hw') (hts w hw')
      · have h6 := h4.2.2
        rw [hs] at h6
        exact (Option.some.inj h6).symm
    have hbl : FrameBlind (PcB g a n h) := fun a' U gf mk q => ⟨q.1, q.2.1, EnvG.go (s := U) (U := U.calling gf mk a') q.2.2 (State.WarmedH.refl U) (fun _ _ _ => rfl)⟩
    have run := va_runI (b := gB g + a) (As := []) (rest := st) (g := F0 (xm x) pc ls (.ref (gB g + a) :: st)) (cells := c) (slots := z) (locs := locs) (H := H) (below := xb x) (meth := xt x) (e := xe x) ⟨G.1, G.2.1, G.2.2.1, G.2.2.2.1, hts⟩ hM ⟨cb0, hy, hts _ hi⟩ ⟨hbl, fun U hU hWU => ⟨rfl, by rw [hU]; exact hW, c_env Q hS hU hWU⟩⟩ rfl rfl hl.1 rfl (lv_room hst) hd ⟨by rw [hB.1]; exact k2, by rw [hB.2]; exact k3⟩
    intro T hT X
    obtain ⟨v, st₀, t, T', L, h0, X', hL, e1, e2, ⟨hv', hw, hz, hk'⟩, stp⟩ := run T hT X
    obtain rfl : v = none := Outcome.returned.inj hv'
    rw [h0] at hz hk'
    obtain ⟨t2, a1, b1⟩ := kk n' h' r hr T'.heap (locs ++ L) ls (by rw [e1]; exact hw) ⟨Nat.le_trans hS.1 (by rw [e1]; exact hz), fun q h1 h2 => by rw [e1, hk' q (Nat.lt_of_lt_of_le h1 hS.1) h2]; exact hS.2.1 q h1 h2, fun q hq => by
        rcases List.mem_append.mp hq with h | h
        · exact hS.2.2 q h
        · exact hL q h⟩ hl T' rfl X'
    exact ⟨t2, stp t2 a1, b1⟩
end SB
theorem met_ofB {l : Launch} {g : GT} {y : MethodName} {cc : ByteArray} {maxL d mc ms a n : Nat} {h : Hp} {E : Option (Nat × Hp)} (hy : plainName y.cls = true) (hyn : y.name = "<init>") (hk : Lok g) (hav : 1 ≤ maxL)
    (body : ∀ x : CT, xl x = l → Gd x cc maxL y.cls → Ge x g → Rm x d → Rb x mc ms → Rt x none → (xt x).name = "<init>" → Sn x maxL (gA g) (0, 0) (ζB x g mc ms) (bW g n h) 0 [(0, .ref (gB g + a))] [] E) :
    ∀ n' h', E = some (n', h') → MetB l g y cc maxL d mc ms a n h n' h' := by
  intro n' h' hE
  refine Met.ofW (cc := cc) (maxL := maxL) (ret := none) hy rfl ?_
  intro p e s m args below meth c s₁ B hml hv
  obtain ⟨rfl, hW, hE2⟩ := hv
  have hts := atoms_spec (ws := .code y cc maxL none :: GW) B.pre
  have hl := lv_entry [Value.ref (gB g + a)] (n := maxL) hav
  rw [lg_entry_eq]
  generalize (lg_sl [Value.ref (gB g + a)] ++ List.replicate (maxL - (lg_sl [Value.ref (gB g + a)]).length) Slot.unset).toArray = ls at hl ⊢
  have hin : meth.name = "<init>" := by rw [(name_of_methodNamed B.named B.method).1, hyn]
  exact body (p, l, e, (headSpec (.code y cc maxL none :: GW) (rmb d mc ms)).room, s, m, _, below, meth, c) rfl ⟨B.exec, B.bytes, hml, findClass_of_methodNamed B.named, fun w hw => hts w (List.mem_cons_of_mem _ hw), B.notSynchronized⟩ ⟨hE2, hk⟩ ⟨Nat.le_refl _, Nat.le_refl _⟩ ⟨rfl, rfl⟩ B.returns hin _ hE s.heap [] ls hW va_S.rf hl
theorem s_vR {ρ : Type} {x : CT} {nL : Nat} {A : Nat → Prop} {cs : Nat × Nat} {ζ : ρ → State → Prop} {Wd : Heap → Prop} {pc : Nat} {lv : List (Nat × Value)} {st : List Value} {B v : Nat} {K : Nat → Option ρ} (kk : ∀ y : Nat, Sn x nL A cs ζ Wd pc lv (.ref (B + y) :: st) (K y)) : Sn x nL A cs ζ Wd pc lv (.ref (B + v) :: st) (vb v K) := kk v
theorem b_nh {ρ : Type} {x : CT} {nL : Nat} {A : Nat → Prop} {cs : Nat × Nat} {ζ : ρ → State → Prop} {g : GT} {n : Nat} {h : Hp} {pc : Nat} {lv : List (Nat × Value)} {st : List Value} {K : Hp → Option ρ} (kk : ∀ h' : Hp, Sn x nL A cs ζ (bW g n h') pc lv st (K h')) : Sn x nL A cs ζ (bW g n h) pc lv st (hb h K) := kk h
