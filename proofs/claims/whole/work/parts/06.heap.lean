/-! ===== what stands around a system, and the rows of the heap ===== -/
def sIx : Nat → Nat := fun i => match i with | 0 => 80 | 1 => 82 | 2 => 84 | 3 => 86 | 4 => 88 | 5 => 90 | 6 => 92 | 7 => 94 | 8 => 96 | 9 => 56 | 10 => 125 | _ => 127
def sTx : Nat → String := fun i => match i with | 0 => "free" | 1 => "bind" | 2 => "oath" | 3 => "bar" | 4 => "lose" | 5 => "both" | 6 => "over" | 7 => "roll" | 8 => "least" | 9 => "poghct" | 10 => "ayowsuxbhq" | _ => "<=>"
def sLen : List Nat := [4, 4, 4, 3, 4, 4, 4, 4, 5, 6, 10, 3]
def sByt : List (List Int32) := [[102, 114, 101, 101], [98, 105, 110, 100], [111, 97, 116, 104], [98, 97, 114], [108, 111, 115, 101], [98, 111, 116, 104], [111, 118, 101, 114], [114, 111, 108, 108], [108, 101, 97, 115, 116], [112, 111, 103, 104, 99, 116], [97, 121, 111, 119, 115, 117, 120, 98, 104, 113], [60, 61, 62]]
def bodT : Nat → Int32 := fun j => ([10, 11, 12, 0, 20, 0, 30, 0, 31, 40, 0, 0, 0, 51, 50, 0, 60, 0, 0, 0, 70] : List Int32).getD j 0
def abvT : Nat → Int32 := fun j => ([-1, 0, 1, 0, 3, 0, 0] : List Int32).getD j 0
def tys (g : GT) : List (ClassId × FieldType) := (List.range 8).map (fun t => (gcy g t, aty t))
theorem tys_at {g : GT} {t : Nat} (h : t < 8) : (tys g)[t]? = some (gcy g t, aty t) := by
  unfold tys
  rw [List.getElem?_map, List.getElem?_range h]; rfl
def EnvG (g : GT) (U : State) (H : Heap) : Prop :=
  va_K (gD g) vwCl (tys g) U ∧ (∀ i, i < 12 → vk_R RX4 (sIx i) (sTx i) (gK g i) U) ∧ vk_S 12 sLen sByt (gK g) (gV g) (gA g) U H ∧ va_Z "java/lang/String" "COMPACT_STRINGS" "Z" (.int 1) (gA g) U H ∧
  va_Z RX1 "BODIES" "[I" (.ref (gTb g)) (gA g) U H ∧ va_T .int (gTb g) 21 (fun j => .int (bodT j)) (gA g) U H ∧ va_Z RX8 "ABOVE" "[I" (.ref (gTa g)) (gA g) U H ∧ va_T .int (gTa g) 7 (fun j => .int (abvT j)) (gA g) U H ∧
  va_Z "jdk/internal/util/Preconditions" "SIOOBE_FORMATTER" "Ljava/util/function/BiFunction;" (va_rf (gTf g)) (gA g) U H ∧ va_Nw (.fieldLinkNest RX1 36 RX8 "ABOVE" "[I" "WhoMustSwear") U ∧ ∀ j, j < 5 → va_AO (cN (acl j)) U
theorem EnvG.go {g : GT} {s U : State} {H H1 : Heap} (h : EnvG g s H) (hW : s.WarmedH U.vm) (hq : ∀ a : Nat, a < H.size → ¬ gA g a → H1[a]? = H[a]?) : EnvG g U H1 := by
  obtain ⟨h1, h2, h3, h4, h5, h6, h7, h8, h9, h10, h11⟩ := h
  exact ⟨va_K.moved hW.alike h1, fun i hi => vk_R.warm hW (h2 i hi), vk_S.kept (vk_S.moved hW.alike h3) hq, va_Z.kept (va_Z.moved hW.alike h4) hq, va_Z.kept (va_Z.moved hW.alike h5) hq, va_T.kept (va_T.moved hW.alike h6) hq,
    va_Z.kept (va_Z.moved hW.alike h7) hq, va_T.kept (va_T.moved hW.alike h8) hq, va_Z.kept (va_Z.moved hW.alike h9) hq, h10.warmF hW, fun j hj => va_AO.moved hW.alike (h11 j hj)⟩
def Lok (g : GT) : Prop := ∀ a, (gL g a).1 ≠ 0 → 1 ≤ a ∧ a ≤ gN g
def Ge (x : CT) (g : GT) : Prop := EnvG g (xs x) (xs x).heap ∧ Lok g
def Rm (x : CT) (d : Nat) : Prop := d ≤ (xR x).frames ∧ 64 * d ≤ (xR x).locals
/-- a field's entry of the pool -/
def FL (own : String) (idx c k : Nat) : Prop := c < 10 ∧ k < cK c ∧ Cond.fieldLink own idx (cN c) (cT c k).2.1 (cT c k).2.2.1 ∈ GW ∧ (cT c k).1 = cN c
section SH
variable {ρ : Type} {x : CT} {cc : ByteArray} {nL : Nat} {own : String} {cs : Nat × Nat} {ζ : ρ → State → Prop} {pc : Nat} {lv lv' : List (Nat × Value)} {st : List Value} {E : Option ρ} {g : GT} {h : Hp}
theorem upd_gi (h : Hp) (a k : Nat) (v : Int32) : upd (gi h a) k v = gi (si h a k v) a := by
  funext j; simp [gi, si, u2, upd]
theorem upd_gl (h : Hp) (a k : Nat) (v : Int64) : vp_updL (gl h a) k v = gl (sl h a k v) a := by
  funext j; simp [gl, sl, u2, vp_updL]
theorem upd_gr (B : Nat) (h : Hp) (a k v : Nat) (hv : v ≠ 0) : va_up (fun q => ro B (gr h a q)) k (some (B + v)) = fun q => ro B (gr (sr h a k v) a q) := by
  funext j
  by_cases hj : j = k
  · subst hj
    simp [va_up, gr, sr, u2, ro, hv]
  · simp [va_up, gr, sr, u2, hj]
theorem s_nn {A : Nat → Prop} {Wd : Heap → Prop} {B r : Nat} (hr : r ≠ 0) (kk : Sn x nL A cs ζ Wd pc lv (.ref (B + r) :: st) E) : Sn x nL A cs ζ Wd pc lv (rv B r :: st) E := by
  rw [rv_n B hr]; exact kk
theorem s_q {A : Nat → Prop} {Wd : Heap → Prop} {B r : Nat} (hr : r ≠ 0) (kk : Sn x nL A cs ζ Wd pc lv (rv B r :: st) E) : Sn x nL A cs ζ Wd pc lv (.ref (B + r) :: st) E := by
  rw [rv_n B hr] at kk; exact kk
theorem s_get (G : Gd x cc nL own) (Q : Ge x g) {a c k idx : Nat} {v : Value} (hd : decode cc pc = .ok (.getfield idx, 3)) (hf : FL own idx c k) (hL : gL g a = (c + 1, 0)) (hv : StatOK g h → fv (gB g) c h a k = v)
    (kk : Sn x nL (gA g) cs ζ (gW g h) (pc + 3) lv (v :: st) E) : Sn x nL (gA g) cs ζ (gW g h) pc lv (.ref (gB g + a) :: st) E := by
  obtain ⟨hc, hk, hw, he⟩ := hf
  intro r hr H locs ls hW hS hl
  obtain ⟨hst, hP⟩ := hW
  obtain ⟨ha1, ha2⟩ := Q.2 a (by rw [hL]; exact Nat.succ_ne_zero _)
  have h1 : (wl g h (gN g))[a - 1]? = some (gB g + a, .inr (c, (List.range (cK c)).map (fv (gB g) c h a))) := by rw [wl_get ha1 ha2, ent_obj hL hc]
  exact va_get (C := cN c) (T := cT c) (N := cK c) (ref := cN c) (index := idx) G.1 G.2.1 G.2.2.2.2.1 (cw_in hc) G.2.2.2.1 Q.1.1 hP (a - 1) h1 (vw_at hc) k hk (G.2.2.2.2.1 _ hw) (fun y hy => by rw [he] at hy; exact hy) (by rw [fl_get hk, hv hst]) hd (kk r hr H locs ls ⟨hst, hP⟩ hS hl)
theorem s_getI (G : Gd x cc nL own) (Q : Ge x g) {a c k idx : Nat} (hd : decode cc pc = .ok (.getfield idx, 3)) (hf : FL own idx c k) (ht : fty (cY c k) = 0) (hL : gL g a = (c + 1, 0))
    (kk : Sn x nL (gA g) cs ζ (gW g h) (pc + 3) lv (.int (gi h a k) :: st) E) : Sn x nL (gA g) cs ζ (gW g h) pc lv (.ref (gB g + a) :: st) E := s_get G Q hd hf hL (fun _ => fv_int ht) kk
theorem s_getL (G : Gd x cc nL own) (Q : Ge x g) {a c k idx : Nat} (hd : decode cc pc = .ok (.getfield idx, 3)) (hf : FL own idx c k) (ht : fty (cY c k) = 1) (hL : gL g a = (c + 1, 0))
    (kk : Sn x nL (gA g) cs ζ (gW g h) (pc + 3) lv (.long (gl h a k) :: st) E) : Sn x nL (gA g) cs ζ (gW g h) pc lv (.ref (gB g + a) :: st) E := s_get G Q hd hf hL (fun _ => fv_long ht) kk
/-- a reference that stands fast -/
theorem s_getS (G : Gd x cc nL own) (Q : Ge x g) {a c k idx r : Nat} (hd : decode cc pc = .ok (.getfield idx, 3)) (hf : FL own idx c k) (ht : fty (cY c k) = 2) (hL : gL g a = (c + 1, 0)) (hs : gS g a k = some r) (hr0 : r ≠ 0)
    (kk : Sn x nL (gA g) cs ζ (gW g h) (pc + 3) lv (.ref (gB g + r) :: st) E) : Sn x nL (gA g) cs ζ (gW g h) pc lv (.ref (gB g + a) :: st) E :=
  s_get G Q hd hf hL (fun q => by rw [fv_ref ht, q a k r hs, rv_n _ hr0]) kk
theorem s_getR (G : Gd x cc nL own) (Q : Ge x g) {a c k idx : Nat} (hd : decode cc pc = .ok (.getfield idx, 3)) (hf : FL own idx c k) (ht : fty (cY c k) = 2) (hL : gL g a = (c + 1, 0))
    (kk : Sn x nL (gA g) cs ζ (gW g h) (pc + 3) lv (rv (gB g) (gr h a k) :: st) E) : Sn x nL (gA g) cs ζ (gW g h) pc lv (.ref (gB g + a) :: st) E := s_get G Q hd hf hL (fun _ => fv_ref ht) kk
theorem s_put (G : Gd x cc nL own) (Q : Ge x g) {a c k idx : Nat} {v : Value} {h' : Hp} {K : Hp → Option ρ} {ty : FieldType} (hd : decode cc pc = .ok (.putfield idx, 3)) (hf : FL own idx c k) (hfin : (cT c k).2.2.2 = false) (hL : gL g a = (c + 1, 0)) (hty : cY c k = ty) (hn : narrow ty v = v) (hfit : fits ty v = true)
    (hS' : StatOK g h → StatOK g h') (he1 : fv (gB g) c h' a k = v) (he2 : ∀ j, j ≠ k → fv (gB g) c h' a j = fv (gB g) c h a j) (he3 : ∀ b, b ≠ a → ent g h' b = ent g h b)
    (kk : Sn x nL (gA g) cs ζ (gW g h') (pc + 3) lv st (K h')) : Sn x nL (gA g) cs ζ (gW g h) pc lv (v :: .ref (gB g + a) :: st) (hb h' K) := by
  obtain ⟨hc, hk, hw, he⟩ := hf
  intro r hr H locs ls hW hS hl
  obtain ⟨hst, hP⟩ := hW
  obtain ⟨ha1, ha2⟩ := Q.2 a (by rw [hL]; exact Nat.succ_ne_zero _)
  have h1 : (wl g h (gN g))[a - 1]? = some (gB g + a, .inr (c, (List.range (cK c)).map (fv (gB g) c h a))) := by rw [wl_get ha1 ha2, ent_obj hL hc]
  refine va_put (C := cN c) (T := cT c) (N := cK c) (ref := cN c) (index := idx) G.1 G.2.1 G.2.2.2.2.1 (cw_in hc) (cY c) (cY_ok hc) (cT_nm hc) G.2.2.2.1 Q.1.1 hP (wl_D (Nat.le_refl _)) hS (a - 1) h1 (vw_at hc) k hk (G.2.2.2.2.1 _ hw) (fun y hy => by rw [he] at hy; exact hy) hfin
    (show parseFieldDescriptor _ = some ty by rw [cY_ok hc k hk, hty]) hn hfit (by rw [List.length_map, List.length_range]; exact hk) hd (fun H1 locs1 hP1 hD1 hS1 => ?_)
  rw [wl_set ha1 ha2 (h' := h') (by rw [ent_obj hL hc, fl_set hk he1 he2]) he3] at hP1
  exact kk r hr H1 locs1 ls ⟨hS' hst, hP1⟩ hS1 hl
theorem gi_si (h : Hp) (a k : Nat) (v : Int32) : gi (si h a k v) a k = v := u2_self _ _ _ _
theorem gl_sl (h : Hp) (a k : Nat) (v : Int64) : gl (sl h a k v) a k = v := u2_self _ _ _ _
theorem gr_sr (h : Hp) (a k v : Nat) : gr (sr h a k v) a k = v := u2_self _ _ _ _
theorem s_putI (G : Gd x cc nL own) (Q : Ge x g) {a c k idx : Nat} {v : Int32} {K : Hp → Option ρ} (hd : decode cc pc = .ok (.putfield idx, 3)) (hf : FL own idx c k) (hfin : (cT c k).2.2.2 = false) (hty : cY c k = .int) (hL : gL g a = (c + 1, 0))
    (kk : ∀ h', Sn x nL (gA g) cs ζ (gW g h') (pc + 3) lv st (K h')) : Sn x nL (gA g) cs ζ (gW g h) pc lv (.int v :: .ref (gB g + a) :: st) (hb (si h a k v) K) :=
  s_put G Q hd hf hfin hL hty rfl rfl (fun q => q.si) (by rw [fv_int (by rw [hty]; rfl), gi_si]) fv_si ent_si (kk _)
theorem nar_b {v : Int32} (h : v = 0 ∨ v = 1) : narrow .boolean (.int v) = .int v ∧ fits .boolean (.int v) = true := by
  rcases h with rfl | rfl <;> exact ⟨rfl, rfl⟩
theorem s_putZ (G : Gd x cc nL own) (Q : Ge x g) {a c k idx : Nat} {v : Int32} {K : Hp → Option ρ} (hd : decode cc pc = .ok (.putfield idx, 3)) (hf : FL own idx c k) (hfin : (cT c k).2.2.2 = false) (hty : cY c k = .boolean) (hb1 : v = 0 ∨ v = 1) (hL : gL g a = (c + 1, 0))
    (kk : ∀ h', Sn x nL (gA g) cs ζ (gW g h') (pc + 3) lv st (K h')) : Sn x nL (gA g) cs ζ (gW g h) pc lv (.int v :: .ref (gB g + a) :: st) (hb (si h a k v) K) :=
  s_put G Q hd hf hfin hL hty (nar_b hb1).1 (nar_b hb1).2 (fun q => q.si) (by rw [fv_int (by rw [hty]; rfl), gi_si]) fv_si ent_si (kk _)
theorem s_putL (G : Gd x cc nL own) (Q : Ge x g) {a c k idx : Nat} {v : Int64} {K : Hp → Option ρ} (hd : decode cc pc = .ok (.putfield idx, 3)) (hf : FL own idx c k) (hfin : (cT c k).2.2.2 = false) (hty : cY c k = .long) (hL : gL g a = (c + 1, 0))
    (kk : ∀ h', Sn x nL (gA g) cs ζ (gW g h') (pc + 3) lv st (K h')) : Sn x nL (gA g) cs ζ (gW g h) pc lv (.long v :: .ref (gB g + a) :: st) (hb (sl h a k v) K) :=
  s_put G Q hd hf hfin hL hty rfl rfl (fun q => q.sl) (by rw [fv_long (by rw [hty]; rfl), gl_sl]) fv_sl ent_sl (kk _)
theorem s_putR (G : Gd x cc nL own) (Q : Ge x g) {a c k idx r : Nat} {C : String} {K : Hp → Option ρ} (hd : decode cc pc = .ok (.putfield idx, 3)) (hf : FL own idx c k) (hfin : (cT c k).2.2.2 = false) (hty : cY c k = .object C) (hL : gL g a = (c + 1, 0)) (hr0 : r ≠ 0) (hs : gS g a k = none)
    (kk : ∀ h', Sn x nL (gA g) cs ζ (gW g h') (pc + 3) lv st (K h')) : Sn x nL (gA g) cs ζ (gW g h) pc lv (.ref (gB g + r) :: .ref (gB g + a) :: st) (hb (sr h a k r) K) :=
  s_put G Q hd hf hfin hL hty rfl rfl (fun q => q.sr hs) (by rw [fv_ref (by rw [hty]; rfl), gr_sr, rv_n _ hr0]) fv_sr ent_sr (kk _)
/-! arrays -/
theorem s_iald (G : Gd x cc nL own) (Q : Ge x g) {a n : Nat} {i : Int32} (hd : decode cc pc = .ok (.iaload, 1)) (hL : gL g a = (20, n)) (hi : inb i n = true)
    (kk : Sn x nL (gA g) cs ζ (gW g h) (pc + 1) lv (.int (gi h a i.toNatClampNeg) :: st) E) : Sn x nL (gA g) cs ζ (gW g h) pc lv (.int i :: .ref (gB g + a) :: st) E := by
  intro r hr H locs ls hW hS hl
  obtain ⟨ha1, ha2⟩ := Q.2 a (by rw [hL]; exact Nat.succ_ne_zero _)
  exact va_iald G.1 G.2.1 Q.1.1 hW.2 (a - 1) 0 (by rw [wl_get ha1 ha2, ent_int hL]) (tys_at (by omega)) (inb_vp hi) hd (kk r hr H locs ls hW hS hl)
theorem s_zald (G : Gd x cc nL own) (Q : Ge x g) {a n : Nat} {i : Int32} (hd : decode cc pc = .ok (.baload, 1)) (hL : gL g a = (22, n)) (hi : inb i n = true)
    (kk : Sn x nL (gA g) cs ζ (gW g h) (pc + 1) lv (.int (gi h a i.toNatClampNeg) :: st) E) : Sn x nL (gA g) cs ζ (gW g h) pc lv (.int i :: .ref (gB g + a) :: st) E := by
  intro r hr H locs ls hW hS hl
  obtain ⟨ha1, ha2⟩ := Q.2 a (by rw [hL]; exact Nat.succ_ne_zero _)
  exact va_zald G.1 G.2.1 Q.1.1 hW.2 (a - 1) 2 (by rw [wl_get ha1 ha2, ent_bool hL]) (tys_at (by omega)) (inb_vp hi) hd (kk r hr H locs ls hW hS hl)
theorem s_lald (G : Gd x cc nL own) (Q : Ge x g) {a n : Nat} {i : Int32} (hd : decode cc pc = .ok (.laload, 1)) (hL : gL g a = (21, n)) (hi : inb i n = true)
    (kk : Sn x nL (gA g) cs ζ (gW g h) (pc + 1) lv (.long (gl h a i.toNatClampNeg) :: st) E) : Sn x nL (gA g) cs ζ (gW g h) pc lv (.int i :: .ref (gB g + a) :: st) E := by
  intro r hr H locs ls hW hS hl
  obtain ⟨ha1, ha2⟩ := Q.2 a (by rw [hL]; exact Nat.succ_ne_zero _)
  exact va_lald G.1 G.2.1 Q.1.1 hW.2 (a - 1) 1 (by rw [wl_get ha1 ha2, ent_long hL]) (tys_at (by omega)) (inb_vp hi) hd (kk r hr H locs ls hW hS hl)
theorem s_aald (G : Gd x cc nL own) (Q : Ge x g) {a n j : Nat} {i : Int32} (hd : decode cc pc = .ok (.aaload, 1)) (hj : j < 5) (hL : gL g a = (23 + j, n)) (hi : inb i n = true)
    (kk : Sn x nL (gA g) cs ζ (gW g h) (pc + 1) lv (rv (gB g) (gr h a i.toNatClampNeg) :: st) E) : Sn x nL (gA g) cs ζ (gW g h) pc lv (.int i :: .ref (gB g + a) :: st) E := by
  intro r hr H locs ls hW hS hl
  obtain ⟨ha1, ha2⟩ := Q.2 a (by rw [hL]; show 23 + j ≠ 0; omega)
  exact va_aldq (C := cN (acl j)) (f := fun k => ro (gB g) (gr h a k)) G.1 G.2.1 Q.1.1 hW.2 (a - 1) (3 + j) (by rw [wl_get ha1 ha2, ent_ref hL]) (by rw [tys_at (by omega)]; rw [show 3 + j = j + 3 by omega]; rfl) (inb_vp hi) hd (kk r hr H locs ls hW hS hl)
/-- an item that stands fast -/
theorem s_aaldS (G : Gd x cc nL own) (Q : Ge x g) {a n j v : Nat} {i : Int32} (hd : decode cc pc = .ok (.aaload, 1)) (hj : j < 5) (hL : gL g a = (23 + j, n)) (hi : inb i n = true) (hs : gS g a i.toNatClampNeg = some v) (hv : v ≠ 0)
    (kk : Sn x nL (gA g) cs ζ (gW g h) (pc + 1) lv (.ref (gB g + v) :: st) E) : Sn x nL (gA g) cs ζ (gW g h) pc lv (.int i :: .ref (gB g + a) :: st) E := by
  refine s_aald G Q hd hj hL hi ?_
  intro r hr H locs ls hW hS hl
  have hk := kk r hr H locs ls hW hS hl
  rw [hW.1 _ _ _ hs, rv_n _ hv]
  exact hk
theorem s_iast (G : Gd x cc nL own) (Q : Ge x g) {a n : Nat} {i v : Int32} {K : Hp → Option ρ} (hd : decode cc pc = .ok (.iastore, 1)) (hL : gL g a = (20, n)) (hi : inb i n = true)
    (kk : ∀ h', Sn x nL (gA g) cs ζ (gW g h') (pc + 1) lv st (K h')) : Sn x nL (gA g) cs ζ (gW g h) pc lv (.int v :: .int i :: .ref (gB g + a) :: st) (hb (si h a i.toNatClampNeg v) K) := by
  intro r hr H locs ls hW hS hl
  obtain ⟨hst, hP⟩ := hW
  obtain ⟨ha1, ha2⟩ := Q.2 a (by rw [hL]; exact Nat.succ_ne_zero _)
  refine va_iast G.1 G.2.1 Q.1.1 hP (wl_D (Nat.le_refl _)) hS (a - 1) 0 (by rw [wl_get ha1 ha2, ent_int hL]) (tys_at (by omega)) (inb_vp hi) hd (fun H1 locs1 hP1 hD1 hS1 => ?_)
  rw [wl_set ha1 ha2 (h' := si h a i.toNatClampNeg v) (by rw [ent_int hL, upd_gi]) ent_si] at hP1
  exact kk _ r hr H1 locs1 ls ⟨hst.si, hP1⟩ hS1 hl
theorem s_zast (G : Gd x cc nL own) (Q : Ge x g) {a n : Nat} {i v : Int32} {K : Hp → Option ρ} (hd : decode cc pc = .ok (.bastore, 1)) (hL : gL g a = (22, n)) (hi : inb i n = true) (hv : v = 0 ∨ v = 1)
    (kk : ∀ h', Sn x nL (gA g) cs ζ (gW g h') (pc + 1) lv st (K h')) : Sn x nL (gA g) cs ζ (gW g h) pc lv (.int v :: .int i :: .ref (gB g + a) :: st) (hb (si h a i.toNatClampNeg v) K) := by
  intro r hr H locs ls hW hS hl
  obtain ⟨hst, hP⟩ := hW
  obtain ⟨ha1, ha2⟩ := Q.2 a (by rw [hL]; exact Nat.succ_ne_zero _)
  refine va_zast G.1 G.2.1 Q.1.1 hP (wl_D (Nat.le_refl _)) hS (a - 1) 2 (by rw [wl_get ha1 ha2, ent_bool hL]) (tys_at (by omega)) (inb_vp hi) hd (fun H1 locs1 hP1 hD1 hS1 => ?_)
  have e : vp_nar .boolean v = v := by rcases hv with rfl | rfl <;> rfl
  rw [e, wl_set ha1 ha2 (h' := si h a i.toNatClampNeg v) (by rw [ent_bool hL, upd_gi]) ent_si] at hP1
  exact kk _ r hr H1 locs1 ls ⟨hst.si, hP1⟩ hS1 hl
theorem s_last (G : Gd x cc nL own) (Q : Ge x g) {a n : Nat} {i : Int32} {v : Int64} {K : Hp → Option ρ} (hd : decode cc pc = .ok (.lastore, 1)) (hL : gL g a = (21, n)) (hi : inb i n = true)
    (kk : ∀ h', Sn x nL (gA g) cs ζ (gW g h') (pc + 1) lv st (K h')) : Sn x nL (gA g) cs ζ (gW g h) pc lv (.long v :: .int i :: .ref (gB g + a) :: st) (hb (sl h a i.toNatClampNeg v) K) := by
  intro r hr H locs ls hW hS hl
  obtain ⟨hst, hP⟩ := hW
  obtain ⟨ha1, ha2⟩ := Q.2 a (by rw [hL]; exact Nat.succ_ne_zero _)
  refine va_last G.1 G.2.1 Q.1.1 hP (wl_D (Nat.le_refl _)) hS (a - 1) 1 (by rw [wl_get ha1 ha2, ent_long hL]) (tys_at (by omega)) (inb_vp hi) hd (fun H1 locs1 hP1 hD1 hS1 => ?_)
  rw [wl_set ha1 ha2 (h' := sl h a i.toNatClampNeg v) (by rw [ent_long hL, upd_gl]) ent_sl] at hP1
  exact kk _ r hr H1 locs1 ls ⟨hst.sl, hP1⟩ hS1 hl
theorem s_aast (G : Gd x cc nL own) (Q : Ge x g) {a n j v : Nat} {i : Int32} {K : Hp → Option ρ} (hd : decode cc pc = .ok (.aastore, 1)) (hj : j < 5) (hL : gL g a = (23 + j, n)) (hi : inb i n = true) (hv : gL g v = (acl j + 1, 0)) (hs : gS g a i.toNatClampNeg = none)
    (kk : ∀ h', Sn x nL (gA g) cs ζ (gW g h') (pc + 1) lv st (K h')) : Sn x nL (gA g) cs ζ (gW g h) pc lv (.ref (gB g + v) :: .int i :: .ref (gB g + a) :: st) (hb (sr h a i.toNatClampNeg v) K) := by
  intro r hr H locs ls hW hS hl
  obtain ⟨hst, hP⟩ := hW
  obtain ⟨ha1, ha2⟩ := Q.2 a (by rw [hL]; show 23 + j ≠ 0; omega)
  obtain ⟨hv1, hv2⟩ := Q.2 v (by rw [hv]; exact Nat.succ_ne_zero _)
  have hc : acl j < 10 := by
    rcases (show j = 0 ∨ j = 1 ∨ j = 2 ∨ j = 3 ∨ j = 4 by omega) with rfl | rfl | rfl | rfl | rfl <;> decide
  refine va_astq G.1 G.2.1 Q.1.1 hP (wl_D (Nat.le_refl _)) hS (a - 1) (3 + j) (v - 1) (acl j) (r := (cN (acl j), cT (acl j), cK (acl j))) (by rw [wl_get ha1 ha2, ent_ref hL]) (by rw [tys_at (by omega)]; rw [show 3 + j = j + 3 by omega]; rfl) (by rw [wl_get hv1 hv2, ent_obj hv hc]) (vw_at hc) (inb_vp hi) hd (fun H1 locs1 hP1 hD1 hS1 => ?_)
  rw [wl_set ha1 ha2 (h' := sr h a i.toNatClampNeg v) (by rw [ent_ref hL, upd_gr _ _ _ _ _ (show v ≠ 0 by omega)]) ent_sr] at hP1
  exact kk _ r hr H1 locs1 ls ⟨hst.sr hs, hP1⟩ hS1 hl
theorem s_alen (G : Gd x cc nL own) (Q : Ge x g) {a n : Nat} {v : Int32} (hd : decode cc pc = .ok (.arraylength, 1)) (hL : gL g a = (21, n)) (hv : Int32.ofNat n = v)
    (kk : Sn x nL (gA g) cs ζ (gW g h) (pc + 1) lv (.int v :: st) E) : Sn x nL (gA g) cs ζ (gW g h) pc lv (.ref (gB g + a) :: st) E := by
  intro r hr H locs ls hW hS hl
  obtain ⟨ha1, ha2⟩ := Q.2 a (by rw [hL]; exact Nat.succ_ne_zero _)
  exact va_alen G.1 G.2.1 Q.1.1 hW.2 (a - 1) 1 (x := (n, .inr (.inl (gl h a)))) (by rw [wl_get ha1 ha2, ent_long hL]) (tys_at (by omega)) hv hd (kk r hr H locs ls hW hS hl)
end SH
