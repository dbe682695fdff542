/-! ===== the abstract heap of a system whose cells lie at known places ===== -/
abbrev Hp : Type := (Nat → Nat → Int32) × ((Nat → Nat → Int64) × (Nat → Nat → Nat))
def gi (h : Hp) (a k : Nat) : Int32 := h.1 a k
def gl (h : Hp) (a k : Nat) : Int64 := h.2.1 a k
def gr (h : Hp) (a k : Nat) : Nat := h.2.2 a k
def u2 {α : Type} (f : Nat → Nat → α) (a k : Nat) (v : α) : Nat → Nat → α := fun b j => if b = a ∧ j = k then v else f b j
def si (h : Hp) (a k : Nat) (v : Int32) : Hp := (u2 h.1 a k v, h.2)
def sl (h : Hp) (a k : Nat) (v : Int64) : Hp := (h.1, u2 h.2.1 a k v, h.2.2)
def sr (h : Hp) (a k : Nat) (v : Nat) : Hp := (h.1, h.2.1, u2 h.2.2 a k v)
theorem u2_self {α : Type} (f : Nat → Nat → α) (a k : Nat) (v : α) : u2 f a k v a k = v := by simp [u2]
theorem u2_ne {α : Type} (f : Nat → Nat → α) {a k b j : Nat} (v : α) (h : ¬ (b = a ∧ j = k)) : u2 f a k v b j = f b j := by simp [u2, h]
theorem u2_na {α : Type} (f : Nat → Nat → α) {a k b : Nat} (v : α) (h : b ≠ a) : u2 f a k v b = f b := by funext j; simp [u2, h]
def ro (B r : Nat) : Option Nat := if r = 0 then none else some (B + r)
def rv (B r : Nat) : Value := va_rf (ro B r)
theorem rv_0 (B : Nat) : rv B 0 = .null := rfl
theorem rv_n (B : Nat) {r : Nat} (h : r ≠ 0) : rv B r = .ref (B + r) := by simp [rv, ro, h, va_rf]
theorem vrf_cat (o : Option Nat) : (va_rf o).category = 1 := by cases o <;> rfl
theorem rv_cat (B r : Nat) : (rv B r).category = 1 := by
  by_cases h : r = 0
  · subst h; rfl
  · rw [rv_n B h]; rfl
/-! classes by their numbers -/
def cN : Nat → String := fun c => match c with
  | 0 => RX0 | 1 => RX1 | 2 => RX2 | 3 => RX3 | 4 => RX4 | 5 => RX5 | 6 => RX6 | 7 => RX7 | 8 => RX8 | _ => RX9
def cT : Nat → u_T := fun c => match c with
  | 0 => TX0 | 1 => TX1 | 2 => TX2 | 3 => TX3 | 4 => TX4 | 5 => TX5 | 6 => TX6 | 7 => TX7 | 8 => TX8 | _ => TX9
def cY : Nat → Nat → FieldType := fun c => match c with
  | 0 => tyX0 | 1 => tyX1 | 2 => tyX2 | 3 => tyX3 | 4 => tyX4 | 5 => tyX5 | 6 => tyX6 | 7 => tyX7 | 8 => tyX8 | _ => tyX9
def cK : Nat → Nat := fun c => match c with
  | 0 => 10 | 1 => 4 | 2 => 14 | 3 => 12 | 4 => 4 | 5 => 14 | 6 => 3 | 7 => 3 | 8 => 16 | _ => 43
theorem vw_at {c : Nat} (h : c < 10) : vwCl[c]? = some (cN c, cT c, cK c) := by
  rcases (show c = 0 ∨ c = 1 ∨ c = 2 ∨ c = 3 ∨ c = 4 ∨ c = 5 ∨ c = 6 ∨ c = 7 ∨ c = 8 ∨ c = 9 by omega) with rfl | rfl | rfl | rfl | rfl | rfl | rfl | rfl | rfl | rfl <;> rfl
theorem cY_ok {c : Nat} (h : c < 10) : ∀ k, k < cK c → parseFieldDescriptor (cT c k).2.2.1 = some (cY c k) := by
  rcases (show c = 0 ∨ c = 1 ∨ c = 2 ∨ c = 3 ∨ c = 4 ∨ c = 5 ∨ c = 6 ∨ c = 7 ∨ c = 8 ∨ c = 9 by omega) with rfl | rfl | rfl | rfl | rfl | rfl | rfl | rfl | rfl | rfl
  · exact tyX0_ok
  · exact tyX1_ok
  · exact tyX2_ok
  · exact tyX3_ok
  · exact tyX4_ok
  · exact tyX5_ok
  · exact tyX6_ok
  · exact tyX7_ok
  · exact tyX8_ok
  · exact tyX9_ok
theorem cT_nm {c : Nat} (h : c < 10) : ∀ a, a < cK c → ∀ b, b < cK c → a ≠ b → (cT c a).2.1 ≠ (cT c b).2.1 := by
  rcases (show c = 0 ∨ c = 1 ∨ c = 2 ∨ c = 3 ∨ c = 4 ∨ c = 5 ∨ c = 6 ∨ c = 7 ∨ c = 8 ∨ c = 9 by omega) with rfl | rfl | rfl | rfl | rfl | rfl | rfl | rfl | rfl | rfl
  · exact nmX0
  · exact nmX1
  · exact nmX2
  · exact nmX3
  · exact nmX4
  · exact nmX5
  · exact nmX6
  · exact nmX7
  · exact nmX8
  · exact nmX9
def GW : List Cond := lw_tbl.filter goodWord
theorem gw_in {w : Cond} (h : w ∈ lw_tbl) (h2 : goodWord w = true) : w ∈ GW := List.mem_filter.mpr ⟨h, h2⟩
theorem gw_at {w : Cond} (i : Nat) (h : lw_tbl[i]? = some w) (h2 : goodWord w = true) : w ∈ GW := gw_in (List.mem_of_getElem? h) h2
theorem gw_good : GoodIn lw_tbl GW := fun w hw => ⟨(List.mem_filter.mp hw).1, good_of_word (List.mem_filter.mp hw).2⟩
theorem gw_goodW {w : Cond} (h : w ∈ GW) : (w.onTables && w.keeps) = true ∨ ∃ ty, w = .arrayClass ty := good_of_word (List.mem_filter.mp h).2
theorem cw_in {c : Nat} (h : c < 10) : ∀ w ∈ u_ws (cN c) (cT c) (cK c), w ∈ GW := by
  have key : ∀ c, c < 10 → ∀ w ∈ u_ws (cN c) (cT c) (cK c), w ∈ lw_tbl ∧ goodWord w = true := by decide +kernel
  exact fun w hw => gw_in (key c h w hw).1 (key c h w hw).2
def fty : FieldType → Nat := fun t => match t with | .long => 1 | .object _ => 2 | .array _ => 2 | _ => 0
def fv (B c : Nat) (h : Hp) (a k : Nat) : Value := match fty (cY c k) with | 0 => .int (gi h a k) | 1 => .long (gl h a k) | _ => rv B (gr h a k)
def acl : Nat → Nat := fun j => match j with | 0 => 0 | 1 => 3 | 2 => 5 | 3 => 6 | _ => 7
def aty : Nat → FieldType := fun t => match t with | 0 => .int | 1 => .long | 2 => .boolean | t + 3 => .object (cN (acl t))
/-- base, array classes, the classes' numbers and slots, the layout (kind, length), how many cells, which references stand fast, strings and static arrays of the classes -/
abbrev GT : Type := Nat × ((Nat → ClassId) × (va_G × ((Nat → Nat × Nat) × (Nat × ((Nat → Nat → Option Nat) × ((Nat → Nat) × ((Nat → Nat) × (Nat × (Nat × Option Nat)))))))))
def gB (g : GT) : Nat := g.1
def gcy (g : GT) : Nat → ClassId := g.2.1
def gD (g : GT) : va_G := g.2.2.1
def gL (g : GT) : Nat → Nat × Nat := g.2.2.2.1
def gN (g : GT) : Nat := g.2.2.2.2.1
def gS (g : GT) : Nat → Nat → Option Nat := g.2.2.2.2.2.1
def gK (g : GT) : Nat → Nat := g.2.2.2.2.2.2.1
def gV (g : GT) : Nat → Nat := g.2.2.2.2.2.2.2.1
def gTb (g : GT) : Nat := g.2.2.2.2.2.2.2.2.1
def gTa (g : GT) : Nat := g.2.2.2.2.2.2.2.2.2.1
def gTf (g : GT) : Option Nat := g.2.2.2.2.2.2.2.2.2.2
def ent (g : GT) (h : Hp) (a : Nat) : va_E :=
  if (gL g a).1 < 20 then .inr ((gL g a).1 - 1, (List.range (cK ((gL g a).1 - 1))).map (fv (gB g) ((gL g a).1 - 1) h a))
  else if (gL g a).1 = 21 then .inl (gcy g 1, (gL g a).2, .inr (.inl (gl h a)))
  else if (gL g a).1 ≤ 22 then .inl (gcy g ((gL g a).1 - 20), (gL g a).2, .inl (gi h a))
  else .inl (gcy g ((gL g a).1 - 20), (gL g a).2, .inr (.inr (.inr (.inr (fun j => ro (gB g) (gr h a j))))))
theorem ent_obj {g : GT} {h : Hp} {a c z : Nat} (hL : gL g a = (c + 1, z)) (hc : c < 10) : ent g h a = .inr (c, (List.range (cK c)).map (fv (gB g) c h a)) := by
  unfold ent
  rw [hL, if_pos (show c + 1 < 20 by omega)]
  rfl
theorem ent_int {g : GT} {h : Hp} {a n : Nat} (hL : gL g a = (20, n)) : ent g h a = .inl (gcy g 0, n, .inl (gi h a)) := by
  unfold ent; rw [hL]; rfl
theorem ent_bool {g : GT} {h : Hp} {a n : Nat} (hL : gL g a = (22, n)) : ent g h a = .inl (gcy g 2, n, .inl (gi h a)) := by
  unfold ent; rw [hL]; rfl
theorem ent_long {g : GT} {h : Hp} {a n : Nat} (hL : gL g a = (21, n)) : ent g h a = .inl (gcy g 1, n, .inr (.inl (gl h a))) := by
  unfold ent; rw [hL]; rfl
theorem ent_ref {g : GT} {h : Hp} {a j n : Nat} (hL : gL g a = (23 + j, n)) : ent g h a = .inl (gcy g (3 + j), n, .inr (.inr (.inr (.inr (fun k => ro (gB g) (gr h a k)))))) := by
  unfold ent
  rw [hL, if_neg (show ¬ 23 + j < 20 by omega), if_neg (show ¬ 23 + j = 21 by omega), if_neg (show ¬ 23 + j ≤ 22 by omega), show 23 + j - 20 = 3 + j by omega]
def wl (g : GT) (h : Hp) (n : Nat) : va_W := (List.range n).map (fun j => (gB g + (j + 1), ent g h (j + 1)))
theorem wl_get {g : GT} {h : Hp} {n a : Nat} (h1 : 1 ≤ a) (h2 : a ≤ n) : (wl g h n)[a - 1]? = some (gB g + a, ent g h a) := by
  unfold wl
  rw [List.getElem?_map, List.getElem?_range (by omega)]
  simp only [Option.map_some]
  rw [show a - 1 + 1 = a by omega]
theorem wl_len {g : GT} {h : Hp} {n : Nat} : (wl g h n).length = n := by simp [wl]
theorem wl_at {g : GT} {h : Hp} {n k : Nat} {q : Nat × va_E} (hk : (wl g h n)[k]? = some q) : k < n ∧ q = (gB g + (k + 1), ent g h (k + 1)) := by
  have hl : k < n := by
    have := (List.getElem?_eq_some_iff.mp hk).1
    rwa [wl_len] at this
  have := wl_get (g := g) (h := h) (n := n) (a := k + 1) (by omega) (by omega)
  rw [show k + 1 - 1 = k by omega, hk] at this
  exact ⟨hl, Option.some.inj this⟩
theorem wl_set {g : GT} {h h' : Hp} {n a : Nat} {e : va_E} (h1 : 1 ≤ a) (h2 : a ≤ n) (he : e = ent g h' a) (ho : ∀ b, b ≠ a → ent g h' b = ent g h b) : (wl g h n).set (a - 1) (gB g + a, e) = wl g h' n := by
  subst he
  apply List.ext_getElem?
  intro k
  by_cases hk : k < n
  · rw [List.getElem?_set]
    by_cases hka : a - 1 = k
    · subst hka
      rw [if_pos rfl, wl_len, if_pos (by omega), wl_get h1 h2]
    · rw [if_neg hka]
      have e1 := wl_get (g := g) (h := h) (n := n) (a := k + 1) (by omega) (by omega)
      have e2 := wl_get (g := g) (h := h') (n := n) (a := k + 1) (by omega) (by omega)
      rw [show k + 1 - 1 = k by omega] at e1 e2
      rw [e1, e2, ho (k + 1) (by omega)]
  · rw [List.getElem?_eq_none (by rw [List.length_set, wl_len]; omega), List.getElem?_eq_none (by rw [wl_len]; omega)]
theorem wl_push {g : GT} {h h' : Hp} {n : Nat} {e : va_E} {q : Nat} (hq : q = gB g + (n + 1)) (he : e = ent g h' (n + 1)) (ho : ∀ b, b ≠ n + 1 → ent g h' b = ent g h b) : wl g h n ++ [(q, e)] = wl g h' (n + 1) := by
  subst hq; subst he
  unfold wl
  rw [List.range_succ, List.map_append]
  congr 1
  apply List.map_congr_left
  intro j hj
  have := List.mem_range.mp hj
  rw [ho (j + 1) (by omega)]
def gA (g : GT) : Nat → Prop := fun q => gB g < q ∧ q ≤ gB g + gN g
theorem wl_D {g : GT} {h : Hp} {n : Nat} (hn : n ≤ gN g) : va_D (gA g) (wl g h n) := by
  refine ⟨fun i j p q hp hq hpq => ?_, fun k q hk => ?_⟩
  · obtain ⟨-, rfl⟩ := wl_at hp
    obtain ⟨-, rfl⟩ := wl_at hq
    have : gB g + (i + 1) = gB g + (j + 1) := hpq
    omega
  · obtain ⟨hl, rfl⟩ := wl_at hk
    exact ⟨by show gB g < gB g + (k + 1); omega, by show gB g + (k + 1) ≤ _; omega⟩
theorem ent_si {g : GT} {h : Hp} {a k : Nat} {v : Int32} : ∀ b, b ≠ a → ent g (si h a k v) b = ent g h b := by
  intro b hb
  have e1 : gi (si h a k v) b = gi h b := u2_na _ _ hb
  have e2 : ∀ c, fv (gB g) c (si h a k v) b = fv (gB g) c h b := by
    intro c; funext j
    show (match fty (cY c j) with | 0 => Value.int (gi (si h a k v) b j) | 1 => .long (gl h b j) | _ => rv (gB g) (gr h b j)) = _
    rw [e1]; rfl
  unfold ent
  rw [e1, e2]
  rfl
theorem ent_sl {g : GT} {h : Hp} {a k : Nat} {v : Int64} : ∀ b, b ≠ a → ent g (sl h a k v) b = ent g h b := by
  intro b hb
  have e1 : gl (sl h a k v) b = gl h b := u2_na _ _ hb
  have e2 : ∀ c, fv (gB g) c (sl h a k v) b = fv (gB g) c h b := by
    intro c; funext j
    show (match fty (cY c j) with | 0 => Value.int (gi h b j) | 1 => .long (gl (sl h a k v) b j) | _ => rv (gB g) (gr h b j)) = _
    rw [e1]; rfl
  unfold ent
  rw [e1, e2]
  rfl
theorem ent_sr {g : GT} {h : Hp} {a k v : Nat} : ∀ b, b ≠ a → ent g (sr h a k v) b = ent g h b := by
  intro b hb
  have e1 : gr (sr h a k v) b = gr h b := u2_na _ _ hb
  have e2 : ∀ c, fv (gB g) c (sr h a k v) b = fv (gB g) c h b := by
    intro c; funext j
    show (match fty (cY c j) with | 0 => Value.int (gi h b j) | 1 => .long (gl h b j) | _ => rv (gB g) (gr (sr h a k v) b j)) = _
    rw [e1]; rfl
  unfold ent
  rw [e1, e2]
  rfl
theorem fl_set {B c : Nat} {h h' : Hp} {a k n : Nat} {v : Value} (hk : k < n) (hv : fv B c h' a k = v) (ho : ∀ j, j ≠ k → fv B c h' a j = fv B c h a j) : ((List.range n).map (fv B c h a)).set k v = (List.range n).map (fv B c h' a) := by
  subst hv
  apply List.ext_getElem?
  intro j
  rw [List.getElem?_set]
  by_cases hj : k = j
  · subst hj
    rw [if_pos rfl]
    simp [hk]
  · rw [if_neg hj]
    by_cases hjn : j < n
    · simp [hjn, ho j (fun q => hj q.symm)]
    · simp [hjn]
theorem fl_get {B c : Nat} {h : Hp} {a k n : Nat} (hk : k < n) : ((List.range n).map (fv B c h a))[k]? = some (fv B c h a k) := by
  rw [List.getElem?_map, List.getElem?_range hk]; rfl
theorem fv_si {B c : Nat} {h : Hp} {a k : Nat} {v : Int32} : ∀ j, j ≠ k → fv B c (si h a k v) a j = fv B c h a j := by
  intro j hj
  have e1 : gi (si h a k v) a j = gi h a j := u2_ne _ _ (fun q => hj q.2)
  show (match fty (cY c j) with | 0 => Value.int (gi (si h a k v) a j) | 1 => .long (gl h a j) | _ => rv B (gr h a j)) = _
  rw [e1]; rfl
theorem fv_sl {B c : Nat} {h : Hp} {a k : Nat} {v : Int64} : ∀ j, j ≠ k → fv B c (sl h a k v) a j = fv B c h a j := by
  intro j hj
  have e1 : gl (sl h a k v) a j = gl h a j := u2_ne _ _ (fun q => hj q.2)
  show (match fty (cY c j) with | 0 => Value.int (gi h a j) | 1 => .long (gl (sl h a k v) a j) | _ => rv B (gr h a j)) = _
  rw [e1]; rfl
theorem fv_sr {B c : Nat} {h : Hp} {a k v : Nat} : ∀ j, j ≠ k → fv B c (sr h a k v) a j = fv B c h a j := by
  intro j hj
  have e1 : gr (sr h a k v) a j = gr h a j := u2_ne _ _ (fun q => hj q.2)
  show (match fty (cY c j) with | 0 => Value.int (gi h a j) | 1 => .long (gl h a j) | _ => rv B (gr (sr h a k v) a j)) = _
  rw [e1]; rfl
theorem fv_int {B c : Nat} {h : Hp} {a k : Nat} (ht : fty (cY c k) = 0) : fv B c h a k = .int (gi h a k) := by simp only [fv, ht]
theorem fv_long {B c : Nat} {h : Hp} {a k : Nat} (ht : fty (cY c k) = 1) : fv B c h a k = .long (gl h a k) := by simp only [fv, ht]
theorem fv_ref {B c : Nat} {h : Hp} {a k : Nat} (ht : fty (cY c k) = 2) : fv B c h a k = rv B (gr h a k) := by simp only [fv, ht]
def StatOK (g : GT) (h : Hp) : Prop := ∀ a k r, gS g a k = some r → gr h a k = r
theorem StatOK.si {g : GT} {h : Hp} {a k : Nat} {v : Int32} (q : StatOK g h) : StatOK g (si h a k v) := q
theorem StatOK.sl {g : GT} {h : Hp} {a k : Nat} {v : Int64} (q : StatOK g h) : StatOK g (sl h a k v) := q
theorem StatOK.sr {g : GT} {h : Hp} {a k v : Nat} (q : StatOK g h) (hs : gS g a k = none) : StatOK g (sr h a k v) := by
  intro b j r hr
  show u2 h.2.2 a k v b j = r
  rw [u2_ne]
  · exact q b j r hr
  · rintro ⟨rfl, rfl⟩
    rw [hs] at hr
    cases hr
def gW (g : GT) (h : Hp) (H : Heap) : Prop := StatOK g h ∧ va_P (gD g) vwCl (wl g h (gN g)) H
