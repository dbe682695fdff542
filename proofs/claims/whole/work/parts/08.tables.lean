theorem cat_int (v : Int32) : (Value.int v).category = 1 := rfl
theorem cat_long (v : Int64) : (Value.long v).category = 2 := rfl
theorem cat_ref (v : Nat) : (Value.ref v).category = 1 := rfl
def FU : Nat := 1200
abbrev WT : Type := Nat × ((Nat → ClassId) × (va_G × ((Nat → Nat) × ((Nat → Nat) × (Nat × (Nat × Option Nat))))))
theorem inb_lt {i : Int32} {n : Nat} (h : inb i n = true) : i.toNatClampNeg < n := Nat.not_le.mp fun q => (inb_vp h) (Or.inr q)
section SLC
variable {ρ : Type} {x : CT} {cc : ByteArray} {nL : Nat} {own : String} {A : Nat → Prop} {cs : Nat × Nat} {ζ : ρ → State → Prop} {Wd : Heap → Prop} {pc : Nat} {lv lv' : List (Nat × Value)} {st : List Value} {E : Option ρ}
theorem lgc (a b : Int64) : (lg_cmp a b = 0 ↔ a = b) ∧ (lg_cmp a b < 0 ↔ a < b) ∧ (0 ≤ lg_cmp a b ↔ b ≤ a) ∧ (0 < lg_cmp a b ↔ b < a) ∧ (lg_cmp a b ≤ 0 ↔ a ≤ b) := by
  refine ⟨?_, lg_cmp_lt a b, lg_cmp_ge a b, lg_cmp_gt a b, lg_cmp_le a b⟩
  constructor
  · intro h
    exact Int64.le_antisymm ((lg_cmp_le a b).mp (by rw [h]; decide)) ((lg_cmp_ge a b).mp (by rw [h]; decide))
  · rintro rfl
    have h1 := (lg_cmp_le a a).mpr (Int64.le_refl a)
    have h2 := (lg_cmp_ge a a).mpr (Int64.le_refl a)
    exact Int32.le_antisymm h1 h2
theorem s_lcmp_eq (G : Gd x cc nL own) {a b : Int64} {off : Int} {E1 E2 : Option ρ} (hd : decode cc pc = .ok (.lcmp, 1)) (hd2 : decode cc (pc + 1) = .ok (.ifCond .eq off, 3)) {tgt : Nat} (ht : ((pc + 1 : Nat) : Int) + off = (tgt : Int)) (k1 : a = b → Sn x nL A cs ζ Wd tgt lv st E1) (k2 : ¬ a = b → Sn x nL A cs ζ Wd (pc + 1 + 3) lv st E2) : Sn x nL A cs ζ Wd pc lv (.long b :: .long a :: st) (if a = b then E1 else E2) := by
  refine s_lcmp G hd ?_
  have e : (if a = b then E1 else E2) = (if lg_cmp a b = 0 then E1 else E2) := by simp only [(lgc a b).1]
  rw [e]
  exact s_if_eq G hd2 ht (fun h => k1 ((lgc a b).1.mp h)) (fun h => k2 (fun z => h ((lgc a b).1.mpr z)))
theorem s_lcmp_ne (G : Gd x cc nL own) {a b : Int64} {off : Int} {E1 E2 : Option ρ} (hd : decode cc pc = .ok (.lcmp, 1)) (hd2 : decode cc (pc + 1) = .ok (.ifCond .ne off, 3)) {tgt : Nat} (ht : ((pc + 1 : Nat) : Int) + off = (tgt : Int)) (k1 : a = b → Sn x nL A cs ζ Wd (pc + 1 + 3) lv st E1) (k2 : ¬ a = b → Sn x nL A cs ζ Wd tgt lv st E2) : Sn x nL A cs ζ Wd pc lv (.long b :: .long a :: st) (if a = b then E1 else E2) := by
  refine s_lcmp G hd ?_
  have e : (if a = b then E1 else E2) = (if lg_cmp a b = 0 then E1 else E2) := by simp only [(lgc a b).1]
  rw [e]
  exact s_if_ne G hd2 ht (fun h => k1 ((lgc a b).1.mp h)) (fun h => k2 (fun z => h ((lgc a b).1.mpr z)))
theorem s_lcmp_lt (G : Gd x cc nL own) {a b : Int64} {off : Int} {E1 E2 : Option ρ} (hd : decode cc pc = .ok (.lcmp, 1)) (hd2 : decode cc (pc + 1) = .ok (.ifCond .lt off, 3)) {tgt : Nat} (ht : ((pc + 1 : Nat) : Int) + off = (tgt : Int)) (k1 : a < b → Sn x nL A cs ζ Wd tgt lv st E1) (k2 : ¬ a < b → Sn x nL A cs ζ Wd (pc + 1 + 3) lv st E2) : Sn x nL A cs ζ Wd pc lv (.long b :: .long a :: st) (if a < b then E1 else E2) := by
  refine s_lcmp G hd ?_
  have e : (if a < b then E1 else E2) = (if lg_cmp a b < 0 then E1 else E2) := by simp only [(lgc a b).2.1]
  rw [e]
  exact s_if_lt G hd2 ht (fun h => k1 ((lgc a b).2.1.mp h)) (fun h => k2 (fun z => h ((lgc a b).2.1.mpr z)))
theorem s_lcmp_ge (G : Gd x cc nL own) {a b : Int64} {off : Int} {E1 E2 : Option ρ} (hd : decode cc pc = .ok (.lcmp, 1)) (hd2 : decode cc (pc + 1) = .ok (.ifCond .ge off, 3)) {tgt : Nat} (ht : ((pc + 1 : Nat) : Int) + off = (tgt : Int)) (k1 : b ≤ a → Sn x nL A cs ζ Wd tgt lv st E1) (k2 : ¬ b ≤ a → Sn x nL A cs ζ Wd (pc + 1 + 3) lv st E2) : Sn x nL A cs ζ Wd pc lv (.long b :: .long a :: st) (if b ≤ a then E1 else E2) := by
  refine s_lcmp G hd ?_
  have e : (if b ≤ a then E1 else E2) = (if 0 ≤ lg_cmp a b then E1 else E2) := by simp only [(lgc a b).2.2.1]
  rw [e]
  exact s_if_ge G hd2 ht (fun h => k1 ((lgc a b).2.2.1.mp h)) (fun h => k2 (fun z => h ((lgc a b).2.2.1.mpr z)))
theorem s_lcmp_gt (G : Gd x cc nL own) {a b : Int64} {off : Int} {E1 E2 : Option ρ} (hd : decode cc pc = .ok (.lcmp, 1)) (hd2 : decode cc (pc + 1) = .ok (.ifCond .gt off, 3)) {tgt : Nat} (ht : ((pc + 1 : Nat) : Int) + off = (tgt : Int)) (k1 : b < a → Sn x nL A cs ζ Wd tgt lv st E1) (k2 : ¬ b < a → Sn x nL A cs ζ Wd (pc + 1 + 3) lv st E2) : Sn x nL A cs ζ Wd pc lv (.long b :: .long a :: st) (if b < a then E1 else E2) := by
  refine s_lcmp G hd ?_
  have e : (if b < a then E1 else E2) = (if 0 < lg_cmp a b then E1 else E2) := by simp only [(lgc a b).2.2.2.1]
  rw [e]
  exact s_if_gt G hd2 ht (fun h => k1 ((lgc a b).2.2.2.1.mp h)) (fun h => k2 (fun z => h ((lgc a b).2.2.2.1.mpr z)))
theorem s_lcmp_le (G : Gd x cc nL own) {a b : Int64} {off : Int} {E1 E2 : Option ρ} (hd : decode cc pc = .ok (.lcmp, 1)) (hd2 : decode cc (pc + 1) = .ok (.ifCond .le off, 3)) {tgt : Nat} (ht : ((pc + 1 : Nat) : Int) + off = (tgt : Int)) (k1 : a ≤ b → Sn x nL A cs ζ Wd tgt lv st E1) (k2 : ¬ a ≤ b → Sn x nL A cs ζ Wd (pc + 1 + 3) lv st E2) : Sn x nL A cs ζ Wd pc lv (.long b :: .long a :: st) (if a ≤ b then E1 else E2) := by
  refine s_lcmp G hd ?_
  have e : (if a ≤ b then E1 else E2) = (if lg_cmp a b ≤ 0 then E1 else E2) := by simp only [(lgc a b).2.2.2.2]
  rw [e]
  exact s_if_le G hd2 ht (fun h => k1 ((lgc a b).2.2.2.2.mp h)) (fun h => k2 (fun z => h ((lgc a b).2.2.2.2.mpr z)))
theorem s_eq {st' : List Value} (h1 : lv = lv') (h2 : st = st') (kk : Sn x nL A cs ζ Wd pc lv' st' E) : Sn x nL A cs ζ Wd pc lv st E := by
  subst h1; subst h2; exact kk
theorem s_mmax (G : Gd x cc nL own) {d idx : Nat} (hR : Rm x d) (h1 : 1 ≤ d) {a b : Int32} (hd : decode cc pc = .ok (.invokestatic idx, 3)) (w1 : Cond.methodLink own idx Lib.Math.max.name ∈ GW) (w2 : Cond.static Lib.Math.max.name ∈ GW) (w3 : Cond.initialized "java/lang/Math" ∈ GW) (w4 : Cond.code Lib.Math.max.name Lib.Math.max.code 2 (some .int) ∈ GW) (hst : (st.map fun v => v.category).sum ≤ 8)
    (kk : Sn x nL A (0, 0) ζ Wd (pc + 3) lv (.int (if a < b then b else a) :: st) E) : Sn x nL A (0, 0) ζ Wd pc lv (.int b :: .int a :: st) E := by
  intro r hr H locs ls hW hS hl
  have hts := G.2.2.2.2.1
  exact va_mmax G.1 G.2.1 (G.2.2.1.trans hl.1.symm) G.2.2.2.1 (hts _ w1) (hts _ w2) (hts _ w3) (hts _ w4) (Nat.le_trans h1 hR.1) (by have := hR.2; omega) (Nat.zero_le _) (Nat.zero_le _) hd (kk r hr H locs ls hW hS hl)
end SLC
def layC : List (Nat × Nat) := [(0, 0), (9, 0), (20, 8), (20, 8), (26, 5), (23, 24), (23, 24), (24, 6), (27, 6), (5, 0), (20, 100), (3, 0), (25, 6), (25, 6), (25, 20), (23, 6), (20, 6), (1, 0), (6, 0), (1, 0), (6, 0), (1, 0), (6, 0), (1, 0), (6, 0), (1, 0), (6, 0), (1, 0), (6, 0), (1, 0), (6, 0), (6, 0), (6, 0), (6, 0), (6, 0), (6, 0), (6, 0), (6, 0), (6, 0), (6, 0), (6, 0), (6, 0), (6, 0), (6, 0), (6, 0), (6, 0), (6, 0), (6, 0), (6, 0), (6, 0), (3, 0), (25, 6), (25, 6), (25, 20), (23, 6), (20, 6), (1, 0), (6, 0), (1, 0), (6, 0), (1, 0), (6, 0), (1, 0), (6, 0), (1, 0), (6, 0), (1, 0), (6, 0), (1, 0), (6, 0), (6, 0), (6, 0), (6, 0), (6, 0), (6, 0), (6, 0), (6, 0), (6, 0), (6, 0), (6, 0), (6, 0), (6, 0), (6, 0), (6, 0), (6, 0), (6, 0), (6, 0), (6, 0), (6, 0), (2, 0), (20, 20), (7, 0), (7, 0), (7, 0), (7, 0), (7, 0), (1, 0), (1, 0), (1, 0), (1, 0), (1, 0), (1, 0), (1, 0), (1, 0), (1, 0), (1, 0), (1, 0), (1, 0), (1, 0), (1, 0), (1, 0), (1, 0), (1, 0), (1, 0), (1, 0), (1, 0), (1, 0), (1, 0), (1, 0), (1, 0), (1, 0), (1, 0), (1, 0), (1, 0), (1, 0), (1, 0), (1, 0), (1, 0), (1, 0), (1, 0), (1, 0), (1, 0), (1, 0), (1, 0), (1, 0), (1, 0), (1, 0), (1, 0), (1, 0), (1, 0), (1, 0), (1, 0), (1, 0), (1, 0), (4, 0), (20, 8), (20, 8), (20, 8), (20, 8), (20, 100), (4, 0), (20, 8), (20, 8), (20, 8), (20, 8), (20, 100), (4, 0), (20, 8), (20, 8), (20, 8), (20, 8), (20, 100), (4, 0), (20, 8), (20, 8), (20, 8), (20, 8), (20, 100), (4, 0), (20, 8), (20, 8), (20, 8), (20, 8), (20, 100), (4, 0), (20, 8), (20, 8), (20, 8), (20, 8), (20, 100), (8, 0), (21, 60), (8, 0), (21, 60), (8, 0), (21, 60), (8, 0), (21, 60), (8, 0), (21, 60), (8, 0), (21, 60)]
def LC (a : Nat) : Nat × Nat := layC.getD a (0, 0)
def sttC : List (List Nat) := [[], [2, 3, 4, 5, 6, 7, 8, 9, 11, 50, 89, 0, 0, 0, 0, 0], [], [], [91, 92, 93, 94, 95], [96, 98, 100, 102, 104, 106, 108, 110, 112, 114, 116, 118, 120, 122, 124, 126, 128, 130, 132, 134, 136, 138, 140, 142], [97, 99, 101, 103, 105, 107, 109, 111, 113, 115, 117, 119, 121, 123, 125, 127, 129, 131, 133, 135, 137, 139, 141, 143], [144, 150, 156, 162, 168, 174], [180, 182, 184, 186, 188, 190], [10, 0, 0, 0], [], [12, 13, 14, 15, 16, 17, 0, 0, 0, 0, 0, 0, 0, 0], [], [18, 20, 22, 24, 26, 28], [30, 31, 32, 33, 34, 35, 36, 37, 38, 39, 40, 41, 42, 43, 44, 45, 46, 47, 48, 49], [19, 21, 23, 25, 27, 29], [], [], [], [], [], [], [], [], [], [], [], [], [], [], [], [], [], [], [], [], [], [], [], [], [], [], [], [], [], [], [], [], [], [], [51, 52, 53, 54, 55, 56, 0, 0, 0, 0, 0, 0, 0, 0], [], [57, 59, 61, 63, 65, 67], [69, 70, 71, 72, 73, 74, 75, 76, 77, 78, 79, 80, 81, 82, 83, 84, 85, 86, 87, 88], [58, 60, 62, 64, 66, 68], [], [], [], [], [], [], [], [], [], [], [], [], [], [], [], [], [], [], [], [], [], [], [], [], [], [], [], [], [], [], [], [], [], [], [90, 0, 0, 0], [], [], [], [], [], [], [], [], [], [], [], [], [], [], [], [], [], [], [], [], [], [], [], [], [], [], [], [], [], [], [], [], [], [], [], [], [], [], [], [], [], [], [], [], [], [], [], [], [], [], [], [], [], [], [145, 146, 147, 148, 149, 0, 0, 0, 0, 0, 0, 0], [], [], [], [], [], [151, 152, 153, 154, 155, 0, 0, 0, 0, 0, 0, 0], [], [], [], [], [], [157, 158, 159, 160, 161, 0, 0, 0, 0, 0, 0, 0], [], [], [], [], [], [163, 164, 165, 166, 167, 0, 0, 0, 0, 0, 0, 0], [], [], [], [], [], [169, 170, 171, 172, 173, 0, 0, 0, 0, 0, 0, 0], [], [], [], [], [], [175, 176, 177, 178, 179, 0, 0, 0, 0, 0, 0, 0], [], [], [], [], [], [181, 0, 0], [], [183, 0, 0], [], [185, 0, 0], [], [187, 0, 0], [], [189, 0, 0], [], [191, 0, 0], []]
def SC (a k : Nat) : Option Nat := if (sttC.getD a []).getD k 0 = 0 then none else some ((sttC.getD a []).getD k 0)
theorem layC_lt {a : Nat} (h : (LC a).1 ≠ 0) : a < 192 := by
  rcases Nat.lt_or_ge a 192 with q | q
  · exact q
  · exact absurd (show (layC.getD a (0, 0)).1 = 0 by rw [List.getD_eq_getElem?_getD, List.getElem?_eq_none (show layC.length ≤ a from q)]; rfl) h
def GC (w : WT) : GT := (w.1, w.2.1, w.2.2.1, LC, 191, SC, w.2.2.2)
theorem lokC (w : WT) : Lok (GC w) := by
  intro a ha
  have hl : a < 192 := layC_lt ha
  refine ⟨Nat.pos_of_ne_zero (fun h0 => ha (by rw [h0]; rfl)), Nat.le_of_lt_succ hl⟩
def kC (c r : Nat) : Bool := decide (LC r = (c + 1, 0))
theorem kC_of {c r : Nat} (h : kC c r = true) : LC r = (c + 1, 0) := of_decide_eq_true h
theorem nzC {c r z : Nat} (h : LC r = (c + 1, z)) : r ≠ 0 := by
  rintro rfl
  exact absurd (congrArg Prod.fst h) (by show (0 : Nat) ≠ c + 1; omega)
def layM : List (Nat × Nat) := [(0, 0), (10, 0), (20, 8), (20, 5), (20, 5), (20, 5), (20, 240), (20, 100), (20, 6), (20, 48), (20, 48), (20, 48), (20, 48), (20, 6), (20, 6), (20, 6), (20, 6), (20, 6), (20, 600), (20, 101), (22, 100), (20, 24), (20, 24), (20, 240), (20, 8), (20, 20), (20, 6), (20, 6), (21, 360), (21, 60)]
def LM (a : Nat) : Nat × Nat := layM.getD a (0, 0)
def sttM : List (List Nat) := [[], [0, 0, 2, 3, 4, 5, 6, 0, 0, 0, 7, 8, 9, 10, 11, 12, 13, 14, 15, 16, 17, 18, 0, 0, 19, 0, 0, 20, 0, 21, 22, 0, 0, 0, 23, 24, 0, 0, 25, 26, 27, 28, 29], [], [], [], [], [], [], [], [], [], [], [], [], [], [], [], [], [], [], [], [], [], [], [], [], [], [], [], []]
def SM (a k : Nat) : Option Nat := if (sttM.getD a []).getD k 0 = 0 then none else some ((sttM.getD a []).getD k 0)
theorem layM_lt {a : Nat} (h : (LM a).1 ≠ 0) : a < 30 := by
  rcases Nat.lt_or_ge a 30 with q | q
  · exact q
  · exact absurd (show (layM.getD a (0, 0)).1 = 0 by rw [List.getD_eq_getElem?_getD, List.getElem?_eq_none (show layM.length ≤ a from q)]; rfl) h
def GM (w : WT) : GT := (w.1, w.2.1, w.2.2.1, LM, 29, SM, w.2.2.2)
theorem lokM (w : WT) : Lok (GM w) := by
  intro a ha
  have hl : a < 30 := layM_lt ha
  refine ⟨Nat.pos_of_ne_zero (fun h0 => ha (by rw [h0]; rfl)), Nat.le_of_lt_succ hl⟩
def kM (c r : Nat) : Bool := decide (LM r = (c + 1, 0))
theorem kM_of {c r : Nat} (h : kM c r = true) : LM r = (c + 1, 0) := of_decide_eq_true h
theorem nzM {c r z : Nat} (h : LM r = (c + 1, z)) : r ≠ 0 := by
  rintro rfl
  exact absurd (congrArg Prod.fst h) (by show (0 : Nat) ≠ c + 1; omega)
