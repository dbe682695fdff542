/-! ===== pure: rows of answers ===== -/
/-- heaps of the reference that count alike -/
def EqG (g1 g2 : Hp) : Prop := E6 g1 g2 ∧ gi g2 1 1 = gi g1 1 1 ∧ gi g2 2 = gi g1 2 ∧ gi g2 3 = gi g1 3 ∧ gi g2 4 = gi g1 4 ∧ ∀ c k, k < 10 → gi g2 6 (10 * c + k) = gi g1 6 (10 * c + k)
theorem EqG.row {g1 g2 : Hp} (E : EqG g1 g2) (c : Nat) : ∀ k, k < 10 → rowS g2 c k = rowS g1 c k := fun k hk => E.2.2.2.2.2 c k hk
theorem EqG.x {g1 g2 : Hp} (E : EqG g1 g2) (c : Nat) : gi g2 6 (10 * c) = gi g1 6 (10 * c) := E.2.2.2.2.2 c 0 (by decide)
theorem EqG.qd {g1 g2 : Hp} (E : EqG g1 g2) (c : Nat) : qD g2 c = qD g1 c := by
  unfold qD; rw [E.x, E.2.2.1, E.2.2.2.2.1]
theorem EqG.qp {g1 g2 : Hp} (E : EqG g1 g2) (c : Nat) : qP g2 c = qP g1 c := by
  unfold qP; rw [E.x, E.2.2.1, E.2.2.2.1]
theorem EqG.ls {g1 g2 : Hp} (E : EqG g1 g2) (x : Int32) : LsS g2 x = LsS g1 x := by
  unfold LsS; rw [E.2.1]; exact clF_congr _ _ (fun d _ _ => E.x d)
theorem onto_cg {g1 g2 : Hp} {l c : Nat} (E : EqG g1 g2) : ontoB g2 l (rowS g2 c) (qD g2 c) (qP g2 c) = ontoB g1 l (rowS g1 c) (qD g1 c) (qP g1 c) := by
  unfold ontoB
  rw [due_cg E.1 (E.row c), E.qd, E.qp, E.1 10 (by decide) (by decide)]
  cases dueS g1 l (rowS g1 c) (qD g1 c) (qP g1 c) with
  | none => rfl
  | some k => dsimp only; rw [who_cg E.1 (E.row c)]
theorem ontoS_cg {g1 g2 : Hp} {l : Nat} {x : Int32} (E : EqG g1 g2) : ontoS g2 l x = ontoS g1 l x := by
  unfold ontoS
  rw [E.2.1]
  exact fiB_congr _ _ (fun c _ _ => by rw [E.x, onto_cg E])
theorem comes_cg {g1 g2 : Hp} {l c : Nat} (E : EqG g1 g2) : comesS g2 l c = comesS g1 l c := by
  rw [comes_alone, comes_alone, alone_cg E.1 (E.row c), ontoS_cg E, E.qd, E.qp, E.x]
theorem ok_cg {g1 g2 : Hp} {l c : Nat} (E : EqG g1 g2) : okS g2 l c = okS g1 l c := by
  unfold okS
  rw [due_cg E.1 (E.row c), E.qd, E.qp, ontoS_cg E, E.x]
  cases dueS g1 l (rowS g1 c) (qD g1 c) (qP g1 c) with
  | some k => rfl
  | none =>
    dsimp only
    cases ontoS g1 l (gi g1 6 (10 * c)) with
    | none => rfl
    | some c' => dsimp only; rw [due_cg E.1 (E.row c'), E.qd, E.qp]
theorem w_cg {g1 g2 : Hp} {l c : Nat} (E : EqG g1 g2) : wS g2 l c = wS g1 l c := by
  unfold wS
  rw [who_cg E.1 (E.row c), E.qd, E.qp, kind_cg E.1, ok_cg E]
theorem tru_cg {g1 g2 : Hp} {l c : Nat} (E : EqG g1 g2) : truF g2 l c = truF g1 l c := by
  unfold truF paidS swS canS goesS dcanS pcanS lineS
  rw [comes_cg E, w_cg E, kind_cg E.1, ok_cg E, some_cg E.1 (E.row c), some_cg E.1 (E.row c), E.qp, E.row c 1 (by decide), E.row c 3 (by decide), E.row c 9 (by decide), E.1 13 (by decide) (by decide), E.1 14 (by decide) (by decide), E.1 15 (by decide) (by decide), E.1 16 (by decide) (by decide)]
theorem sumL_cg {f f' : Nat → Int64} (e : ∀ c, f' c = f c) : ∀ (L : List Nat) (a : Int64), sumL f' a L = sumL f a L
  | [], _ => rfl
  | c :: L, a => by unfold sumL; rw [e c]; exact sumL_cg e L _
theorem sumN_cg {f f' : Nat → Nat} (e : ∀ c, f' c = f c) : ∀ (L : List Nat) (a : Nat), sumN f' a L = sumN f a L
  | [], _ => rfl
  | c :: L, a => by unfold sumN; rw [e c]; exact sumN_cg e L _
theorem GoM.of {ns nc nl : Nat} {g g' : Hp} (G : GoM ns nc nl g) (E : E6 g g') (e1 : gi g' 1 1 = gi g 1 1) (e0 : gi g' 1 0 = gi g 1 0) (e3 : gi g' 3 = gi g 3) (e4 : gi g' 4 = gi g 4) (e5 : gi g' 5 = gi g 5) (er : ∀ c, c < nc → RowOK ns (rowS g' c)) (ex : ∀ c, gi g' 6 (10 * c) = gi g 6 (10 * c)) : GoM ns nc nl g' := by
  obtain ⟨a1, a2, a3, a4, a5, a6, a7⟩ := G
  refine ⟨by rw [e1]; exact a1, by rw [e0]; exact a2, fun s hs => by rw [e3, e4, e5]; exact a3 s hs, er, fun x => ?_, a6, fun l hl => ?_⟩
  · rw [cntR_congr (g := gi g 6) nc (fun c _ => ex c)]; exact a5 x
  · obtain ⟨hC, L⟩ := a7 l hl
    exact ⟨hC, L.e6 E⟩
/-! one answer -/
def ansA (r : Nat → Int32) (w : Nat) : Int32 := if w = 1 then r 1 else if w = 2 then (if r 1 ≤ r 9 then r 1 else r 9) else if w = 3 then r 1 / 2 else 0
def ansR (r : Nat → Int32) (w : Nat) : Nat → Int32 := fun k => if k = 3 then ansA r w else if k = 4 then (if w = 4 then 0 else 1) else r k
theorem ansA_cg {r r' : Nat → Int32} (e1 : r' 1 = r 1) (e9 : r' 9 = r 9) (w : Nat) : ansA r' w = ansA r w := by
  unfold ansA; rw [e1, e9]
theorem ansR_ok {ns : Nat} {r : Nat → Int32} (h : RowOK ns r) (w : Nat) : RowOK ns (ansR r w) := by
  obtain ⟨s0, a, n, o, r3, r1, r9, z1, z2, z3, z4⟩ := h
  have A : ∃ a, a ≤ n ∧ ansA r w = nI a := by
    unfold ansA
    rw [r1, r9]
    split
    · exact ⟨n, Nat.le_refl _, rfl⟩
    · split
      · split
        · exact ⟨n, Nat.le_refl _, rfl⟩
        · rename_i q
          refine ⟨o, ?_, rfl⟩
          by_cases q2 : n ≤ o
          · exact absurd (nI_le q2 (by omega)) q
          · omega
      · split
        · exact ⟨n / 2, Nat.div_le_self _ _, by rw [show (2 : Int32) = nI 2 from rfl, pk_div (by omega) (by decide) (by decide)]⟩
        · exact ⟨0, Nat.zero_le _, rfl⟩
  obtain ⟨a', ha', ea⟩ := A
  exact ⟨s0, a', n, o, ea, r1, r9, ha', z2, z3, z4⟩
/-- the digit of a place, of j places -/
def dgR : Nat → Nat → Nat → Nat
  | 0, _, _ => 0
  | j + 1, v, i => if i = j then v % 5 else dgR j (v / 5) i
theorem dgR_lt : ∀ j v i, dgR j v i < 5
  | 0, _, _ => by unfold dgR; decide
  | j + 1, v, i => by
    unfold dgR
    split
    · exact Nat.mod_lt _ (by decide)
    · exact dgR_lt j _ i
/-! the reference's way of laying out -/
def ansM (h : Hp) (c w : Nat) : Hp := si (si h 6 (10 * c + 3) (ansA (rowS h c) w)) 6 (10 * c + 4) (if w = 4 then 0 else 1)
theorem ansM_o (h : Hp) (c w a : Nat) (ha : a ≠ 6) : gi (ansM h c w) a = gi h a := by
  unfold ansM
  rw [gi_si_na ha, gi_si_na ha]
theorem ansM_r (h : Hp) (c w d k : Nat) (hk : k < 10) : gi (ansM h c w) 6 (10 * d + k) = if d = c then ansR (rowS h c) w k else gi h 6 (10 * d + k) := by
  unfold ansM ansR
  by_cases e : d = c
  · subst e
    rw [if_pos rfl]
    by_cases k4 : k = 4
    · subst k4; rw [gi_si, if_neg (show ¬ (4 : Nat) = 3 by decide), if_pos rfl]
    · rw [gi_si_nk (by omega)]
      by_cases k3 : k = 3
      · subst k3; rw [gi_si, if_pos rfl]
      · rw [gi_si_nk (by omega), if_neg k3, if_neg k4]; rfl
  · rw [if_neg e, gi_si_nk (by omega), gi_si_nk (by omega)]
def layQ (L : List Nat) : Nat → Nat → Hp → Hp
  | 0, _, h => h
  | j + 1, v, h => layQ L j (v / 5) (ansM h (L.getD j 0) (v % 5))
theorem layQ_o (L : List Nat) : ∀ j v h a, a ≠ 6 → gi (layQ L j v h) a = gi h a
  | 0, _, _, _, _ => rfl
  | j + 1, v, h, a, ha => by
    unfold layQ
    rw [layQ_o L j _ _ a ha, ansM_o _ _ _ _ ha]
theorem layQ_l (L : List Nat) : ∀ j v h a, gl (layQ L j v h) a = gl h a
  | 0, _, _, _ => rfl
  | j + 1, v, h, a => by
    unfold layQ
    rw [layQ_l L j]; rfl
theorem layQ_n (L : List Nat) : ∀ j v h d k, (∀ i, i < j → d ≠ L.getD i 0) → k < 10 → gi (layQ L j v h) 6 (10 * d + k) = gi h 6 (10 * d + k)
  | 0, _, _, _, _, _, _ => rfl
  | j + 1, v, h, d, k, hd, hk => by
    unfold layQ
    rw [layQ_n L j _ _ d k (fun i hi => hd i (by omega)) hk, ansM_r _ _ _ _ _ hk, if_neg (hd j (by omega))]
theorem layQ_i (L : List Nat) (hn : L.Nodup) : ∀ j v h i k, i < j → j ≤ L.length → k < 10 → gi (layQ L j v h) 6 (10 * L.getD i 0 + k) = ansR (rowS h (L.getD i 0)) (dgR j v i) k
  | 0, _, _, _, _, hi, _, _ => absurd hi (Nat.not_lt_zero _)
  | j + 1, v, h, i, k, hi, hj, hk => by
    unfold layQ dgR
    by_cases e : i = j
    · subst e
      rw [if_pos rfl, layQ_n L i _ _ _ k (fun i' hi' q => by have := getD_inj hn (by omega) (by omega) q; omega) hk, ansM_r _ _ _ _ _ hk, if_pos rfl]
    · rw [if_neg e, layQ_i L hn j _ _ i k (by omega) (by omega) hk]
      have ne : L.getD i 0 ≠ L.getD j 0 := fun q => e (getD_inj hn (by omega) (by omega) q)
      have er : ∀ m, m < 10 → rowS (ansM h (L.getD j 0) (v % 5)) (L.getD i 0) m = rowS h (L.getD i 0) m := fun m hm => by
        show gi _ 6 _ = _
        rw [ansM_r _ _ _ _ _ hm, if_neg ne]; rfl
      unfold ansR
      rw [ansA_cg (er 1 (by decide)) (er 9 (by decide)), er k hk]
