def okS (g : Hp) (l c : Nat) : Option Nat := match dueS g l (rowS g c) (qD g c) (qP g c) with
  | some k => some k
  | none => match ontoS g l (gi g 6 (10 * c)) with | none => none | some c' => dueS g l (rowS g c') (qD g c') (qP g c')
theorem comes_cases (g : Hp) (l c : Nat) : (comesS g l c = 0 ∧ dueS g l (rowS g c) (qD g c) (qP g c) = none) ∨ (comesS g l c = 1 ∧ dueS g l (rowS g c) (qD g c) (qP g c) = none) ∨ (comesS g l c = 2 ∧ dueS g l (rowS g c) (qD g c) (qP g c) = none) ∨ (comesS g l c = 3 ∧ ∃ k, dueS g l (rowS g c) (qD g c) (qP g c) = some k) ∨ (comesS g l c = 4 ∧ dueS g l (rowS g c) (qD g c) (qP g c) = none ∧ ∃ c', ontoS g l (gi g 6 (10 * c)) = some c') ∨ (comesS g l c = 5 ∧ dueS g l (rowS g c) (qD g c) (qP g c) = none) := by
  unfold comesS
  by_cases h0 : rowS g c 1 - rowS g c 3 = 0
  · left; rw [if_pos h0]; exact ⟨rfl, by unfold dueS; rw [if_pos h0]⟩
  rw [if_neg h0]
  by_cases h1 : someS g l 0 (rowS g c) (qD g c) = true
  · right; left; rw [if_pos h1]
    refine ⟨rfl, ?_⟩
    unfold dueS; rw [if_neg h0]
    by_cases h2 : gi g 17 l ≤ rowS g c 1 - rowS g c 3
    · rw [if_pos h2, if_pos h1]
    · rw [if_neg h2]
  rw [if_neg h1]
  by_cases h3 : someS g l 1 (rowS g c) (qD g c) = true
  · right; right; left; rw [if_pos h3]
    refine ⟨rfl, ?_⟩
    unfold dueS; rw [if_neg h0]
    by_cases h2 : gi g 17 l ≤ rowS g c 1 - rowS g c 3
    · rw [if_pos h2, if_neg h1, if_pos h3]
    · rw [if_neg h2]
  rw [if_neg h3]
  right; right; right
  cases hd : dueS g l (rowS g c) (qD g c) (qP g c) with
  | some k => left; exact ⟨rfl, k, rfl⟩
  | none =>
    right
    by_cases h5 : someS g l 5 (rowS g c) (qD g c) = true
    · cases ho : ontoS g l (gi g 6 (10 * c)) with
      | some c' => left; exact ⟨by simp only [h5, if_pos], rfl, c', rfl⟩
      | none => right; exact ⟨by simp only [h5, if_pos], rfl⟩
    · right; exact ⟨by simp only [h5, if_false, Bool.false_eq_true], rfl⟩
theorem onto_due {g : Hp} {l : Nat} {r : Nat → Int32} {qd qp : Int32} (h : ontoB g l r qd qp = true) : ∃ k, dueS g l r qd qp = some k ∧ gi g 10 (8 * l + k) ≠ 6 ∧ whoS g l r qd qp (gi g 10 (8 * l + k)) = 0 := by
  unfold ontoB at h
  cases hd : dueS g l r qd qp with
  | none => rw [hd] at h; cases h
  | some k =>
    rw [hd] at h
    simp only [Bool.and_eq_true, Bool.not_eq_true', decide_eq_false_iff_not, decide_eq_true_eq] at h
    exact ⟨k, rfl, h.1, h.2⟩
/-- an oath's clause, where there is one -/
theorem ok_some {ns nc nl l c : Nat} {g : Hp} (G : GoM ns nc nl g) (hl : l < nl) (h : comesS g l c = 3 ∨ comesS g l c = 4) : ∃ k, okS g l c = some k ∧ k < 8 ∧ l < 6 := by
  rcases comes_cases g l c with ⟨e, -⟩ | ⟨e, -⟩ | ⟨e, -⟩ | ⟨e, k, hk⟩ | ⟨e, hn, c', hc'⟩ | ⟨e, -⟩
  · rw [e] at h; exact absurd h (by decide)
  · rw [e] at h; exact absurd h (by decide)
  · rw [e] at h; exact absurd h (by decide)
  · have := due_lt G hl hk
    exact ⟨k, by unfold okS; rw [hk], by omega, by omega⟩
  · obtain ⟨k, hk, -, -⟩ := onto_due (onto_lt G hc').2.2
    have := due_lt G hl hk
    refine ⟨k, ?_, by omega, by omega⟩
    unfold okS; rw [hn]; simp only [hc']; exact hk
  · rw [e] at h; exact absurd h (by decide)
theorem M_oathBy {z : Int32} {ns nc nl l c : Nat} {g h : Hp} (G : GoM ns nc nl g) (hc : c < nc) (hl : l < nl) (eq : EqK z g h) (hk : comesS g l c = 3 ∨ comesS g l c = 4) : ∃ h', m_X9_oathBy (nI l) (nI c) (comesS g l c) h = some (oI l (okS g l c), h') ∧ EqK z g h' := by
  have n24 := G.1.2
  unfold m_X9_oathBy
  rcases comes_cases g l c with ⟨e, -⟩ | ⟨e, -⟩ | ⟨e, -⟩ | ⟨e, k, hd⟩ | ⟨e, hn, c', hc'⟩ | ⟨e, -⟩
  · rw [e] at hk; exact absurd hk (by decide)
  · rw [e] at hk; exact absurd hk (by decide)
  · rw [e] at hk; exact absurd hk (by decide)
  · rw [e, if_pos rfl]
    obtain ⟨k1, p1, w1⟩ := M_due G hc hl eq
    rw [p1, cb_some]
    refine ⟨k1, ?_, w1⟩
    unfold okS; rw [hd]
  · rw [e, if_neg (by decide), M_g0 (by omega), cb_some, eq.i _ (by decide) (by decide)]
    simp only [Nat.add_zero]
    obtain ⟨k1, p1, w1⟩ := M_onto' (x := gi g 6 (10 * c)) G hl eq
    rw [p1, cb_some, hc', show cI (some c') = nI c' from rfl]
    obtain ⟨k2, p2, w2⟩ := M_due G (onto_lt G hc').1 hl w1
    rw [p2, cb_some]
    refine ⟨k2, ?_, w2⟩
    unfold okS; rw [hn]; simp only [hc']
  · rw [e] at hk; exact absurd hk (by decide)
def lineS (g : Hp) (l : Nat) : Int64 := (gi g 14 l).toInt64 * (gi g 16 l).toInt64
theorem M_line {z : Int32} {ns nc nl l : Nat} {g h : Hp} (G : GoM ns nc nl g) (hl : l < nl) (eq : EqK z g h) : m_X9_lineOf (nI l) h = some (lineS g l, h) := by
  have n6 := G.2.2.2.2.2.1
  unfold m_X9_lineOf lineS
  rw [ck_true _ (inb_nI (by omega) (by decide)), nI_clamp (by omega), eq.i l (by decide) (by decide), eq.i l (by decide) (by decide)]
/-- all that is paid for a claim: admitted, open, how it comes, who swears, whether he does, and whether the plaintiff does then -/
def paidF (line loseN loseD bothN bothD : Int64) (adm opn : Int32) (goes : Bool) (came who : Int32) (sw thn : Bool) : Int64 :=
  adm.toInt64 * line + (if came = 2 then opn.toInt64 * line else if came = 3 ∨ came = 4 then (if who = 2 then opn.toInt64 * bothN * loseD else if who = 1 then (if sw = true then opn.toInt64 * line else 0) else if sw = true then 0 else if goes = true then (if thn = true then opn.toInt64 * line else 0) else opn.toInt64 * loseN * bothD) else 0)
def goesS (g : Hp) (l : Nat) (r : Nat → Int32) (qp : Int32) : Bool := someS g l 4 r qp && !someS g l 3 r qp
def pcanS (r : Nat → Int32) : Bool := !decide (r 9 < r 1)
def dcanS (r : Nat → Int32) : Bool := !decide (r 3 < r 9)
def wS (g : Hp) (l c : Nat) : Int32 := whoS g l (rowS g c) (qD g c) (qP g c) (kindS g l (okS g l c))
/-- who can swear in truth does -/
def canS (g : Hp) (l c : Nat) : Bool := if wS g l c = 1 then pcanS (rowS g c) else decide (kindS g l (okS g l c) = 4) || dcanS (rowS g c)
def swS (g : Hp) (l c : Nat) : Bool := decide (comesS g l c = 3 ∨ comesS g l c = 4) && (!decide (wS g l c = 2) && canS g l c)
def paidS (g : Hp) (l c : Nat) (sw thn : Bool) : Int64 := paidF (lineS g l) (gi g 13 l).toInt64 (gi g 14 l).toInt64 (gi g 15 l).toInt64 (gi g 16 l).toInt64 (rowS g c 3) (rowS g c 1 - rowS g c 3) (goesS g l (rowS g c) (qP g c)) (comesS g l c) (wS g l c) sw thn
theorem i64_add0 (a : Int64) : a + 0 = a := Int64.add_zero a
theorem M_goes {ns nc nl l c : Nat} {z : Int32} {g h : Hp} {X Y : Int64} {mode : Int32} {bt : Bool} (G : GoM ns nc nl g) (hc : c < nc) (hl : l < nl) (eq : EqK z g h) (a : Int64) (hm : mode = 2 ∨ mode = 1 ∨ mode = 0) : ∃ h', (cb (m_X9_knownSide (nI c) 1 h) fun v5 h6 => cb (m_X9_some (nI l) 4 (nI c) v5 h6) fun v7 h8 => if v7 = 0 then some (a + Y, h8) else cb (m_X9_isBarred (nI l) (nI c) 1 h8) fun v10 h11 => if v10 = 0 then if mode = 2 then if bI bt = 0 then some (a + 0, h11) else some (a + X, h11) else some (a + X, h11) else some (a + Y, h11)) = some (a + (if goesS g l (rowS g c) (qP g c) = true then (if (if mode = 2 then bt else true) = true then X else 0) else Y), h') ∧ EqK z g h' := by
  rw [M_known1 G hc eq, cb_some]
  obtain ⟨k1, p1, w1⟩ := M_some' (w := 4) (q := qP g c) G hc hl (by decide) eq
  rw [p1, cb_some]
  unfold goesS
  cases someS g l 4 (rowS g c) (qP g c)
  · refine ⟨k1, ?_, w1⟩
    rfl
  · obtain ⟨k2, p2, w2⟩ := M_barred1 G hc hl w1
    rw [if_neg (show ¬ bI true = 0 by decide), p2, cb_some]
    refine ⟨k2, ?_, w2⟩
    cases someS g l 3 (rowS g c) (qP g c)
    · rcases hm with rfl | rfl | rfl <;> cases bt <;> rfl
    · rfl
theorem M_paid_end {ns nc nl l c : Nat} {z : Int32} {g h : Hp} {mode who : Int32} {bt sw : Bool} (G : GoM ns nc nl g) (hc : c < nc) (hl : l < nl) (eq : EqK z g h) (hw : who = 1 ∨ who = 0) (hm : mode = 2 ∨ mode = 1 ∨ mode = 0) : ∃ h', m_X9_paidOf_L207 (nI l) (nI c) mode (lineS g l) (rowS g c 1 - rowS g c 3).toInt64 ((rowS g c 3).toInt64 * lineS g l) who (bI bt) (bI sw) h = some (paidF (lineS g l) (gi g 13 l).toInt64 (gi g 14 l).toInt64 (gi g 15 l).toInt64 (gi g 16 l).toInt64 (rowS g c 3) (rowS g c 1 - rowS g c 3) (goesS g l (rowS g c) (qP g c)) 3 who sw (if mode = 2 then bt else true), h') ∧ EqK (bI sw) g h' := by
  have n6 := G.2.2.2.2.2.1
  unfold m_X9_paidOf_L207
  rw [ck_true _ (isb_bI _), hb_eq, gi_si]
  have w1 := eq.sw (bI sw)
  rcases hw with rfl | rfl
  · cases sw
    · exact ⟨_, rfl, w1⟩
    · exact ⟨_, rfl, w1⟩
  · cases sw
    · obtain ⟨h', p, w⟩ := M_goes (X := (rowS g c 1 - rowS g c 3).toInt64 * lineS g l) (Y := ((rowS g c 1 - rowS g c 3).toInt64 * (gi g 13 l).toInt64) * (gi g 16 l).toInt64) (bt := bt) G hc hl w1 ((rowS g c 3).toInt64 * lineS g l) hm
      refine ⟨h', ?_, w⟩
      rw [if_neg (by decide), if_pos (show bI false = 0 from rfl)]
      refine Eq.trans ?_ p
      unfold m_X9_paidOf_L288 m_X9_paidOf_L295
      have e : ∀ k, EqK (bI false) g k → (ck (inb (nI l) 6) (some ((rowS g c 3).toInt64 * lineS g l + (((rowS g c 1 - rowS g c 3).toInt64 * ((gi k 13 (nI l).toNatClampNeg).toInt64)) * ((gi k 16 (nI l).toNatClampNeg).toInt64)), k)) : Option (Int64 × Hp)) = some ((rowS g c 3).toInt64 * lineS g l + (((rowS g c 1 - rowS g c 3).toInt64 * (gi g 13 l).toInt64) * (gi g 16 l).toInt64), k) := fun k wk => by
        rw [ck_true _ (inb_nI (by omega) (by decide)), nI_clamp (by omega), wk.i l (by decide) (by decide), wk.i l (by decide) (by decide)]
      rw [M_known1 G hc w1, cb_some, cb_some]
      obtain ⟨k1, p1, w2⟩ := M_some' (w := 4) (q := qP g c) G hc hl (by decide) w1
      rw [p1, cb_some, cb_some]
      obtain ⟨k2, p2, w3⟩ := M_barred1 G hc hl w2
      rw [p2, cb_some, cb_some, e k1 w2, e k2 w3]
    · refine ⟨_, ?_, w1⟩
      show some ((rowS g c 3).toInt64 * lineS g l, _) = some ((rowS g c 3).toInt64 * lineS g l + 0, _)
      rw [i64_add0]
/-- how the reference is asked: 2 is in truth -/
def swM (g : Hp) (l c : Nat) (mode : Int32) : Bool := if mode = 2 then canS g l c else decide (mode = 1)
def thM (g : Hp) (c : Nat) (mode : Int32) : Bool := if mode = 2 then pcanS (rowS g c) else true
theorem who_cases (g : Hp) (l : Nat) (r : Nat → Int32) (qd qp k : Int32) : whoS g l r qd qp k = 2 ∨ whoS g l r qd qp k = 1 ∨ whoS g l r qd qp k = 0 := by
  unfold whoS
  by_cases h : k = 6
  · rw [if_pos h]
    by_cases h1 : someS g l 3 r qp = false
    · rw [if_pos h1]; exact Or.inr (Or.inl rfl)
    · rw [if_neg h1]
      by_cases h2 : someS g l 3 r qd = false
      · rw [if_pos h2]; exact Or.inr (Or.inr rfl)
      · rw [if_neg h2]; exact Or.inl rfl
  · rw [if_neg h]
    by_cases h2 : someS g l 3 r qd = false
    · rw [if_pos h2]; exact Or.inr (Or.inr rfl)
    · rw [if_neg h2]
      by_cases h1 : someS g l 3 r qp = false
      · rw [if_pos h1]; exact Or.inr (Or.inl rfl)
      · rw [if_neg h1]; exact Or.inl rfl
theorem paidF_34 {line loseN loseD bothN bothD : Int64} {adm opn : Int32} {goes : Bool} {came who : Int32} {sw thn : Bool} (h : came = 3 ∨ came = 4) : paidF line loseN loseD bothN bothD adm opn goes came who sw thn = paidF line loseN loseD bothN bothD adm opn goes 3 who sw thn := by
  rcases h with rfl | rfl <;> rfl
theorem M_paid {ns nc nl l c : Nat} {z : Int32} {g h : Hp} {mode : Int32} (G : GoM ns nc nl g) (hc : c < nc) (hl : l < nl) (eq : EqK z g h) (hm : mode = 2 ∨ mode = 1 ∨ mode = 0) : ∃ h' z', m_X9_paidOf (nI l) (nI c) mode h = some (paidS g l c (swM g l c mode) (thM g c mode), h') ∧ EqK z' g h' ∧ (mode = 2 → z' = bI (swS g l c)) := by
  have n24 := G.1.2
  have n6 := G.2.2.2.2.2.1
  unfold m_X9_paidOf
  obtain ⟨k1, p1, w1⟩ := M_comes G hc hl eq
  rw [p1, cb_some, M_line G hl w1, cb_some, M_open (by omega) w1, cb_some, M_g3 (by omega), cb_some, vb_eq, hb_eq, w1.i _ (by decide) (by decide)]
  rw [show gi g 6 (10 * c + 3) = rowS g c 3 from rfl]
  have w2 := w1.sw 0
  have nz : comesS g l c ≠ 3 → comesS g l c ≠ 4 → (0 : Int32) = bI (swS g l c) := by
    intro h3 h4
    unfold swS
    rw [decide_eq_false (fun q => q.elim h3 h4), Bool.false_and]; rfl
  have pl : comesS g l c ≠ 2 → comesS g l c ≠ 3 → comesS g l c ≠ 4 → ∀ sw th, paidS g l c sw th = (rowS g c 3).toInt64 * lineS g l := by
    intro h2 h3 h4 sw th
    unfold paidS paidF
    rw [if_neg h2, if_neg (fun q => q.elim h3 h4), i64_add0]
  by_cases h2 : comesS g l c = 2
  · rw [if_pos h2]
    refine ⟨_, 0, ?_, w2, fun _ => nz (by rw [h2]; decide) (by rw [h2]; decide)⟩
    unfold paidS paidF
    rw [if_pos h2]
  rw [if_neg h2]
  have main : (comesS g l c = 3 ∨ comesS g l c = 4) → ∃ h' z', m_X9_paidOf_L70 (nI l) (nI c) mode (comesS g l c) (lineS g l) (rowS g c 1 - rowS g c 3).toInt64 ((rowS g c 3).toInt64 * lineS g l) (si k1 1 28 0) = some (paidS g l c (swM g l c mode) (thM g c mode), h') ∧ EqK z' g h' ∧ (mode = 2 → z' = bI (swS g l c)) := by
    intro h34
    obtain ⟨kk, hk, k8, -⟩ := ok_some G hl h34
    obtain ⟨j1, q1, v1⟩ := M_oathBy G hc hl w2 h34
    unfold m_X9_paidOf_L70
    rw [q1, cb_some, hk, show oI l (some kk) = nI (8 * l + kk) from rfl, ck_true _ (inb_nI (by omega) (by decide)), vb_eq, nI_clamp (by omega), v1.i _ (by decide) (by decide)]
    obtain ⟨j2, q2, v2⟩ := M_who (kind := gi g 10 (8 * l + kk)) G hc hl v1
    rw [q2, cb_some]
    have ek : kindS g l (okS g l c) = gi g 10 (8 * l + kk) := by rw [hk]; rfl
    have ew : wS g l c = whoS g l (rowS g c) (qD g c) (qP g c) (gi g 10 (8 * l + kk)) := by unfold wS; rw [ek]
    rw [← ew]
    unfold paidS
    rw [paidF_34 h34]
    have sw2 : swS g l c = (!decide (wS g l c = 2) && canS g l c) := by
      unfold swS; rw [decide_eq_true h34, Bool.true_and]
    by_cases hw2 : wS g l c = 2
    · rw [if_pos hw2, ck_true _ (inb_nI (by omega) (by decide)), nI_clamp (by omega), v2.i _ (by decide) (by decide), v2.i _ (by decide) (by decide)]
      refine ⟨j2, 0, ?_, v2, fun _ => ?_⟩
      · unfold paidF
        rw [if_neg (by decide), if_pos (Or.inl rfl), if_pos hw2]
      · rw [sw2, decide_eq_true hw2]; rfl
    rw [if_neg hw2, M_g9 (by omega), cb_some, M_g1 (by omega), cb_some, v2.i _ (by decide) (by decide), v2.i _ (by decide) (by decide)]
    rw [show gi g 6 (10 * c + 9) = rowS g c 9 from rfl, show gi g 6 (10 * c + 1) = rowS g c 1 from rfl]
    have hw : wS g l c = 1 ∨ wS g l c = 0 := by
      rcases who_cases g l (rowS g c) (qD g c) (qP g c) (kindS g l (okS g l c)) with q | q | q
      · exact absurd q hw2
      · exact Or.inl q
      · exact Or.inr q
    have e184 : ∀ (can bt : Bool), bt = pcanS (rowS g c) → can = canS g l c → ∃ h' z', m_X9_paidOf_L184 (nI l) (nI c) mode (lineS g l) (rowS g c 1 - rowS g c 3).toInt64 ((rowS g c 3).toInt64 * lineS g l) (wS g l c) (bI bt) (bI can) j2 = some (paidF (lineS g l) (gi g 13 l).toInt64 (gi g 14 l).toInt64 (gi g 15 l).toInt64 (gi g 16 l).toInt64 (rowS g c 3) (rowS g c 1 - rowS g c 3) (goesS g l (rowS g c) (qP g c)) 3 (wS g l c) (swM g l c mode) (thM g c mode), h') ∧ EqK z' g h' ∧ (mode = 2 → z' = bI (swS g l c)) := by
      intro can bt hbt hcan
      obtain ⟨j3, q3, v3⟩ := M_paid_end (sw := swM g l c mode) (bt := bt) G hc hl v2 hw hm
      refine ⟨j3, _, ?_, v3, fun e => ?_⟩
      · rw [show thM g c mode = (if mode = 2 then bt else true) by unfold thM; rw [hbt], ← q3]
        unfold m_X9_paidOf_L184 swM
        rcases hm with rfl | rfl | rfl
        · rw [if_pos rfl, if_pos rfl, hcan]
        · rfl
        · rfl
      · rw [sw2, decide_eq_false hw2]
        unfold swM
        rw [if_pos e]; rfl
    have e144 : ∀ bt : Bool, bt = pcanS (rowS g c) → ∃ h' z', m_X9_paidOf_L144 (nI l) (nI c) mode (lineS g l) (rowS g c 1 - rowS g c 3).toInt64 ((rowS g c 3).toInt64 * lineS g l) (gi g 10 (8 * l + kk)) (wS g l c) (bI bt) j2 = some (paidF (lineS g l) (gi g 13 l).toInt64 (gi g 14 l).toInt64 (gi g 15 l).toInt64 (gi g 16 l).toInt64 (rowS g c 3) (rowS g c 1 - rowS g c 3) (goesS g l (rowS g c) (qP g c)) 3 (wS g l c) (swM g l c mode) (thM g c mode), h') ∧ EqK z' g h' ∧ (mode = 2 → z' = bI (swS g l c)) := by
      intro bt hbt
      unfold m_X9_paidOf_L144
      by_cases hw1 : wS g l c = 1
      · rw [if_pos hw1]
        exact e184 bt bt hbt (by unfold canS; rw [if_pos hw1]; exact hbt)
      · rw [if_neg hw1]
        unfold m_X9_paidOf_L179
        by_cases h4 : gi g 10 (8 * l + kk) = 4
        · rw [if_pos h4]
          exact e184 true bt hbt (by unfold canS; rw [if_neg hw1, ek, decide_eq_true h4, Bool.true_or])
        · rw [if_neg h4, M_g9 (by omega), cb_some, M_g3 (by omega), cb_some, v2.i _ (by decide) (by decide), v2.i _ (by decide) (by decide)]
          rw [show gi g 6 (10 * c + 9) = rowS g c 9 from rfl, show gi g 6 (10 * c + 3) = rowS g c 3 from rfl]
          by_cases h39 : rowS g c 3 < rowS g c 9
          · rw [if_pos h39]
            exact e184 false bt hbt (by unfold canS dcanS; rw [if_neg hw1, ek, decide_eq_false h4, decide_eq_true h39]; rfl)
          · rw [if_neg h39]
            exact e184 true bt hbt (by unfold canS dcanS; rw [if_neg hw1, ek, decide_eq_false h4, decide_eq_false h39]; rfl)
    by_cases h91 : rowS g c 9 < rowS g c 1
    · rw [if_pos h91]; exact e144 false (by unfold pcanS; rw [decide_eq_true h91]; rfl)
    · rw [if_neg h91]; exact e144 true (by unfold pcanS; rw [decide_eq_false h91]; rfl)
  by_cases h3 : comesS g l c = 3
  · rw [if_pos h3]; exact main (Or.inl h3)
  rw [if_neg h3]
  by_cases h4 : comesS g l c = 4
  · rw [if_pos h4]; exact main (Or.inr h4)
  rw [if_neg h4, pl h2 h3 h4]
  exact ⟨_, 0, rfl, w2, fun _ => nz h3 h4⟩
