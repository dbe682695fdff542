/-! ===== pure: what the reference counts, as functions of its heap ===== -/
def holdS (g : Hp) (kk : Nat) (r : Nat → Int32) (q : Int32) : Bool := (runS r q (gi g 18) ((gi g 12 kk).toNatClampNeg - (gi g 11 kk).toNatClampNeg) (gi g 11 kk).toNatClampNeg []).headD false
def exB (p : Nat → Bool) : Nat → Nat → Bool
  | 0, _ => false
  | n + 1, i => p i || exB p n (i + 1)
def fiB (p : Nat → Bool) : Nat → Nat → Option Nat
  | 0, _ => none
  | n + 1, i => if p i = true then some i else fiB p n (i + 1)
theorem fiB_t {p : Nat → Bool} {n i : Nat} (h : p i = true) : fiB p (n + 1) i = some i := by unfold fiB; rw [if_pos h]
theorem fiB_f {p : Nat → Bool} {n i : Nat} (h : p i = false) : fiB p (n + 1) i = fiB p n (i + 1) := by
  conv => lhs; unfold fiB
  rw [if_neg (by rw [h]; decide)]
def ncS (g : Hp) (l : Nat) : Nat := (gi g 8 l).toNatClampNeg
def rowS (g : Hp) (c : Nat) : Nat → Int32 := fun k => gi g 6 (10 * c + k)
def qD (g : Hp) (c : Nat) : Int32 := gi g 2 (gi g 4 (gi g 6 (10 * c)).toNatClampNeg).toNatClampNeg
def qP (g : Hp) (c : Nat) : Int32 := gi g 2 (gi g 3 (gi g 6 (10 * c)).toNatClampNeg).toNatClampNeg
def someS (g : Hp) (l : Nat) (w : Int32) (r : Nat → Int32) (q : Int32) : Bool := exB (fun k => decide (gi g 9 (8 * l + k) = w) && holdS g (8 * l + k) r q) (ncS g l) 0
def oathS (g : Hp) (l : Nat) (r : Nat → Int32) (qd qp : Int32) : Option Nat := fiB (fun k => decide (gi g 9 (8 * l + k) = 2) && holdS g (8 * l + k) r (if gi g 10 (8 * l + k) = 6 then qp else qd)) (ncS g l) 0
def dueS (g : Hp) (l : Nat) (r : Nat → Int32) (qd qp : Int32) : Option Nat := if r 1 - r 3 = 0 then none else if gi g 17 l ≤ r 1 - r 3 then (if someS g l 0 r qd = true then none else if someS g l 1 r qd = true then none else oathS g l r qd qp) else none
def kindS (g : Hp) (l : Nat) (o : Option Nat) : Int32 := match o with | none => 0 | some k => gi g 10 (8 * l + k)
/-- who swears an oath of that kind -/
def whoS (g : Hp) (l : Nat) (r : Nat → Int32) (qd qp kind : Int32) : Int32 :=
  if kind = 6 then (if someS g l 3 r qp = false then 1 else if someS g l 3 r qd = false then 0 else 2)
  else (if someS g l 3 r qd = false then 0 else if someS g l 3 r qp = false then 1 else 2)
def ontoB (g : Hp) (l : Nat) (r : Nat → Int32) (qd qp : Int32) : Bool := match dueS g l r qd qp with | none => false | some k => (!decide (gi g 10 (8 * l + k) = 6)) && decide (whoS g l r qd qp (gi g 10 (8 * l + k)) = 0)
def ontoS (g : Hp) (l : Nat) (x : Int32) : Option Nat := fiB (fun c => decide (gi g 6 (10 * c) = x) && ontoB g l (rowS g c) (qD g c) (qP g c)) (gi g 1 1).toNatClampNeg 0
def comesS (g : Hp) (l c : Nat) : Int32 :=
  if rowS g c 1 - rowS g c 3 = 0 then 0 else if someS g l 0 (rowS g c) (qD g c) = true then 1 else if someS g l 1 (rowS g c) (qD g c) = true then 2
  else match dueS g l (rowS g c) (qD g c) (qP g c) with
    | some _ => 3
    | none => if someS g l 5 (rowS g c) (qD g c) = true then (match ontoS g l (gi g 6 (10 * c)) with | none => 5 | some _ => 4) else 5
/-- what the reference stands on -/
def GoM (ns nc nl : Nat) (g : Hp) : Prop := (gi g 1 1 = nI nc ∧ nc ≤ 24) ∧ (gi g 1 0 = nI ns ∧ ns ≤ 5) ∧ (∀ s, s < ns → ∃ p d l : Nat, p < 8 ∧ d < 8 ∧ l < nl ∧ gi g 3 s = nI p ∧ gi g 4 s = nI d ∧ gi g 5 s = nI l) ∧ (∀ c, c < nc → RowOK ns (rowS g c)) ∧ (∀ x, cntR (gi g 6) x nc ≤ 6) ∧ nl ≤ 6 ∧ ∀ l, l < nl → ∃ hC, LawI hC g l
theorem Inv.gm {ns nc nl nf : Nat} {hC hM : Hp} (I : Inv ns nc nl nf hC hM) : GoM ns nc nl hM := by
  obtain ⟨i1, i2, i3, i4, i5, i6, i7, i8, i9, i10⟩ := I
  refine ⟨⟨i1.2.1.2.1, i1.2.1.2.2⟩, ⟨i1.1.2.1, i1.1.2.2⟩, fun s hs => ?_, fun c hc => (i4.1 c hc).2, i4.2, i1.2.2.1.2.2, fun l hl => ⟨hC, i7 l hl⟩⟩
  obtain ⟨p, d, l, h1, h2, h3, -, h4, h5, h6⟩ := i3 s hs
  exact ⟨p, d, l, h1, h2, h3, h4, h5, h6⟩
theorem M_holds {z : Int32} {hC g h : Hp} {l k c : Nat} {q : Int32} (hl : l < 6) (hk : k < 8) (hc : c < 24) (cl : ClI hC g l k) (eq : EqK z g h) : ∃ h', m_X9_holds (nI (8 * l + k)) (nI c) q h = some (bI (holdS g (8 * l + k) (rowS g c) q), h') ∧ EqK z g h' := by
  obtain ⟨st, n, h1, h2, h3, h4, h5, h6, h7⟩ := cl
  obtain ⟨h', p, w⟩ := M_holds_loop (q := q) (kk := 8 * l + k) (by omega) (show 100 * l + (st + n) ≤ 600 by omega) hc h5 FU n (100 * l + st) [] h (by omega) (by unfold FU; omega) (fun j hj1 hj2 => ⟨_, by
    have := h6 (j - (100 * l + st)) (by omega)
    rwa [show 100 * l + st + (j - (100 * l + st)) = j by omega] at this⟩) eq (fun i hi => by simp at hi) (by simp) h7
  refine ⟨h', ?_, w⟩
  unfold m_X9_holds holdS
  rw [ck_true _ (inb_nI (by omega) (by decide)), nI_clamp (show 8 * l + k < 2 ^ 31 by omega), vb_eq, eq.i _ (by decide) (by decide), h4, h5, nI_clamp (by omega), nI_clamp (by omega), show 100 * l + (st + n) - (100 * l + st) = n by omega]
  exact p
theorem C_holds {h g : Hp} {l k a2 : Nat} {q : Int32} {r : Nat → Int32} (hl : l < 6) (hk : k < 8) (cl : ClI h g l k) (hr : ∀ k, k < 10 → gi h a2 k = r k) : m_X3_holds (144 + 6 * l) (nI k) a2 q h = some (bI (holdS g (8 * l + k) r q), h) := by
  obtain ⟨st, n, h1, h2, h3, h4, h5, h6, h7⟩ := cl
  have p := C_holds_loop (q := q) (B := 144 + 6 * l) (a2 := a2) (b0 := 100 * l) (f := gi g 18) hk h3 h2 hr FU n st [] 0 rfl (by unfold FU; omega) (fun j hj1 hj2 => by
    have := h6 (j - st) (by omega)
    rwa [show st + (j - st) = j by omega, show 100 * l + st + (j - st) = 100 * l + j by omega] at this) (fun i hi => by simp at hi) (by simp) h7
  unfold m_X3_holds holdS
  rw [ck_true _ (inb_nI hk (by decide)), nI_clamp (show k < 2 ^ 31 by omega), vb_eq, h1, h4, h5]
  rw [nI_clamp (by omega), nI_clamp (by omega), show 100 * l + (st + n) - (100 * l + st) = n by omega]
  exact p
theorem M_some {z : Int32} {hC g h : Hp} {l c : Nat} {w q : Int32} (hl : l < 6) (hc : c < 24) (L : LawI hC g l) (hw : w ≠ 6) (eq : EqK z g h) : ∃ h', m_X9_some (nI l) w (nI c) q h = some (bI (someS g l w (rowS g c) q), h') ∧ EqK z g h' := by
  obtain ⟨⟨n, hn, e1, e2, ks⟩, -⟩ := L
  have key : ∀ m rem i (h : Hp), i + rem = n → rem < m → EqK z g h → ∃ h', m_X9_some_L6 m (nI l) w (nI c) q (nI (8 * l + i)) h = some (bI (exB (fun k => decide (gi g 9 (8 * l + k) = w) && holdS g (8 * l + k) (rowS g c) q) rem i), h') ∧ EqK z g h' := by
    intro m
    induction m with
    | zero => intro rem i h _ h2; omega
    | succ m ih =>
      intro rem i h h1 h2 eq
      unfold m_X9_some_L6
      rw [ck_true _ (inb_nI hl (by decide)), nI_clamp (show l < 2 ^ 31 by omega), eq.i l (by decide) (by decide), e2, show (8 : Int32) = nI 8 from rfl, pk_mul, nI_add]
      cases rem with
      | zero =>
        rw [if_pos (nI_le (by omega) (by omega))]
        exact ⟨h, rfl, eq⟩
      | succ rem =>
        rw [if_neg (nI_ge (by omega) (by omega)), ck_true _ (inb_nI (by omega) (by decide)), nI_clamp (show 8 * l + i < 2 ^ 31 by omega), eq.i _ (by decide) (by decide)]
        simp only [exB, vb_eq, nI_1]
        by_cases hq : gi g 9 (8 * l + i) = w
        · rw [if_pos hq, decide_eq_true hq, Bool.true_and]
          have cl : ClI hC g l i := by
            rcases ks i (by omega) with q | q
            · exact absurd (hq.symm.trans q.1) hw
            · exact q.2.1
          obtain ⟨h', p, eq'⟩ := M_holds (q := q) hl (by omega) hc cl eq
          rw [p, cb_some]
          cases hb : holdS g (8 * l + i) (rowS g c) q
          · rw [if_pos (show bI false = 0 from rfl), Bool.false_or, show 8 * l + i + 1 = 8 * l + (i + 1) by omega]
            exact ih rem (i + 1) h' (by omega) (by omega) eq'
          · rw [if_neg (show ¬ bI true = 0 by decide), Bool.true_or]
            exact ⟨h', rfl, eq'⟩
        · rw [if_neg hq, decide_eq_false hq, Bool.false_and, Bool.false_or, show 8 * l + i + 1 = 8 * l + (i + 1) by omega]
          exact ih rem (i + 1) h (by omega) (by omega) eq
  unfold m_X9_some someS ncS
  rw [vb_eq, show (8 : Int32) = nI 8 from rfl, pk_mul, e2, nI_clamp (by omega)]
  exact key FU n 0 h (by omega) (by unfold FU; omega) eq
/-- what the reference finds around a claim -/
theorem GoM.cl {ns nc nl : Nat} {g : Hp} (G : GoM ns nc nl g) {c : Nat} (hc : c < nc) : ∃ s p d l : Nat, s < ns ∧ p < 8 ∧ d < 8 ∧ l < nl ∧ gi g 6 (10 * c) = nI s ∧ gi g 3 s = nI p ∧ gi g 4 s = nI d ∧ gi g 5 s = nI l ∧ qD g c = gi g 2 d ∧ qP g c = gi g 2 p := by
  obtain ⟨-, ⟨-, n5⟩, hs, hr, -⟩ := G
  obtain ⟨⟨s, h1, h2⟩, -⟩ := hr c hc
  obtain ⟨p, d, l, h3, h4, h5, h6, h7, h8⟩ := hs s h1
  have h2' : gi g 6 (10 * c) = nI s := h2
  refine ⟨s, p, d, l, h1, h3, h4, h5, h2', h6, h7, h8, ?_, ?_⟩
  · unfold qD; rw [h2', nI_clamp (by omega), h7, nI_clamp (by omega)]
  · unfold qP; rw [h2', nI_clamp (by omega), h6, nI_clamp (by omega)]
theorem M_known0 {z : Int32} {ns nc nl c : Nat} {g h : Hp} (G : GoM ns nc nl g) (hc : c < nc) (eq : EqK z g h) : m_X9_knownSide (nI c) 0 h = some (qD g c, h) := by
  obtain ⟨s, p, d, l, h1, h2, h3, h4, h5, h6, h7, h8, h9, h10⟩ := G.cl hc
  have n24 := G.1.2
  have n5 := G.2.1.2
  unfold m_X9_knownSide
  rw [if_pos rfl, M_g0 (by omega), cb_some, eq.i _ (by decide) (by decide), show 10 * c + 0 = 10 * c from rfl, h5, ck_true _ (inb_nI (by omega) (by decide)), nI_clamp (by omega), eq.i s (by decide) (by decide), h7, ck_true _ (inb_nI (by omega) (by decide)), nI_clamp (by omega), eq.i d (by decide) (by decide), h9]
theorem M_known1 {z : Int32} {ns nc nl c : Nat} {g h : Hp} (G : GoM ns nc nl g) (hc : c < nc) (eq : EqK z g h) : m_X9_knownSide (nI c) 1 h = some (qP g c, h) := by
  obtain ⟨s, p, d, l, h1, h2, h3, h4, h5, h6, h7, h8, h9, h10⟩ := G.cl hc
  have n24 := G.1.2
  have n5 := G.2.1.2
  unfold m_X9_knownSide
  rw [if_neg (by decide), M_g0 (by omega), cb_some, eq.i _ (by decide) (by decide), show 10 * c + 0 = 10 * c from rfl, h5, ck_true _ (inb_nI (by omega) (by decide)), nI_clamp (by omega), eq.i s (by decide) (by decide), h6, ck_true _ (inb_nI (by omega) (by decide)), nI_clamp (by omega), eq.i p (by decide) (by decide), h10]
theorem M_some' {z : Int32} {ns nc nl c l : Nat} {g h : Hp} {w q : Int32} (G : GoM ns nc nl g) (hc : c < nc) (hl : l < nl) (hw : w ≠ 6) (eq : EqK z g h) : ∃ h', m_X9_some (nI l) w (nI c) q h = some (bI (someS g l w (rowS g c) q), h') ∧ EqK z g h' := by
  have n24 := G.1.2
  obtain ⟨-, -, -, -, -, n6, ls⟩ := G
  obtain ⟨hC, L⟩ := ls l hl
  exact M_some (by omega) (by omega) L hw eq
theorem M_open {z : Int32} {c : Nat} {g h : Hp} (hc : c < 24) (eq : EqK z g h) : m_X9_openOf (nI c) h = some (rowS g c 1 - rowS g c 3, h) := by
  unfold m_X9_openOf
  rw [M_g1 hc, cb_some, M_g3 hc, cb_some, eq.i _ (by decide) (by decide), eq.i _ (by decide) (by decide)]
  rfl
theorem M_barred0 {z : Int32} {ns nc nl c l : Nat} {g h : Hp} (G : GoM ns nc nl g) (hc : c < nc) (hl : l < nl) (eq : EqK z g h) : ∃ h', m_X9_isBarred (nI l) (nI c) 0 h = some (bI (someS g l 3 (rowS g c) (qD g c)), h') ∧ EqK z g h' := by
  obtain ⟨h', p, w⟩ := M_some' (w := 3) (q := qD g c) G hc hl (by decide) eq
  refine ⟨h', ?_, w⟩
  unfold m_X9_isBarred
  rw [M_known0 G hc eq, cb_some, p, cb_some, ck_true _ (isb_bI _)]
theorem M_barred1 {z : Int32} {ns nc nl c l : Nat} {g h : Hp} (G : GoM ns nc nl g) (hc : c < nc) (hl : l < nl) (eq : EqK z g h) : ∃ h', m_X9_isBarred (nI l) (nI c) 1 h = some (bI (someS g l 3 (rowS g c) (qP g c)), h') ∧ EqK z g h' := by
  obtain ⟨h', p, w⟩ := M_some' (w := 3) (q := qP g c) G hc hl (by decide) eq
  refine ⟨h', ?_, w⟩
  unfold m_X9_isBarred
  rw [M_known1 G hc eq, cb_some, p, cb_some, ck_true _ (isb_bI _)]
theorem M_who {z : Int32} {ns nc nl c l : Nat} {g h : Hp} {kind : Int32} (G : GoM ns nc nl g) (hc : c < nc) (hl : l < nl) (eq : EqK z g h) : ∃ h', m_X9_whoOf (nI l) (nI c) kind h = some (whoS g l (rowS g c) (qD g c) (qP g c) kind, h') ∧ EqK z g h' := by
  unfold m_X9_whoOf m_X9_whoOf_L11 whoS
  by_cases hk : kind = 6
  · rw [if_pos hk, if_pos hk]
    obtain ⟨h1, p1, w1⟩ := M_barred1 G hc hl eq
    obtain ⟨h2, p2, w2⟩ := M_barred0 G hc hl w1
    rw [p1, cb_some, show (1 : Int32) - 1 = 0 from rfl, p2, cb_some]
    cases someS g l 3 (rowS g c) (qP g c)
    · exact ⟨h1, rfl, w1⟩
    · cases someS g l 3 (rowS g c) (qD g c)
      · exact ⟨h2, rfl, w2⟩
      · exact ⟨h2, rfl, w2⟩
  · rw [if_neg hk, if_neg hk]
    obtain ⟨h1, p1, w1⟩ := M_barred0 G hc hl eq
    obtain ⟨h2, p2, w2⟩ := M_barred1 G hc hl w1
    rw [p1, cb_some, show (1 : Int32) - 0 = 1 from rfl, p2, cb_some]
    cases someS g l 3 (rowS g c) (qD g c)
    · exact ⟨h1, rfl, w1⟩
    · cases someS g l 3 (rowS g c) (qP g c)
      · exact ⟨h2, rfl, w2⟩
      · exact ⟨h2, rfl, w2⟩
def oI (l : Nat) (o : Option Nat) : Int32 := match o with | none => -1 | some k => nI (8 * l + k)
theorem M_oath {z : Int32} {ns nc nl c l : Nat} {g : Hp} (G : GoM ns nc nl g) (hc : c < nc) (hl : l < nl) : ∀ m rem i (h : Hp), i + rem = ncS g l → rem < m → EqK z g h → ∃ h', m_X9_dueBy_L61 m (nI l) (nI c) (nI (8 * l + i)) h = some (oI l (fiB (fun k => decide (gi g 9 (8 * l + k) = 2) && holdS g (8 * l + k) (rowS g c) (if gi g 10 (8 * l + k) = 6 then qP g c else qD g c)) rem i), h') ∧ EqK z g h' := by
  have n24 := G.1.2
  have n6 := G.2.2.2.2.2.1
  obtain ⟨hC, L⟩ := G.2.2.2.2.2.2 l hl
  obtain ⟨⟨n, hn, e1, e2, ks⟩, -⟩ := L
  have en : ncS g l = n := by unfold ncS; rw [e2, nI_clamp (by omega)]
  rw [en]
  intro m
  induction m with
  | zero => intro rem i h _ h2; omega
  | succ m ih =>
    intro rem i h h1 h2 eq
    unfold m_X9_dueBy_L61
    rw [ck_true _ (inb_nI (by omega) (by decide)), nI_clamp (show l < 2 ^ 31 by omega), eq.i l (by decide) (by decide), e2, show (8 : Int32) = nI 8 from rfl, pk_mul, nI_add]
    cases rem with
    | zero =>
      rw [if_pos (nI_le (by omega) (by omega))]
      exact ⟨h, rfl, eq⟩
    | succ rem =>
      rw [if_neg (nI_ge (by omega) (by omega)), ck_true _ (inb_nI (by omega) (by decide)), nI_clamp (show 8 * l + i < 2 ^ 31 by omega), eq.i _ (by decide) (by decide), eq.i _ (by decide) (by decide)]
      by_cases hq : gi g 9 (8 * l + i) = 2
      · rw [if_pos hq]
        have cl : ClI hC g l i := by
          rcases ks i (by omega) with q | q
          · exact absurd (hq.symm.trans q.1) (by decide)
          · exact q.2.1
        have key : ∀ (t0 q : Int32), m_X9_knownSide (nI c) t0 h = some (q, h) → (fun k => decide (gi g 9 (8 * l + k) = 2) && holdS g (8 * l + k) (rowS g c) (if gi g 10 (8 * l + k) = 6 then qP g c else qD g c)) i = holdS g (8 * l + i) (rowS g c) q → ∃ h', m_X9_dueBy_L111 (m_X9_dueBy_L61 m) (nI l) (nI c) (nI (8 * l + i)) t0 (nI c) (nI c) (nI (8 * l + i)) h = some (oI l (fiB (fun k => decide (gi g 9 (8 * l + k) = 2) && holdS g (8 * l + k) (rowS g c) (if gi g 10 (8 * l + k) = 6 then qP g c else qD g c)) (rem + 1) i), h') ∧ EqK z g h' := by
          intro t0 q hk hpi
          unfold m_X9_dueBy_L111
          obtain ⟨h', p, eq'⟩ := M_holds (q := q) (show l < 6 by omega) (show i < 8 by omega) (show c < 24 by omega) cl eq
          rw [hk, cb_some, p, cb_some]
          cases hb : holdS g (8 * l + i) (rowS g c) q
          · rw [if_pos (show bI false = 0 from rfl), fiB_f (hpi.trans hb), vb_eq, nI_1, show 8 * l + i + 1 = 8 * l + (i + 1) by omega]
            exact ih rem (i + 1) h' (by omega) (by omega) eq'
          · rw [if_neg (show ¬ bI true = 0 by decide), fiB_t (hpi.trans hb)]
            exact ⟨h', rfl, eq'⟩
        by_cases h6 : gi g 10 (8 * l + i) = 6
        · rw [if_pos h6]; exact key 1 _ (M_known1 G hc eq) (by simp only [h6, hq, if_pos, decide_true, Bool.true_and])
        · rw [if_neg h6]; exact key 0 _ (M_known0 G hc eq) (by simp only [h6, hq, if_false, decide_true, Bool.true_and])
      · rw [if_neg hq, fiB_f (by simp only [hq, decide_false, Bool.false_and]), vb_eq, nI_1, show 8 * l + i + 1 = 8 * l + (i + 1) by omega]
        exact ih rem (i + 1) h (by omega) (by omega) eq
theorem M_due {z : Int32} {ns nc nl c l : Nat} {g h : Hp} (G : GoM ns nc nl g) (hc : c < nc) (hl : l < nl) (eq : EqK z g h) : ∃ h', m_X9_dueBy (nI l) (nI c) h = some (oI l (dueS g l (rowS g c) (qD g c) (qP g c)), h') ∧ EqK z g h' := by
  have n24 := G.1.2
  have n6 := G.2.2.2.2.2.1
  unfold m_X9_dueBy dueS
  rw [M_open (by omega) eq, cb_some]
  by_cases h0 : rowS g c 1 - rowS g c 3 = 0
  · rw [if_pos h0, if_pos h0]; exact ⟨h, rfl, eq⟩
  rw [if_neg h0, if_neg h0, M_open (by omega) eq, cb_some, ck_true _ (inb_nI (by omega) (by decide)), nI_clamp (by omega), eq.i l (by decide) (by decide)]
  by_cases h1 : gi g 17 l ≤ rowS g c 1 - rowS g c 3
  case neg => rw [if_neg h1, if_neg h1]; exact ⟨h, rfl, eq⟩
  rw [if_pos h1, if_pos h1, M_known0 G hc eq, cb_some]
  obtain ⟨k1, p1, w1⟩ := M_some' (w := 0) (q := qD g c) G hc hl (by decide) eq
  rw [p1, cb_some]
  cases s0 : someS g l 0 (rowS g c) (qD g c)
  case true => rw [if_neg (show ¬ bI true = 0 by decide), if_pos rfl]; exact ⟨k1, rfl, w1⟩
  rw [if_pos (show bI false = 0 from rfl), if_neg (by decide)]
  obtain ⟨k2, p2, w2⟩ := M_some' (w := 1) (q := qD g c) G hc hl (by decide) w1
  rw [p2, cb_some]
  cases s1 : someS g l 1 (rowS g c) (qD g c)
  case true => rw [if_neg (show ¬ bI true = 0 by decide), if_pos rfl]; exact ⟨k2, rfl, w2⟩
  rw [if_pos (show bI false = 0 from rfl), if_neg (by decide), vb_eq, show (8 : Int32) = nI 8 from rfl, pk_mul]
  unfold oathS
  have n8 : ncS g l ≤ 8 := by
    obtain ⟨hC, ⟨n, hn, e1, e2, ks⟩, -⟩ := G.2.2.2.2.2.2 l hl
    unfold ncS; rw [e2, nI_clamp (by omega)]; exact hn
  exact M_oath G hc hl FU (ncS g l) 0 k2 (by omega) (by unfold FU; omega) w2
theorem fiB_some {p : Nat → Bool} {k : Nat} : ∀ n i, fiB p n i = some k → i ≤ k ∧ k < i + n ∧ p k = true
  | 0, i, h => by cases h
  | n + 1, i, h => by
    unfold fiB at h
    by_cases q : p i = true
    · rw [if_pos q] at h
      have := Option.some.inj h
      subst this
      exact ⟨Nat.le_refl _, by omega, q⟩
    · rw [if_neg q] at h
      obtain ⟨h1, h2, h3⟩ := fiB_some n (i + 1) h
      exact ⟨by omega, by omega, h3⟩
theorem due_lt {ns nc nl l k : Nat} {g : Hp} {r : Nat → Int32} {qd qp : Int32} (G : GoM ns nc nl g) (hl : l < nl) (h : dueS g l r qd qp = some k) : k < ncS g l ∧ ncS g l ≤ 8 ∧ l < 6 := by
  have n6 := G.2.2.2.2.2.1
  have n8 : ncS g l ≤ 8 := by
    obtain ⟨hC, ⟨n, hn, e1, e2, ks⟩, -⟩ := G.2.2.2.2.2.2 l hl
    unfold ncS; rw [e2, nI_clamp (by omega)]; exact hn
  refine ⟨?_, n8, by omega⟩
  unfold dueS at h
  by_cases h0 : r 1 - r 3 = 0
  · rw [if_pos h0] at h; cases h
  rw [if_neg h0] at h
  by_cases h1 : gi g 17 l ≤ r 1 - r 3
  case neg => rw [if_neg h1] at h; cases h
  rw [if_pos h1] at h
  by_cases h2 : someS g l 0 r qd = true
  · rw [if_pos h2] at h; cases h
  rw [if_neg h2] at h
  by_cases h3 : someS g l 1 r qd = true
  · rw [if_pos h3] at h; cases h
  rw [if_neg h3] at h
  have := fiB_some _ _ h
  omega
theorem oI_neg {l k : Nat} (hk : 8 * l + k < 2 ^ 31) : ¬ oI l (some k) < 0 := nI_pos hk
def cI (o : Option Nat) : Int32 := match o with | none => -1 | some c => nI c
theorem M_onto {z : Int32} {ns nc nl l : Nat} {g : Hp} {x : Int32} (G : GoM ns nc nl g) (hl : l < nl) : ∀ m rem i (h : Hp), i + rem = nc → rem < m → EqK z g h → ∃ h', m_X9_onto_L2 m (nI l) x (nI i) h = some (cI (fiB (fun c => decide (gi g 6 (10 * c) = x) && ontoB g l (rowS g c) (qD g c) (qP g c)) rem i), h') ∧ EqK z g h' := by
  obtain ⟨e1, n24⟩ := G.1
  intro m
  induction m with
  | zero => intro rem i h _ h2; omega
  | succ m ih =>
    intro rem i h h1 h2 eq
    unfold m_X9_onto_L2
    rw [eq.o (by decide), e1]
    cases rem with
    | zero =>
      rw [if_pos (nI_le (by omega) (by omega))]
      exact ⟨h, rfl, eq⟩
    | succ rem =>
      rw [if_neg (nI_ge (by omega) (by omega)), M_g0 (by omega), cb_some, eq.i _ (by decide) (by decide)]
      simp only [Nat.add_zero]
      by_cases hq : gi g 6 (10 * i) = x
      · rw [if_pos hq]
        have hpi : (fun c => decide (gi g 6 (10 * c) = x) && ontoB g l (rowS g c) (qD g c) (qP g c)) i = ontoB g l (rowS g i) (qD g i) (qP g i) := by simp only [hq, decide_true, Bool.true_and]
        obtain ⟨k1, p1, w1⟩ := M_due G (show i < nc by omega) hl eq
        rw [p1, cb_some]
        unfold m_X9_onto_L30
        cases hd : dueS g l (rowS g i) (qD g i) (qP g i) with
        | none =>
          rw [if_pos (show oI l none < 0 from (by decide : (-1 : Int32) < 0)), vb_eq, nI_1, fiB_f (hpi.trans (by unfold ontoB; rw [hd]))]
          exact ih rem (i + 1) k1 (by omega) (by omega) w1
        | some k =>
          obtain ⟨d1, d2, d3⟩ := due_lt G hl hd
          rw [if_neg (oI_neg (by omega))]
          rw [show oI l (some k) = nI (8 * l + k) from rfl, ck_true _ (inb_nI (by omega) (by decide)), nI_clamp (by omega), w1.i _ (by decide) (by decide)]
          by_cases h6 : gi g 10 (8 * l + k) = 6
          · rw [if_pos h6, vb_eq, nI_1, fiB_f (hpi.trans (by unfold ontoB; rw [hd]; simp only [h6, decide_true, Bool.not_true, Bool.false_and]))]
            exact ih rem (i + 1) k1 (by omega) (by omega) w1
          · rw [if_neg h6]
            obtain ⟨k2, p2, w2⟩ := M_who (kind := gi g 10 (8 * l + k)) G (show i < nc by omega) hl w1
            rw [p2, cb_some]
            by_cases h0 : whoS g l (rowS g i) (qD g i) (qP g i) (gi g 10 (8 * l + k)) = 0
            · rw [if_pos h0, fiB_t (hpi.trans (by unfold ontoB; rw [hd]; simp only [h6, h0, decide_true, decide_false, Bool.not_false, Bool.true_and]))]
              exact ⟨k2, rfl, w2⟩
            · rw [if_neg h0, vb_eq, nI_1, fiB_f (hpi.trans (by unfold ontoB; rw [hd]; simp only [h6, h0, decide_false, Bool.not_false, Bool.and_false]))]
              exact ih rem (i + 1) k2 (by omega) (by omega) w2
      · rw [if_neg hq, fiB_f (by simp only [hq, decide_false, Bool.false_and])]
        unfold m_X9_onto_L30
        rw [if_pos (by decide), vb_eq, nI_1]
        exact ih rem (i + 1) h (by omega) (by omega) eq
theorem M_onto' {z : Int32} {ns nc nl l : Nat} {g h : Hp} {x : Int32} (G : GoM ns nc nl g) (hl : l < nl) (eq : EqK z g h) : ∃ h', m_X9_onto (nI l) x h = some (cI (ontoS g l x), h') ∧ EqK z g h' := by
  have e : (gi g 1 1).toNatClampNeg = nc := by rw [G.1.1, nI_clamp (by have := G.1.2; omega)]
  have n24 := G.1.2
  unfold m_X9_onto ontoS
  rw [e]
  exact M_onto G hl FU nc 0 h (by omega) (by unfold FU; omega) eq
theorem onto_lt {ns nc nl l c : Nat} {g : Hp} {x : Int32} (G : GoM ns nc nl g) (h : ontoS g l x = some c) : c < nc ∧ gi g 6 (10 * c) = x ∧ ontoB g l (rowS g c) (qD g c) (qP g c) = true := by
  have e : (gi g 1 1).toNatClampNeg = nc := by rw [G.1.1, nI_clamp (by have := G.1.2; omega)]
  unfold ontoS at h
  rw [e] at h
  obtain ⟨h1, h2, h3⟩ := fiB_some _ _ h
  rw [Bool.and_eq_true, decide_eq_true_eq] at h3
  exact ⟨by omega, h3.1, h3.2⟩
theorem M_comes {z : Int32} {ns nc nl c l : Nat} {g h : Hp} (G : GoM ns nc nl g) (hc : c < nc) (hl : l < nl) (eq : EqK z g h) : ∃ h', m_X9_comesTo (nI l) (nI c) h = some (comesS g l c, h') ∧ EqK z g h' := by
  have n24 := G.1.2
  have n6 := G.2.2.2.2.2.1
  unfold m_X9_comesTo comesS
  rw [M_open (by omega) eq, cb_some]
  by_cases h0 : rowS g c 1 - rowS g c 3 = 0
  · rw [if_pos h0, if_pos h0]; exact ⟨h, rfl, eq⟩
  rw [if_neg h0, if_neg h0, M_known0 G hc eq, cb_some]
  obtain ⟨k1, p1, w1⟩ := M_some' (w := 0) (q := qD g c) G hc hl (by decide) eq
  rw [p1, cb_some]
  cases s0 : someS g l 0 (rowS g c) (qD g c)
  case true => rw [if_neg (show ¬ bI true = 0 by decide), if_pos rfl]; exact ⟨k1, rfl, w1⟩
  rw [if_pos (show bI false = 0 from rfl), if_neg (show ¬ false = true by decide)]
  obtain ⟨k2, p2, w2⟩ := M_some' (w := 1) (q := qD g c) G hc hl (by decide) w1
  rw [p2, cb_some]
  cases s1 : someS g l 1 (rowS g c) (qD g c)
  case true => rw [if_neg (show ¬ bI true = 0 by decide), if_pos rfl]; exact ⟨k2, rfl, w2⟩
  rw [if_pos (show bI false = 0 from rfl), if_neg (show ¬ false = true by decide)]
  obtain ⟨k3, p3, w3⟩ := M_due G hc hl w2
  rw [p3, cb_some]
  cases hd : dueS g l (rowS g c) (qD g c) (qP g c) with
  | some k =>
    obtain ⟨d1, d2, d3⟩ := due_lt G hl hd
    rw [if_neg (oI_neg (by omega))]
    exact ⟨k3, rfl, w3⟩
  | none =>
    rw [if_pos (show oI l none < 0 from (by decide : (-1 : Int32) < 0))]
    obtain ⟨k4, p4, w4⟩ := M_some' (w := 5) (q := qD g c) G hc hl (by decide) w3
    rw [p4, cb_some]
    cases s5 : someS g l 5 (rowS g c) (qD g c)
    case false => rw [if_pos (show bI false = 0 from rfl)]; exact ⟨k4, rfl, w4⟩
    rw [if_neg (show ¬ bI true = 0 by decide), M_g0 (by omega), cb_some, w4.i _ (by decide) (by decide)]
    simp only [Nat.add_zero]
    obtain ⟨k5, p5, w5⟩ := M_onto' (x := gi g 6 (10 * c)) G hl w4
    rw [p5, cb_some]
    cases ho : ontoS g l (gi g 6 (10 * c)) with
    | none => rw [if_pos (show cI none < 0 from (by decide : (-1 : Int32) < 0))]; exact ⟨k5, rfl, w5⟩
    | some c' =>
      have := (onto_lt G ho).1
      rw [if_neg (show ¬ cI (some c') < 0 from nI_pos (by omega))]
      exact ⟨k5, rfl, w5⟩
