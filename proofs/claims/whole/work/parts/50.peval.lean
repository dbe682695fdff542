/-! ===== pure: what a clause's tests come to ===== -/
def factS (r : Nat → Int32) (q : Int32) (f : Nat) : Int32 := if f = 0 then r 1 else if f = 1 then r 3 else if f = 2 then r 1 - r 3 else if f = 3 then r 5 else if f = 4 then r 2 else if f = 5 then 1 - r 4 else if f = 6 then r 6 else if f = 7 then r 7 else if f = 8 then r 8 else q
def testS (v : Int32) (g n : Nat) : Bool := if g = 0 then decide (v < nI n) else if g = 1 then decide (v = nI n) else decide (nI n < v)
def stepS (r : Nat → Int32) (q t : Int32) (st : List Bool) : List Bool :=
  if t = -33 then (match st with | b :: m => (!b) :: m | [] => [])
  else if t = -38 then (match st with | b :: a :: m => (a && b) :: m | m => m)
  else if t = -124 then (match st with | b :: a :: m => (a || b) :: m | m => m)
  else testS (factS r q (t.toNatClampNeg / 10000)) (t.toNatClampNeg / 100 % 100 - 60) (t.toNatClampNeg % 100) :: st
def runS (r : Nat → Int32) (q : Int32) (f : Nat → Int32) : Nat → Nat → List Bool → List Bool
  | 0, _, st => st
  | n + 1, i, st => runS r q f n (i + 1) (stepS r q (f i) st)
def tokT (f g n : Nat) : Nat := 10000 * f + 100 * (60 + g) + n
theorem tok_ne {f g n : Nat} (hf : f < 10) (hg : g < 3) (hn : n < 100) : ¬ nI (tokT f g n) = -33 ∧ ¬ nI (tokT f g n) = -38 ∧ ¬ nI (tokT f g n) = -124 ∧ 0 ≤ nI (tokT f g n) := by
  have h : tokT f g n < 2 ^ 31 := by unfold tokT; omega
  have p := nI_pos' h
  have e := nI_toInt h
  refine ⟨fun q => ?_, fun q => ?_, fun q => ?_, p⟩ <;> (rw [q] at e; have : (0:Int) ≤ (tokT f g n : Nat) := Int.natCast_nonneg _; revert e; simp <;> omega)
theorem stepS_test {r : Nat → Int32} {q : Int32} {st : List Bool} {f g n : Nat} (hf : f < 10) (hg : g < 3) (hn : n < 100) : stepS r q (nI (tokT f g n)) st = testS (factS r q f) g n :: st := by
  have h : tokT f g n < 2 ^ 31 := by unfold tokT; omega
  obtain ⟨n1, n2, n3, -⟩ := tok_ne hf hg hn
  unfold stepS
  rw [if_neg n1, if_neg n2, if_neg n3, nI_clamp h, show tokT f g n / 10000 = f by unfold tokT; omega, show tokT f g n / 100 % 100 - 60 = g by unfold tokT; omega, show tokT f g n % 100 = n by unfold tokT; omega]
theorem C_value {a0 f : Nat} {r : Nat → Int32} {h : Hp} {q : Int32} (hf : f < 10) (hr : ∀ k, k < 10 → gi h a0 k = r k) : m_X0_valueOf a0 (nI f) q h = some (factS r q f, h) := by
  have h1 := hr 1 (by decide)
  have h2 := hr 2 (by decide)
  have h3 := hr 3 (by decide)
  have h4 := hr 4 (by decide)
  have h5 := hr 5 (by decide)
  have h6 := hr 6 (by decide)
  have h7 := hr 7 (by decide)
  have h8 := hr 8 (by decide)
  unfold m_X0_valueOf
  rw [h1, h2, h3, h4, h5, h6, h7, h8]
  rcases (show f = 0 ∨ f = 1 ∨ f = 2 ∨ f = 3 ∨ f = 4 ∨ f = 5 ∨ f = 6 ∨ f = 7 ∨ f = 8 ∨ f = 9 by omega) with rfl | rfl | rfl | rfl | rfl | rfl | rfl | rfl | rfl | rfl <;> rfl
theorem C_passes {v : Int32} {g n : Nat} {h : Hp} (hg : g < 3) : m_X3_passes v (nI g) (nI n) h = some (bI (testS v g n), h) := by
  unfold m_X3_passes testS
  have e : ∀ a b : Int32, (if a ≤ b then some ((0 : Int32), h) else some (1, h)) = some (bI (decide (b < a)), h) := by
    intro a b
    by_cases q : a ≤ b
    · rw [if_pos q, decide_eq_false (by rw [Int32.lt_iff_toInt_lt]; rw [Int32.le_iff_toInt_le] at q; omega)]; rfl
    · rw [if_neg q, decide_eq_true (by rw [Int32.lt_iff_toInt_lt]; rw [Int32.le_iff_toInt_le] at q; omega)]; rfl
  rcases (show g = 0 ∨ g = 1 ∨ g = 2 by omega) with rfl | rfl | rfl
  · rw [if_pos (show nI 0 = 0 from rfl), e]; rfl
  · rw [if_neg (show ¬ nI 1 = 0 by decide), if_pos (show nI 1 = 1 from rfl), if_neg (show ¬ (1 : Nat) = 0 by decide), if_pos (show (1 : Nat) = 1 from rfl)]
    by_cases q : v = nI n
    · rw [if_pos q, decide_eq_true q]; rfl
    · rw [if_neg q, decide_eq_false q]; rfl
  · rw [if_neg (show ¬ nI 2 = 0 by decide), if_neg (show ¬ nI 2 = 1 by decide), if_neg (show ¬ (2 : Nat) = 0 by decide), if_neg (show ¬ (2 : Nat) = 1 by decide), e]
def StkC (x : Int64) (st : List Bool) : Prop := ∀ i, i < st.length → x.toBitVec.getLsbD i = st.getD i false
theorem stk_push {x : Int64} {st : List Bool} (h : StkC x st) (hl : st.length < 63) (b : Bool) : StkC (x <<< ((1 : Int32).toInt64 &&& 63) ||| (bI b).toInt64) (b :: st) := by
  intro i hi
  have e1 : ((1 : Int32).toInt64 &&& 63).toBitVec.smod 64 = 1#64 := by decide
  have e2 : (x <<< ((1 : Int32).toInt64 &&& 63)).toBitVec = x.toBitVec <<< 1 := by
    show x.toBitVec <<< (((1 : Int32).toInt64 &&& 63).toBitVec.smod 64) = _
    rw [e1]; rfl
  rw [Int64.toBitVec_or, BitVec.getLsbD_or, e2, BitVec.getLsbD_shiftLeft]
  simp only [List.length_cons] at hi
  have hb : ∀ j, (bI b).toInt64.toBitVec.getLsbD j = (decide (j = 0) && b) := by
    intro j
    cases b
    · show (0#64).getLsbD j = _
      simp
    · show (1#64).getLsbD j = _
      simp [BitVec.getLsbD_one]
  rw [hb]
  cases i with
  | zero => simp
  | succ k =>
    have := h k (by omega)
    simp [show k + 1 < 64 by omega, this]
theorem stk_not {x : Int64} {b : Bool} {m : List Bool} (h : StkC x (b :: m)) : StkC (x ^^^ 1) ((!b) :: m) := by
  intro i hi
  have hi' := h i hi
  rw [Int64.toBitVec_xor, BitVec.getLsbD_xor, hi']
  rw [show (1 : Int64).toBitVec = 1#64 from rfl]
  cases i with
  | zero => simp
  | succ k => simp [BitVec.getLsbD_one]
theorem ushr1 (x : Int64) : ((x.toUInt64 >>> ((1 : Int32).toInt64.toUInt64 &&& Int64.toUInt64 63)).toInt64).toBitVec = x.toBitVec >>> 1 := by
  have e1 : ((1 : Int32).toInt64.toUInt64 &&& Int64.toUInt64 63).toBitVec % 64 = 1#64 := by decide
  show x.toBitVec >>> (((1 : Int32).toInt64.toUInt64 &&& Int64.toUInt64 63).toBitVec % 64) = _
  rw [e1]; rfl
theorem stk_and {x : Int64} {a b : Bool} {m : List Bool} (h : StkC x (b :: a :: m)) (hl : m.length < 60) : StkC (((x.toUInt64 >>> ((1 : Int32).toInt64.toUInt64 &&& Int64.toUInt64 63)).toInt64) &&& (x ||| (-2))) ((a && b) :: m) := by
  intro i hi
  simp only [List.length_cons] at hi
  have h0 := h 0 (by simp)
  have h1 := h (i + 1) (by simp only [List.length_cons]; omega)
  rw [Int64.toBitVec_and, BitVec.getLsbD_and, ushr1, BitVec.getLsbD_ushiftRight, Int64.toBitVec_or, BitVec.getLsbD_or, Nat.add_comm 1 i, h1]
  have e : ∀ j, j < 64 → ((-2 : Int64).toBitVec).getLsbD j = !decide (j = 0) := by decide +kernel
  rw [e i (by omega)]
  cases i with
  | zero => simp at h0 ⊢; rw [h0]
  | succ k => simp
theorem stk_or {x : Int64} {a b : Bool} {m : List Bool} (h : StkC x (b :: a :: m)) (hl : m.length < 60) : StkC (((x.toUInt64 >>> ((1 : Int32).toInt64.toUInt64 &&& Int64.toUInt64 63)).toInt64) ||| (x &&& 1)) ((a || b) :: m) := by
  intro i hi
  simp only [List.length_cons] at hi
  have h0 := h 0 (by simp)
  have h1 := h (i + 1) (by simp only [List.length_cons]; omega)
  rw [Int64.toBitVec_or, BitVec.getLsbD_or, ushr1, BitVec.getLsbD_ushiftRight, Int64.toBitVec_and, BitVec.getLsbD_and, Nat.add_comm 1 i, h1]
  rw [show (1 : Int64).toBitVec = 1#64 from rfl]
  cases i with
  | zero => simp at h0 ⊢; rw [h0]
  | succ k => simp [BitVec.getLsbD_one]
theorem dp_not {d e : Nat} (h : dpS (-33) d = some e) : 1 ≤ d ∧ e = d := by
  unfold dpS at h
  rw [if_pos rfl] at h
  by_cases q : 1 ≤ d
  · rw [if_pos q] at h; exact ⟨q, (Option.some.inj h).symm⟩
  · rw [if_neg q] at h; cases h
theorem dp_bin {t : Int32} {d e : Nat} (ht : t = -38 ∨ t = -124) (h : dpS t d = some e) : 2 ≤ d ∧ e = d - 1 := by
  unfold dpS at h
  rw [if_neg (by rcases ht with rfl | rfl <;> decide), if_pos ht] at h
  by_cases q : 2 ≤ d
  · rw [if_pos q] at h; exact ⟨q, (Option.some.inj h).symm⟩
  · rw [if_neg q] at h; cases h
theorem dp_test {f g n d e : Nat} (hf : f < 10) (hg : g < 3) (hn : n < 100) (h : dpS (nI (tokT f g n)) d = some e) : d < 60 ∧ e = d + 1 := by
  obtain ⟨n1, n2, n3, -⟩ := tok_ne hf hg hn
  unfold dpS at h
  rw [if_neg n1, if_neg (fun q => q.elim n2 n3)] at h
  by_cases q : d < 60
  · rw [if_pos q] at h; exact ⟨q, (Option.some.inj h).symm⟩
  · rw [if_neg q] at h; cases h
theorem dpN_succ {f : Nat → Int32} {n i d e : Nat} (h : dpN f (n + 1) i d = some e) : ∃ d', dpS (f i) d = some d' ∧ dpN f n (i + 1) d' = some e := by
  unfold dpN at h
  cases q : dpS (f i) d with
  | none => rw [q] at h; cases h
  | some d' => rw [q] at h; exact ⟨d', rfl, h⟩
theorem and1_bit (x : Int64) : (x &&& 1 = 1) ↔ x.toBitVec.getLsbD 0 = true := by
  constructor
  · intro h
    have := congrArg (fun y : Int64 => y.toBitVec.getLsbD 0) h
    simp only [Int64.toBitVec_and, BitVec.getLsbD_and] at this
    rw [show (1 : Int64).toBitVec = 1#64 from rfl] at this
    simpa using this
  · intro h
    apply Int64.toBitVec_inj.mp
    rw [Int64.toBitVec_and, show (1 : Int64).toBitVec = 1#64 from rfl]
    apply BitVec.eq_of_getLsbD_eq
    intro i hi
    rw [BitVec.getLsbD_and, BitVec.getLsbD_one]
    by_cases hi0 : i = 0
    · subst hi0; simp [h]
    · simp [hi0]
theorem C_holds_loop {B k e b0 : Nat} {h : Hp} {f : Nat → Int32} {a2 : Nat} {r : Nat → Int32} {q : Int32} (hk : k < 8) (he : e ≤ 100) (estop : gi h (B + 4) k = nI e) (hr : ∀ k, k < 10 → gi h a2 k = r k) :
    ∀ n rem i st x, i + rem = e → rem < n → (∀ j, i ≤ j → j < e → TokR (gi h (B + 5) j) (f (b0 + j))) → StkC x st → st.length ≤ 60 → dpN f rem (b0 + i) st.length = some 1 → m_X3_holds_L11 n B (nI k) a2 q x (nI i) h = some (bI ((runS r q f rem (b0 + i) st).headD false), h)
  | 0, rem, i, st, x, h1, h2, _, _, _, _ => by omega
  | n + 1, 0, i, st, x, h1, h2, ht, hs, hl, hd => by
    unfold m_X3_holds_L11
    have hd1 : st.length = 1 := Option.some.inj hd
    rw [ck_true _ (inb_nI hk (by decide)), nI_clamp (show k < 2 ^ 31 by omega), estop, if_pos (nI_le (by omega) (by omega))]
    match st, hd1 with
    | [b], _ =>
      have h0 : x.toBitVec.getLsbD 0 = b := hs 0 (by simp)
      show (if (x &&& 1) = 1 then _ else _) = some (bI b, h)
      cases b
      · rw [if_neg (fun q => by rw [and1_bit, h0] at q; cases q)]; rfl
      · rw [if_pos ((and1_bit x).mpr h0)]; rfl
  | n + 1, rem + 1, i, st, x, h1, h2, ht, hs, hl, hd => by
    obtain ⟨d', hd1, hd2⟩ := dpN_succ hd
    have hT := ht i (Nat.le_refl _) (by omega)
    have ht' : ∀ j, i + 1 ≤ j → j < e → TokR (gi h (B + 5) j) (f (b0 + j)) := fun j hj1 hj2 => ht j (by omega) hj2
    unfold m_X3_holds_L11
    rw [ck_true _ (inb_nI hk (by decide)), nI_clamp (show k < 2 ^ 31 by omega), estop, if_neg (nI_ge (by omega) (by omega)), ck_true _ (inb_nI (by omega) (by decide)), nI_clamp (show i < 2 ^ 31 by omega), vb_eq]
    rw [show runS r q f (rem + 1) (b0 + i) st = runS r q f rem (b0 + (i + 1)) (stepS r q (f (b0 + i)) st) from rfl]
    rw [show b0 + i + 1 = b0 + (i + 1) by omega] at hd2
    rcases hT with ⟨s1, s2⟩ | ⟨s1, s2⟩ | ⟨s1, s2⟩ | ⟨ff, g, m, hf, hg, hm, s1, s2⟩
    · rw [s2] at hd1 ⊢
      obtain ⟨q1, q2⟩ := dp_not hd1
      subst q2
      match st, q1, hs, hl, hd2 with
      | b :: m, _, hs, hl, hd2 =>
        rw [s1, if_pos (by decide), if_pos rfl]
        simp only [vb_eq, nI_1]
        exact C_holds_loop hk he estop hr n rem (i + 1) ((!b) :: m) _ (by omega) (by omega) ht' (stk_not hs) (by simpa using hl) (by simpa using hd2)
    · rw [s2] at hd1 ⊢
      obtain ⟨q1, q2⟩ := dp_bin (Or.inl rfl) hd1
      subst q2
      match st, q1, hs, hl, hd2 with
      | [_], q1, _, _, _ => simp at q1
      | b :: a :: m, _, hs, hl, hd2 =>
        simp only [List.length_cons] at hl
        rw [s1, if_pos (by decide), if_neg (by decide), if_pos rfl]
        simp only [vb_eq, nI_1]
        exact C_holds_loop hk he estop hr n rem (i + 1) ((a && b) :: m) _ (by omega) (by omega) ht' (stk_and hs (by omega)) (by simp only [List.length_cons]; omega) (by simpa using hd2)
    · rw [s2] at hd1 ⊢
      obtain ⟨q1, q2⟩ := dp_bin (Or.inr rfl) hd1
      subst q2
      match st, q1, hs, hl, hd2 with
      | [_], q1, _, _, _ => simp at q1
      | b :: a :: m, _, hs, hl, hd2 =>
        simp only [List.length_cons] at hl
        rw [s1, if_pos (by decide), if_neg (by decide), if_neg (by decide)]
        simp only [vb_eq, nI_1]
        exact C_holds_loop hk he estop hr n rem (i + 1) ((a || b) :: m) _ (by omega) (by omega) ht' (stk_or hs (by omega)) (by simp only [List.length_cons]; omega) (by simpa using hd2)
    · rw [show nI (10000 * ff + 100 * (60 + g) + m) = nI (tokT ff g m) from rfl] at s2
      rw [s2] at hd1 ⊢
      obtain ⟨q1, q2⟩ := dp_test hf hg hm hd1
      subst q2
      rw [stepS_test hf hg hm]
      have hS : (ff * 3 + g) * 100 + m < 2 ^ 31 := by omega
      rw [s1, if_neg (nI_pos hS)]
      rw [show (300 : Int32) = nI 300 from rfl, show (100 : Int32) = nI 100 from rfl, show (3 : Int32) = nI 3 from rfl, pk_rem hS (by decide) (by decide), pk_div hS (by decide) (by decide), pk_div hS (by decide) (by decide), pk_rem (by omega) (by decide) (by decide)]
      rw [show ((ff * 3 + g) * 100 + m) / 300 = ff by omega, show ((ff * 3 + g) * 100 + m) / 100 % 3 = g by omega, show ((ff * 3 + g) * 100 + m) % 100 = m by omega]
      rw [C_value hf hr, cb_some, C_passes hg, cb_some]
      have ih := fun b => C_holds_loop (q := q) hk he estop hr n rem (i + 1) (b :: st) (x <<< ((1 : Int32).toInt64 &&& 63) ||| (bI b).toInt64) (by omega) (by omega) ht' (stk_push hs (by omega) b) (by simp only [List.length_cons]; omega) (by simpa using hd2)
      cases hb : testS (factS r q ff) g m
      · rw [if_pos (show bI false = 0 from rfl)]
        unfold m_X3_holds_L78
        simp only [vb_eq, nI_1]
        exact ih false
      · rw [if_neg (show ¬ bI true = 0 by decide)]
        unfold m_X3_holds_L78
        simp only [vb_eq, nI_1]
        exact ih true
def StkM (h : Hp) (st : List Bool) : Prop := ∀ i, i < st.length → gi h 20 i = bI (st.getD (st.length - 1 - i) false)
theorem getD_cons_s (b : Bool) (m : List Bool) (i : Nat) : (b :: m).getD (i + 1) false = m.getD i false := by simp
theorem StkM.tail {h : Hp} {b : Bool} {m : List Bool} (q : StkM h (b :: m)) : StkM h m := by
  intro i hi
  rw [q i (by simp only [List.length_cons]; omega)]
  congr 1
  simp only [List.length_cons]
  rw [show m.length + 1 - 1 - i = (m.length - 1 - i) + 1 by omega, getD_cons_s]
theorem StkM.top {h : Hp} {b : Bool} {m : List Bool} (q : StkM h (b :: m)) : gi h 20 m.length = bI b := by
  rw [q m.length (by simp)]
  congr 1
  simp
theorem StkM.push {h : Hp} {m : List Bool} (q : StkM h m) (b : Bool) : StkM (si h 20 m.length (bI b)) (b :: m) := by
  intro i hi
  simp only [List.length_cons] at hi ⊢
  by_cases him : i = m.length
  · subst him
    rw [gi_si]
    congr 1
    simp
  · rw [gi_si_nk him, q i (by omega)]
    congr 1
    rw [show m.length + 1 - 1 - i = (m.length - 1 - i) + 1 by omega, getD_cons_s]
theorem EqM.pile {g h : Hp} (e : EqM g h) (k : Nat) (v : Int32) : EqM g (si h 20 k v) := ⟨fun a j h1 h2 => by rw [gi_si_ne h1]; exact e.1 a j h1 h2, fun a => e.2 a⟩
theorem EqM.sw {g h : Hp} (e : EqM g h) (v : Int32) : EqM g (si h 1 28 v) := ⟨fun a j h1 h2 => by
  by_cases ha : a = 1
  · subst ha; rw [gi_si_nk (h2 rfl)]; exact e.1 1 j h1 h2
  · rw [gi_si_ne ha]; exact e.1 a j h1 h2, fun a => e.2 a⟩
theorem M_factOf {c f : Nat} {h : Hp} {q : Int32} (hc : c < 24) (hf : f < 10) : m_X9_factOf (nI f) (nI c) q h = some (factS (fun k => gi h 6 (10 * c + k)) q f, h) := by
  have g1 := M_g1 hc h
  have g2 := M_g2 hc h
  have g3 := M_g3 hc h
  have g4 := M_g4 hc h
  have g5 := M_g5 hc h
  have g6 := M_g6 hc h
  have g7 := M_g7 hc h
  have g8 := M_g8 hc h
  unfold m_X9_factOf m_X9_openOf
  rw [g1, g2, g3, g4, g5, g6, g7, g8]
  simp only [cb_some]
  rw [g3]
  rcases (show f = 0 ∨ f = 1 ∨ f = 2 ∨ f = 3 ∨ f = 4 ∨ f = 5 ∨ f = 6 ∨ f = 7 ∨ f = 8 ∨ f = 9 by omega) with rfl | rfl | rfl | rfl | rfl | rfl | rfl | rfl | rfl | rfl <;> rfl
/-- the same but for the pile; the note of swearing is z -/
def EqK (z : Int32) (g h : Hp) : Prop := EqM g h ∧ gi h 1 28 = z
theorem EqK.i {z : Int32} {h k : Hp} (p : EqK z h k) {a : Nat} (j : Nat) (h1 : a ≠ 20) (h2 : a ≠ 1) : gi k a j = gi h a j := p.1.i j h1 h2
theorem EqK.f {z : Int32} {h k : Hp} (p : EqK z h k) {a : Nat} (h1 : a ≠ 20) (h2 : a ≠ 1) : gi k a = gi h a := p.1.f h1 h2
theorem EqK.o {z : Int32} {h k : Hp} (p : EqK z h k) {j : Nat} (h1 : j ≠ 28) : gi k 1 j = gi h 1 j := p.1.o h1
theorem EqK.pile {z : Int32} {g h : Hp} (e : EqK z g h) (k : Nat) (v : Int32) : EqK z g (si h 20 k v) := ⟨e.1.pile k v, by rw [gi_si_ne (by decide)]; exact e.2⟩
theorem EqK.sw {z : Int32} {g h : Hp} (e : EqK z g h) (v : Int32) : EqK v g (si h 1 28 v) := ⟨e.1.sw v, gi_si _ _ _ _⟩
theorem EqK.of {g h : Hp} (e : EqM g h) : EqK (gi h 1 28) g h := ⟨e, rfl⟩
theorem M_holds_loop {kk e c : Nat} {g : Hp} {q z : Int32} (hk : kk < 48) (he : e ≤ 600) (hc : c < 24) (estop : gi g 12 kk = nI e) :
    ∀ n rem i st (h : Hp), i + rem = e → rem < n → (∀ j, i ≤ j → j < e → ∃ s, TokR s (gi g 18 j)) → EqK z g h → StkM h st → st.length ≤ 60 → dpN (gi g 18) rem i st.length = some 1 → ∃ h', m_X9_holds_L11 n (nI kk) (nI c) q (nI st.length) (nI i) h = some (bI ((runS (fun k => gi g 6 (10 * c + k)) q (gi g 18) rem i st).headD false), h') ∧ EqK z g h'
  | 0, rem, i, st, h, h1, h2, _, _, _, _, _ => by omega
  | n + 1, 0, i, st, h, h1, h2, ht, eq, hs, hl, hd => by
    unfold m_X9_holds_L11
    have hd1 : st.length = 1 := Option.some.inj hd
    rw [ck_true _ (inb_nI hk (by decide)), nI_clamp (show kk < 2 ^ 31 by omega), eq.i kk (by decide) (by decide), estop, if_pos (nI_le (by omega) (by omega))]
    match st, hd1 with
    | [b], _ =>
      have h0 : gi h 20 (0 : Int32).toNatClampNeg = bI b := hs 0 (by simp)
      rw [h0, ck_true _ (isb_bI b)]
      exact ⟨h, rfl, eq⟩
  | n + 1, rem + 1, i, st, h, h1, h2, ht, eq, hs, hl, hd => by
    obtain ⟨d', hd1, hd2⟩ := dpN_succ hd
    obtain ⟨s, hT⟩ := ht i (Nat.le_refl _) (by omega)
    have ht' : ∀ j, i + 1 ≤ j → j < e → ∃ s, TokR s (gi g 18 j) := fun j hj1 hj2 => ht j (by omega) hj2
    unfold m_X9_holds_L11
    rw [ck_true _ (inb_nI hk (by decide)), nI_clamp (show kk < 2 ^ 31 by omega), eq.i kk (by decide) (by decide), estop, if_neg (nI_ge (by omega) (by omega)), ck_true _ (inb_nI (by omega) (by decide)), nI_clamp (show i < 2 ^ 31 by omega), vb_eq, eq.i i (by decide) (by decide)]
    rw [show runS (fun k => gi g 6 (10 * c + k)) q (gi g 18) (rem + 1) i st = runS (fun k => gi g 6 (10 * c + k)) q (gi g 18) rem (i + 1) (stepS (fun k => gi g 6 (10 * c + k)) q (gi g 18 i) st) from rfl]
    rcases hT with ⟨-, s2⟩ | ⟨-, s2⟩ | ⟨-, s2⟩ | ⟨ff, gg, m, hf, hg, hm, -, s2⟩
    · rw [s2] at hd1 ⊢
      rw [if_pos rfl]
      obtain ⟨q1, q2⟩ := dp_not hd1
      subst q2
      match st, q1, hs, hl, hd2 with
      | b :: m, _, hs, hl, hd2 =>
        simp only [List.length_cons] at hl hd2 ⊢
        rw [nI_pred, ck_true _ (inb_nI (by omega) (by decide)), nI_clamp (show m.length < 2 ^ 31 by omega), hs.top]
        have ih := M_holds_loop (q := q) hk he hc estop n rem (i + 1) ((!b) :: m) (si h 20 m.length (bI !b)) (by omega) (by omega) ht' (eq.pile _ _) (hs.tail.push _) (by simpa using hl) (by simpa using hd2)
        obtain ⟨h', p, w⟩ := ih
        refine ⟨h', ?_, w⟩
        rw [show stepS (fun k => gi g 6 (10 * c + k)) q (-33) (b :: m) = (!b) :: m from rfl, ← p]
        unfold m_X9_holds_L63
        cases b
        · rw [if_pos (show bI false = 0 from rfl), ck_true _ (inb_nI (by omega) (by decide)), ck_true _ isb_1, nI_clamp (show m.length < 2 ^ 31 by omega)]
          simp only [hb_eq, vb_eq, nI_1, List.length_cons]; rfl
        · rw [if_neg (show ¬ bI true = 0 by decide), ck_true _ (inb_nI (by omega) (by decide)), ck_true _ isb_0, nI_clamp (show m.length < 2 ^ 31 by omega)]
          simp only [hb_eq, vb_eq, nI_1, List.length_cons]; rfl
    · rw [s2] at hd1 ⊢
      rw [if_neg (by decide), if_neg (by decide), vb_eq, if_pos rfl]
      obtain ⟨q1, q2⟩ := dp_bin (Or.inl rfl) hd1
      subst q2
      match st, q1, hs, hl, hd2 with
      | [_], q1, _, _, _ => simp at q1
      | b :: a :: m, _, hs, hl, hd2 =>
        simp only [List.length_cons] at hl hd2 ⊢
        have ih := M_holds_loop (q := q) hk he hc estop n rem (i + 1) ((a && b) :: m) (si h 20 m.length (bI (a && b))) (by omega) (by omega) ht' (eq.pile _ _) (hs.tail.tail.push _) (by simp only [List.length_cons]; omega) (by simpa using hd2)
        obtain ⟨h', p, w⟩ := ih
        refine ⟨h', ?_, w⟩
        rw [show stepS (fun k => gi g 6 (10 * c + k)) q (-38) (b :: a :: m) = (a && b) :: m from rfl, ← p]
        have tb : gi h 20 (m.length + 1) = bI b := hs.top
        have ta : gi h 20 m.length = bI a := hs.tail.top
        rw [pk_m1, nI_pred, ck_true _ (inb_nI (by omega) (by decide)), nI_clamp (show m.length < 2 ^ 31 by omega), ck_true _ (inb_nI (by omega) (by decide)), nI_clamp (show m.length + 1 < 2 ^ 31 by omega), tb, ta]
        unfold m_X9_holds_L116 m_X9_holds_L147
        rw [ck_true _ (inb_nI (show m.length < 100 by omega) (by decide)), ck_true _ (inb_nI (show m.length < 100 by omega) (by decide)), ck_true _ isb_0, ck_true _ isb_1, nI_clamp (show m.length < 2 ^ 31 by omega)]
        simp only [hb_eq, vb_eq, nI_1, List.length_cons]
        cases a <;> cases b <;> rfl
    · rw [s2] at hd1 ⊢
      rw [if_neg (by decide), if_neg (by decide), vb_eq, if_neg (by decide)]
      obtain ⟨q1, q2⟩ := dp_bin (Or.inr rfl) hd1
      subst q2
      match st, q1, hs, hl, hd2 with
      | [_], q1, _, _, _ => simp at q1
      | b :: a :: m, _, hs, hl, hd2 =>
        simp only [List.length_cons] at hl hd2 ⊢
        have ih := M_holds_loop (q := q) hk he hc estop n rem (i + 1) ((a || b) :: m) (si h 20 m.length (bI (a || b))) (by omega) (by omega) ht' (eq.pile _ _) (hs.tail.tail.push _) (by simp only [List.length_cons]; omega) (by simpa using hd2)
        obtain ⟨h', p, w⟩ := ih
        refine ⟨h', ?_, w⟩
        rw [show stepS (fun k => gi g 6 (10 * c + k)) q (-124) (b :: a :: m) = (a || b) :: m from rfl, ← p]
        have tb : gi h 20 (m.length + 1) = bI b := hs.top
        have ta : gi h 20 m.length = bI a := hs.tail.top
        rw [pk_m1, nI_pred, ck_true _ (inb_nI (by omega) (by decide)), nI_clamp (show m.length < 2 ^ 31 by omega), ck_true _ (inb_nI (by omega) (by decide)), nI_clamp (show m.length + 1 < 2 ^ 31 by omega), tb, ta]
        unfold m_X9_holds_L142 m_X9_holds_L147
        rw [ck_true _ (inb_nI (show m.length < 100 by omega) (by decide)), ck_true _ (inb_nI (show m.length < 100 by omega) (by decide)), ck_true _ isb_0, ck_true _ isb_1, nI_clamp (show m.length < 2 ^ 31 by omega)]
        simp only [hb_eq, vb_eq, nI_1, List.length_cons]
        cases a <;> cases b <;> rfl
    · rw [show nI (10000 * ff + 100 * (60 + gg) + m) = nI (tokT ff gg m) from rfl] at s2
      rw [s2] at hd1 ⊢
      obtain ⟨q1, q2⟩ := dp_test hf hg hm hd1
      subst q2
      rw [stepS_test hf hg hm]
      obtain ⟨n1, n2, n3, n4⟩ := tok_ne hf hg hm
      have hS : tokT ff gg m < 2 ^ 31 := by unfold tokT; omega
      rw [if_neg n1, if_pos n4]
      rw [show (10000 : Int32) = nI 10000 from rfl, show (100 : Int32) = nI 100 from rfl, pk_rem hS (by decide) (by decide), pk_div hS (by decide) (by decide), pk_div hS (by decide) (by decide), pk_rem (by omega) (by decide) (by decide)]
      rw [show tokT ff gg m / 10000 = ff by unfold tokT; omega, show tokT ff gg m / 100 % 100 = 60 + gg by unfold tokT; omega, show tokT ff gg m % 100 = m by unfold tokT; omega]
      rw [M_factOf hc hf, cb_some, vb_eq]
      have er : (fun k => gi h 6 (10 * c + k)) = fun k => gi g 6 (10 * c + k) := by funext k; exact eq.i _ (by decide) (by decide)
      rw [er]
      generalize factS (fun k => gi g 6 (10 * c + k)) q ff = v
      obtain ⟨h', p, w⟩ := M_holds_loop (q := q) hk he hc estop n rem (i + 1) (testS v gg m :: st) (si h 20 st.length (bI (testS v gg m))) (by omega) (by omega) ht' (eq.pile _ _) (hs.push _) (by simp only [List.length_cons]; omega) (by simpa using hd2)
      refine ⟨h', ?_, w⟩
      rw [← p]
      unfold m_X9_holds_L246
      rw [ck_true _ (inb_nI (show st.length < 100 by omega) (by decide)), ck_true _ (inb_nI (show st.length < 100 by omega) (by decide)), ck_true _ isb_0, ck_true _ isb_1, nI_clamp (show st.length < 2 ^ 31 by omega)]
      simp only [hb_eq, vb_eq, nI_1, List.length_cons]
      unfold testS
      have e : ∀ (a b : Int32) (X Y : Option (Int32 × Hp)), (if a ≤ b then X else Y) = if decide (b < a) = true then Y else X := by
        intro a b X Y
        by_cases q : a ≤ b
        · rw [if_pos q, decide_eq_false (by rw [Int32.lt_iff_toInt_lt]; rw [Int32.le_iff_toInt_le] at q; omega)]; rfl
        · rw [if_neg q, decide_eq_true (by rw [Int32.lt_iff_toInt_lt]; rw [Int32.le_iff_toInt_le] at q; omega)]; rfl
      rcases (show gg = 0 ∨ gg = 1 ∨ gg = 2 by omega) with rfl | rfl | rfl
      · rw [if_pos (show nI (60 + 0) = 60 from rfl), e, if_pos rfl]
        cases decide (v < nI m) <;> rfl
      · rw [if_neg (show ¬ nI (60 + 1) = 60 by decide), if_pos (show nI (60 + 1) = 61 from rfl), if_neg (show ¬ (1 : Nat) = 0 by decide), if_pos (show (1 : Nat) = 1 from rfl)]
        by_cases qv : v = nI m
        · rw [if_pos qv, decide_eq_true qv]; rfl
        · rw [if_neg qv, decide_eq_false qv]; rfl
      · rw [if_neg (show ¬ nI (60 + 2) = 60 by decide), if_neg (show ¬ nI (60 + 2) = 61 by decide), e, if_neg (show ¬ (2 : Nat) = 0 by decide), if_neg (show ¬ (2 : Nat) = 1 by decide)]
        cases decide (nI m < v) <;> rfl
