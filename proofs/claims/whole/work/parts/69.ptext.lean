/-! ===== pure: reading THE TEXT, sign by sign ===== -/
/-- one sign: the class's number, the reference's, and its code (128: none that a law has) -/
def ChR (a b : Int32) (t : Nat) : Prop := (t < 128 ∧ a = nI t ∧ b = nI t) ∨ (t = 128 ∧ (a = -1 ∨ ∃ c, 128 ≤ c ∧ c < 256 ∧ a = nI c) ∧ b < 0)
theorem byte_dec : ∀ c, c < 256 → (c < 128 ∧ (nI c).toInt8.toInt32 = nI c) ∨ (128 ≤ c ∧ (nI c).toInt8.toInt32 < 0) := by decide +kernel
theorem ChR.ex {b : Nat} (hb : b < 256) : ∃ t, t ≤ 128 ∧ ChR (nI b) ((nI b).toInt8.toInt32) t := by
  rcases byte_dec b hb with ⟨h1, h2⟩ | ⟨h1, h2⟩
  · exact ⟨b, by omega, Or.inl ⟨h1, rfl, h2⟩⟩
  · exact ⟨128, Nat.le_refl _, Or.inr ⟨rfl, Or.inr ⟨b, h1, hb, rfl⟩, h2⟩⟩
theorem ChR.a {a b : Int32} {t x : Nat} (h : ChR a b t) (hx : x < 128) : a = nI x ↔ t = x := by
  rcases h with ⟨h1, h2, -⟩ | ⟨h1, h2, -⟩
  · rw [h2, nI_eq (by omega) (by omega)]
  · constructor
    · intro e
      rcases h2 with h2 | ⟨c, c1, c2, h2⟩
      · exfalso
        rw [h2] at e
        have := congrArg Int32.toInt e
        rw [nI_toInt (by omega)] at this
        have z : (-1 : Int32).toInt = -1 := rfl
        omega
      · rw [h2, nI_eq (by omega) (by omega)] at e; omega
    · intro e; omega
theorem ChR.b {a b : Int32} {t x : Nat} (h : ChR a b t) (hx : x < 128) : b = nI x ↔ t = x := by
  rcases h with ⟨h1, -, h2⟩ | ⟨h1, -, h2⟩
  · rw [h2, nI_eq (by omega) (by omega)]
  · constructor
    · intro e
      exact absurd (e ▸ h2) (nI_pos (by omega))
    · intro e; omega
/-- where the two readers stand -/
def PT (nf : Nat) (t : Nat → Nat) (p : Nat) (hC hM : Hp) : Prop := nf ≤ 100 ∧ p ≤ nf ∧ gi hC 9 1 = nI nf ∧ gi hM 1 8 = nI nf ∧ gi hC 9 2 = nI p ∧ gi hM 1 9 = nI p ∧ ∀ i, ChR (if i < nf then gi hC 10 i else -1) (if i < nf then gi hM 7 i else -1) (t i)
def AdvC (h h' : Hp) : Prop := (∀ a j, ¬ (a = 9 ∧ j = 2) → gi h' a j = gi h a j) ∧ (∀ a, gl h' a = gl h a) ∧ ∀ a, gr h' a = gr h a
def AdvM (h h' : Hp) : Prop := (∀ a j, ¬ (a = 1 ∧ (j = 9 ∨ j = 23)) → gi h' a j = gi h a j) ∧ ∀ a, gl h' a = gl h a
theorem AdvC.rfl' (h : Hp) : AdvC h h := ⟨fun _ _ _ => rfl, fun _ => rfl, fun _ => rfl⟩
theorem AdvM.rfl' (h : Hp) : AdvM h h := ⟨fun _ _ _ => rfl, fun _ => rfl⟩
theorem AdvC.trans {h k l : Hp} (p : AdvC h k) (q : AdvC k l) : AdvC h l := ⟨fun a j e => (q.1 a j e).trans (p.1 a j e), fun a => (q.2.1 a).trans (p.2.1 a), fun a => (q.2.2 a).trans (p.2.2 a)⟩
theorem AdvM.trans {h k l : Hp} (p : AdvM h k) (q : AdvM k l) : AdvM h l := ⟨fun a j e => (q.1 a j e).trans (p.1 a j e), fun a => (q.2 a).trans (p.2 a)⟩
theorem advC_si (h : Hp) (v : Int32) : AdvC h (si h 9 2 v) := ⟨fun a j e => by rw [gi_si_if, if_neg e], fun _ => rfl, fun _ => rfl⟩
theorem advM_si (h : Hp) (j : Nat) (v : Int32) (hj : j = 9 ∨ j = 23) : AdvM h (si h 1 j v) := ⟨fun a i e => by rw [gi_si_if, if_neg (fun q => e ⟨q.1, by rw [q.2]; exact hj⟩)], fun _ => rfl⟩
theorem PT.adv {nf p p' : Nat} {t : Nat → Nat} {hC hM kC kM : Hp} (P : PT nf t p hC hM) (c : AdvC hC kC) (m : AdvM hM kM) (e1 : gi kC 9 2 = nI p') (e2 : gi kM 1 9 = nI p') (hp : p' ≤ nf) : PT nf t p' kC kM := by
  obtain ⟨a1, a2, a3, a4, a5, a6, a7⟩ := P
  refine ⟨a1, hp, by rw [c.1 9 1 (by decide)]; exact a3, by rw [m.1 1 8 (by decide)]; exact a4, e1, e2, fun i => ?_⟩
  rw [c.1 10 i (by omega), m.1 7 i (by omega)]
  exact a7 i
theorem PT.one {nf p : Nat} {t : Nat → Nat} {hC hM : Hp} (P : PT nf t p hC hM) (hp : p < nf) : PT nf t (p + 1) (si hC 9 2 (nI (p + 1))) (si hM 1 9 (nI (p + 1))) :=
  P.adv (advC_si _ _) (advM_si _ _ _ (Or.inl rfl)) (gi_si _ _ _ _) (gi_si _ _ _ _) hp
theorem PT.lt {nf p : Nat} {t : Nat → Nat} {hC hM : Hp} (P : PT nf t p hC hM) (h : t p < 128) : p < nf := by
  have c := P.2.2.2.2.2.2 p
  by_cases q : p < nf
  · exact q
  · rw [if_neg q, if_neg q] at c
    rcases c with ⟨-, -, e⟩ | ⟨e, -⟩
    · have := congrArg Int32.toInt e
      rw [nI_toInt (by omega)] at this
      have z : (-1 : Int32).toInt = -1 := rfl
      omega
    · omega
theorem C_here {nf p : Nat} {t : Nat → Nat} {hC hM : Hp} (P : PT nf t p hC hM) : m_X4_here hC = some ((if p < nf then gi hC 10 p else -1), hC) := by
  obtain ⟨a1, a2, a3, a4, a5, a6, a7⟩ := P
  unfold m_X4_here
  rw [a5, a3, if_neg (nI_pos (by omega))]
  by_cases q : p < nf
  · rw [if_pos q, if_neg (nI_ge (by omega) (by omega)), if_neg (show ¬ (100 : Int32) ≤ nI p from nI_ge (a := p) (b := 100) (by omega) (by decide)), ck_true _ (inb_nI (by omega) (by decide)), nI_clamp (by omega)]
  · rw [if_neg q, if_pos (nI_le (by omega) (by omega))]
theorem M_next {nf p : Nat} {t : Nat → Nat} {hC hM : Hp} (P : PT nf t p hC hM) : m_X9_next hM = some ((if p < nf then gi hM 7 p else -1), hM) := by
  obtain ⟨a1, a2, a3, a4, a5, a6, a7⟩ := P
  unfold m_X9_next
  rw [a6, a4]
  by_cases q : p < nf
  · rw [if_pos q, if_neg (nI_ge (by omega) (by omega)), ck_true _ (inb_nI (by omega) (by decide)), nI_clamp (by omega)]
  · rw [if_neg q, if_pos (nI_le (by omega) (by omega))]
theorem C_pass {nf p x : Nat} {t : Nat → Nat} {hC hM : Hp} (P : PT nf t p hC hM) (hx : x < 128) {X : Int32} (hX : X = nI x) : m_X4_pass X hC = if t p = x then some (1, si hC 9 2 (nI (p + 1))) else some (0, hC) := by
  subst hX
  unfold m_X4_pass
  rw [C_here P, cb_some]
  have c := (P.2.2.2.2.2.2 p).a hx
  by_cases e : t p = x
  · rw [if_pos (c.mpr e), if_pos e, hb_eq, P.2.2.2.2.1, nI_1]
  · rw [if_neg (fun q => e (c.mp q)), if_neg e]
theorem M_takes {nf p x : Nat} {t : Nat → Nat} {hC hM : Hp} (P : PT nf t p hC hM) (hx : x < 128) {X : Int32} (hX : X = nI x) : m_X9_takes X hM = if t p = x then some (1, si hM 1 9 (nI (p + 1))) else some (0, hM) := by
  subst hX
  unfold m_X9_takes
  rw [M_next P, cb_some]
  have c := (P.2.2.2.2.2.2 p).b hx
  by_cases e : t p = x
  · rw [if_pos (c.mpr e), if_pos e, hb_eq, P.2.2.2.2.2.1, nI_1]
  · rw [if_neg (fun q => e (c.mp q)), if_neg e]
def isD (t : Nat) : Bool := decide (48 ≤ t ∧ t ≤ 57)
theorem C_fig {a b : Int32} {t : Nat} (c : ChR a b t) (h : Hp) : m_X4_isFigure a h = some (bI (isD t), h) := by
  unfold m_X4_isFigure isD
  have z : (48 : Int32).toInt = 48 := rfl
  have z2 : (57 : Int32).toInt = 57 := rfl
  rcases c with ⟨h1, h2, -⟩ | ⟨h1, h2, -⟩
  · have e := nI_toInt (show t < 2 ^ 31 by omega)
    rw [h2]
    by_cases q : t < 48
    · rw [if_pos (by rw [Int32.lt_iff_toInt_lt]; omega), decide_eq_false (by omega)]; rfl
    · rw [if_neg (by rw [Int32.lt_iff_toInt_lt]; omega)]
      by_cases q2 : 57 < t
      · rw [if_pos (by rw [Int32.lt_iff_toInt_lt]; omega), decide_eq_false (by omega)]; rfl
      · rw [if_neg (by rw [Int32.lt_iff_toInt_lt]; omega), decide_eq_true (by omega)]; rfl
  · rw [decide_eq_false (by omega)]
    rcases h2 with h2 | ⟨c, c1, c2, h2⟩
    · rw [h2, if_pos (by decide)]; rfl
    · have e := nI_toInt (show c < 2 ^ 31 by omega)
      rw [h2, if_neg (by rw [Int32.lt_iff_toInt_lt]; omega), if_pos (by rw [Int32.lt_iff_toInt_lt]; omega)]; rfl
theorem M_digit {nf p : Nat} {t : Nat → Nat} {hC hM : Hp} (P : PT nf t p hC hM) : m_X9_isDigit hM = some (bI (isD (t p)), hM) := by
  have c := P.2.2.2.2.2.2 p
  unfold m_X9_isDigit
  rw [M_next P, cb_some]
  have z : (48 : Int32).toInt = 48 := rfl
  have z2 : (57 : Int32).toInt = 57 := rfl
  have : m_X9_in (if p < nf then gi hM 7 p else -1) 48 57 hM = some (bI (isD (t p)), hM) := by
    unfold m_X9_in isD
    rcases c with ⟨h1, -, h2⟩ | ⟨h1, -, h2⟩
    · have e := nI_toInt (show t p < 2 ^ 31 by omega)
      rw [h2]
      by_cases q : t p < 48
      · rw [if_pos (by rw [Int32.lt_iff_toInt_lt]; omega), decide_eq_false (by omega)]; rfl
      · rw [if_neg (by rw [Int32.lt_iff_toInt_lt]; omega)]
        by_cases q2 : 57 < t p
        · rw [if_pos (by rw [Int32.lt_iff_toInt_lt]; omega), decide_eq_false (by omega)]; rfl
        · rw [if_neg (by rw [Int32.lt_iff_toInt_lt]; omega), decide_eq_true (by omega)]; rfl
    · rw [if_pos (by rw [Int32.lt_iff_toInt_lt] at *; have : (0 : Int32).toInt = 0 := rfl; omega), decide_eq_false (by omega)]; rfl
  rw [this, cb_some, ck_true _ (isb_bI _)]
theorem PT.ch {nf p : Nat} {t : Nat → Nat} {hC hM : Hp} (P : PT nf t p hC hM) (h : t p < 128) : (if p < nf then gi hC 10 p else -1) = nI (t p) ∧ (if p < nf then gi hM 7 p else -1) = nI (t p) := by
  rcases P.2.2.2.2.2.2 p with ⟨h1, h2, h3⟩ | ⟨h1, -⟩
  · exact ⟨h2, h3⟩
  · omega
theorem isD_t {x : Nat} (h : isD x = true) : 48 ≤ x ∧ x ≤ 57 := of_decide_eq_true h
theorem isD_f {x : Nat} (h : isD x = false) : ¬ (48 ≤ x ∧ x ≤ 57) := of_decide_eq_false h
/-- a number: none, where no figure stands; else of one figure or two -/
def numV (t : Nat → Nat) (p : Nat) : Nat := if isD (t (p + 1)) = true then (t p - 48) * 10 + (t (p + 1) - 48) else t p - 48
def numP (t : Nat → Nat) (p : Nat) : Nat := if isD (t (p + 1)) = true then p + 2 else p + 1
theorem C_number {nf p : Nat} {t : Nat → Nat} {hC hM : Hp} (P : PT nf t p hC hM) : m_X4_readNumber hC = if isD (t p) = true then some (nI (numV t p), si hC 9 2 (nI (numP t p))) else some (-1, hC) := by
  unfold m_X4_readNumber
  rw [C_here P, cb_some, C_fig (P.2.2.2.2.2.2 p), cb_some]
  cases hd : isD (t p)
  · rw [if_pos (show bI false = 0 from rfl), if_neg (by decide)]
  · have d := isD_t hd
    have lt := P.lt (by omega)
    have P1 := P.one lt
    have m : ∀ (a v : Int32) , m_X4_here (si hC 9 2 (nI (p + 1))) = some ((if p + 1 < nf then gi (si hC 9 2 (nI (p + 1))) 10 (p + 1) else -1), si hC 9 2 (nI (p + 1))) := fun _ _ => C_here P1
    rw [if_neg (show ¬ bI true = 0 by decide), if_pos rfl, C_here P, cb_some, (P.ch (by omega)).1, vb_eq, hb_eq, P.2.2.2.2.1, nI_1, C_here P1, cb_some, C_fig (P1.2.2.2.2.2.2 (p + 1)), cb_some]
    have e1 : nI (t p) - 48 = nI (t p - 48) := pk_sub (a := t p) (b := 48) (by omega)
    unfold numV numP
    cases hd2 : isD (t (p + 1))
    · rw [if_pos (show bI false = 0 from rfl), if_neg (by decide), if_neg (by decide), e1]
    · have d2 := isD_t hd2
      have lt2 := P1.lt (by omega)
      rw [if_neg (show ¬ bI true = 0 by decide), if_pos rfl, if_pos rfl, C_here P1, cb_some, (P1.ch (by omega)).1, vb_eq, hb_eq, P1.2.2.2.2.1, nI_1, si_si, e1, show (10 : Int32) = nI 10 from rfl, pk_mul, nI_add, show (48 : Int32) = nI 48 from rfl, pk_sub (by omega), show (t p - 48) * 10 + t (p + 1) - 48 = (t p - 48) * 10 + (t (p + 1) - 48) by omega]
theorem num_ok {nf p : Nat} {t : Nat → Nat} {hC hM : Hp} (P : PT nf t p hC hM) (hd : isD (t p) = true) : numV t p ≤ 99 ∧ p < numP t p ∧ numP t p ≤ nf := by
  have d := isD_t hd
  have lt := P.lt (by omega)
  unfold numV numP
  cases hd2 : isD (t (p + 1))
  · rw [if_neg (by decide), if_neg (by decide)]; omega
  · have d2 := isD_t hd2
    have lt2 := (P.one lt).lt (p := p + 1) (by omega)
    rw [if_pos rfl, if_pos rfl]; omega
/-- a number of the reference, plain (0) or as a divisor (1) -/
theorem M_number0 {nf p : Nat} {t : Nat → Nat} {hC hM : Hp} (P : PT nf t p hC hM) : ∃ hM', m_X9_takesNumber 0 hM = (if isD (t p) = true then some (1, hM') else some (0, hM)) ∧ AdvM hM hM' ∧ (isD (t p) = true → gi hM' 1 9 = nI (numP t p) ∧ gi hM' 1 23 = nI (numV t p)) := by
  unfold m_X9_takesNumber
  rw [M_digit P, cb_some]
  cases hd : isD (t p)
  · rw [if_pos (show bI false = 0 from rfl)]
    exact ⟨hM, rfl, AdvM.rfl' _, fun h => Bool.noConfusion h⟩
  · have d := isD_t hd
    have lt := P.lt (by omega)
    have A1 := (advM_si hM 23 (nI (t p - 48)) (Or.inr rfl)).trans (advM_si (si hM 1 23 (nI (t p - 48))) 9 (nI (p + 1)) (Or.inl rfl))
    have P1 : PT nf t (p + 1) (si hC 9 2 (nI (p + 1))) (si (si hM 1 23 (nI (t p - 48))) 1 9 (nI (p + 1))) := P.adv (advC_si _ _) A1 (gi_si _ _ _ _) (gi_si _ _ _ _) lt
    have e1 : nI (t p) - 48 = nI (t p - 48) := pk_sub (a := t p) (b := 48) (by omega)
    rw [if_neg (show ¬ bI true = 0 by decide), M_next P, cb_some, (P.ch (by omega)).2, e1, hb_eq, hb_eq, gi_si_nk (show 9 ≠ 23 by decide), P.2.2.2.2.2.1, nI_1, M_digit P1, cb_some]
    unfold numV numP m_X9_takesNumber_L59 m_X9_takesNumber_L88
    cases hd2 : isD (t (p + 1))
    · rw [if_pos (show bI false = 0 from rfl), if_pos rfl]
      refine ⟨_, rfl, A1, fun _ => ⟨?_, ?_⟩⟩
      · rw [gi_si]; rfl
      · rw [gi_si_nk (by decide), gi_si]; rfl
    · have d2 := isD_t hd2
      rw [if_neg (show ¬ bI true = 0 by decide), if_pos rfl, M_next P1, cb_some, (P1.ch (by omega)).2, hb_eq, hb_eq, gi_si_nk (show 9 ≠ 23 by decide), P1.2.2.2.2.2.1, nI_1, if_pos rfl, gi_si_nk (show 23 ≠ 9 by decide), gi_si]
      refine ⟨_, rfl, (A1.trans (advM_si _ 23 _ (Or.inr rfl))).trans (advM_si _ 9 _ (Or.inl rfl)), fun _ => ⟨?_, ?_⟩⟩
      · rw [gi_si]; rfl
      · rw [gi_si_nk (by decide), gi_si, if_pos rfl, show (10 : Int32) = nI 10 from rfl, pk_mul, nI_add, show (48 : Int32) = nI 48 from rfl, pk_sub (by omega)]
        congr 1
        omega
def divB (t : Nat → Nat) (p : Nat) : Bool := isD (t p) && !(decide (t p = 48) && (!isD (t (p + 1)) || decide (t (p + 1) = 48)))
/-- where a divisor that is none stops -/
def divF (t : Nat → Nat) (p : Nat) : Nat := if t p = 48 then p + 1 else p
theorem C_divisor {nf p : Nat} {t : Nat → Nat} {hC hM : Hp} (P : PT nf t p hC hM) : m_X4_readDivisor hC = if divB t p = true then some (nI (numV t p), si hC 9 2 (nI (numP t p))) else some (-1, si hC 9 2 (nI (divF t p))) := by
  unfold m_X4_readDivisor divB divF
  rw [C_here P, cb_some]
  have c0 := (P.2.2.2.2.2.2 p).a (show 48 < 128 by decide)
  by_cases h48 : t p = 48
  · have lt := P.lt (by omega)
    have P1 := P.one lt
    have c1 := (P1.2.2.2.2.2.2 (p + 1)).a (show 48 < 128 by decide)
    have hd : isD (t p) = true := decide_eq_true (by omega)
    rw [if_pos (show (if p < nf then gi hC 10 p else -1) = 48 from c0.mpr h48), hb_eq, P.2.2.2.2.1, nI_1, C_here P1, cb_some, C_fig (P1.2.2.2.2.2.2 (p + 1)), cb_some, hd, decide_eq_true h48, Bool.true_and, Bool.true_and, if_pos h48]
    unfold numV numP
    cases hd2 : isD (t (p + 1))
    · rw [if_pos (show bI false = 0 from rfl), Bool.not_false, Bool.true_or, Bool.not_true, if_neg (show ¬ false = true by decide)]
    · have d2 := isD_t hd2
      rw [if_neg (show ¬ bI true = 0 by decide), C_here P1, cb_some]
      by_cases h0 : t (p + 1) = 48
      · rw [if_pos (show (if p + 1 < nf then gi (si hC 9 2 (nI (p + 1))) 10 (p + 1) else -1) = 48 from c1.mpr h0), decide_eq_true h0, if_neg (by decide)]
      · rw [if_neg (show ¬ (if p + 1 < nf then gi (si hC 9 2 (nI (p + 1))) 10 (p + 1) else -1) = 48 from fun e => h0 (c1.mp e)), decide_eq_false h0, if_pos (by decide), C_here P1, cb_some, (P1.ch (by omega)).1, vb_eq, hb_eq, P1.2.2.2.2.1, nI_1, si_si, if_pos rfl, if_pos rfl, show (48 : Int32) = nI 48 from rfl, pk_sub (by omega), h48, show (48 - 48) * 10 + (t (p + 1) - 48) = t (p + 1) - 48 by omega]
  · rw [if_neg (show ¬ (if p < nf then gi hC 10 p else -1) = 48 from fun e => h48 (c0.mp e)), C_number P, decide_eq_false h48, Bool.false_and, Bool.not_false, Bool.and_true, if_neg h48]
    cases hd : isD (t p)
    · rw [if_neg (by decide), if_neg (by decide), cb_some, ← P.2.2.2.2.1, si_id]
    · rw [if_pos rfl, if_pos rfl, cb_some]
theorem M_divisor {nf p : Nat} {t : Nat → Nat} {hC hM : Hp} (P : PT nf t p hC hM) : ∃ hM', m_X9_takesNumber 1 hM = some (bI (divB t p), hM') ∧ AdvM hM hM' ∧ gi hM' 1 9 = nI (if divB t p = true then numP t p else divF t p) ∧ (divB t p = true → gi hM' 1 23 = nI (numV t p)) := by
  unfold m_X9_takesNumber divB divF
  rw [M_digit P, cb_some]
  cases hd : isD (t p)
  · have n48 : ¬ t p = 48 := fun e => isD_f hd (by omega)
    rw [if_pos (show bI false = 0 from rfl)]
    refine ⟨hM, rfl, AdvM.rfl' _, ?_, fun h => Bool.noConfusion h⟩
    rw [Bool.false_and, if_neg (by decide), if_neg n48]; exact P.2.2.2.2.2.1
  · have d := isD_t hd
    have lt := P.lt (by omega)
    have A1 := (advM_si hM 23 (nI (t p - 48)) (Or.inr rfl)).trans (advM_si (si hM 1 23 (nI (t p - 48))) 9 (nI (p + 1)) (Or.inl rfl))
    have P1 : PT nf t (p + 1) (si hC 9 2 (nI (p + 1))) (si (si hM 1 23 (nI (t p - 48))) 1 9 (nI (p + 1))) := P.adv (advC_si _ _) A1 (gi_si _ _ _ _) (gi_si _ _ _ _) lt
    have c1 := (P1.2.2.2.2.2.2 (p + 1)).b (show 48 < 128 by decide)
    have e1 : nI (t p) - 48 = nI (t p - 48) := pk_sub (a := t p) (b := 48) (by omega)
    have z0 : (0 : Int32) = nI 0 := rfl
    rw [if_neg (show ¬ bI true = 0 by decide), M_next P, cb_some, (P.ch (by omega)).2, e1, hb_eq, hb_eq, gi_si_nk (show 9 ≠ 23 by decide), P.2.2.2.2.2.1, nI_1, M_digit P1, cb_some, Bool.true_and]
    have e59 : isD (t (p + 1)) = true → (t p = 48 → t (p + 1) ≠ 48) → ∃ hM', m_X9_takesNumber_L59 1 (si (si hM 1 23 (nI (t p - 48))) 1 9 (nI (p + 1))) = some (1, hM') ∧ AdvM hM hM' ∧ gi hM' 1 9 = nI (numP t p) ∧ gi hM' 1 23 = nI (numV t p) := by
      intro hd2 hne
      have d2 := isD_t hd2
      unfold m_X9_takesNumber_L59 m_X9_takesNumber_L88 numV numP
      rw [M_next P1, cb_some, (P1.ch (by omega)).2, hb_eq, hb_eq, gi_si_nk (show 9 ≠ 23 by decide), P1.2.2.2.2.2.1, nI_1, gi_si_nk (show 23 ≠ 9 by decide), gi_si, if_neg (show ¬ (1 : Int32) = 0 by decide), gi_si_nk (show 23 ≠ 9 by decide), gi_si, if_pos hd2, if_pos hd2]
      have ev : (10 : Int32) * nI (t p - 48) + nI (t (p + 1)) - 48 = nI ((t p - 48) * 10 + (t (p + 1) - 48)) := by
        rw [show (10 : Int32) = nI 10 from rfl, pk_mul, nI_add, show (48 : Int32) = nI 48 from rfl, pk_sub (by omega)]
        congr 1
        omega
      rw [ev, if_neg (show ¬ nI ((t p - 48) * 10 + (t (p + 1) - 48)) ≤ 0 from nI_ge (b := (t p - 48) * 10 + (t (p + 1) - 48)) (a := 0) (by
        by_cases q : t p = 48
        · have := hne q; omega
        · omega) (by omega))]
      exact ⟨_, rfl, (A1.trans (advM_si _ 23 _ (Or.inr rfl))).trans (advM_si _ 9 _ (Or.inl rfl)), gi_si _ _ _ _, by rw [gi_si_nk (by decide), gi_si]⟩
    cases hd2 : isD (t (p + 1))
    · rw [if_pos (show bI false = 0 from rfl)]
      unfold m_X9_takesNumber_L88 numV numP
      rw [if_neg (show ¬ (1 : Int32) = 0 by decide), gi_si_nk (show 23 ≠ 9 by decide), gi_si, hd2, if_neg (show ¬ false = true by decide), if_neg (show ¬ false = true by decide)]
      by_cases h48 : t p = 48
      · rw [if_pos (show nI (t p - 48) ≤ 0 from nI_le (a := t p - 48) (b := 0) (by omega) (by omega)), decide_eq_true h48]
        refine ⟨_, rfl, A1, ?_, fun h => Bool.noConfusion h⟩
        rw [gi_si]; rw [if_pos h48]; rfl
      · rw [if_neg (show ¬ nI (t p - 48) ≤ 0 from nI_ge (b := t p - 48) (a := 0) (by omega) (by omega)), decide_eq_false h48]
        refine ⟨_, rfl, A1, ?_, fun _ => ?_⟩
        · rw [gi_si]; rfl
        · rw [gi_si_nk (by decide), gi_si]
    · have d2 := isD_t hd2
      rw [if_neg (show ¬ bI true = 0 by decide), if_neg (show ¬ (1 : Int32) = 0 by decide), gi_si_nk (show 23 ≠ 9 by decide), gi_si]
      by_cases h48 : t p = 48
      · rw [if_pos (show nI (t p - 48) = 0 by rw [h48]; rfl), M_next P1, cb_some, decide_eq_true h48, Bool.true_and]
        by_cases h0 : t (p + 1) = 48
        · rw [if_pos (show (if p + 1 < nf then gi (si (si hM 1 23 (nI (t p - 48))) 1 9 (nI (p + 1))) 7 (p + 1) else -1) = 48 from c1.mpr h0), decide_eq_true h0]
          refine ⟨_, rfl, A1, ?_, fun h => Bool.noConfusion h⟩
          rw [gi_si, if_pos h48]; rfl
        · rw [if_neg (show ¬ (if p + 1 < nf then gi (si (si hM 1 23 (nI (t p - 48))) 1 9 (nI (p + 1))) 7 (p + 1) else -1) = 48 from fun e => h0 (c1.mp e)), decide_eq_false h0]
          obtain ⟨hM', q1, q2, q3, q4⟩ := e59 hd2 (fun _ => h0)
          exact ⟨hM', q1, q2, q3, fun _ => q4⟩
      · rw [if_neg (show ¬ nI (t p - 48) = 0 from fun e => h48 (by have := (nI_eq (b := 0) (by omega) (by decide)).mp e; omega)), decide_eq_false h48]
        obtain ⟨hM', q1, q2, q3, q4⟩ := e59 hd2 (fun e => absurd e h48)
        exact ⟨hM', q1, q2, q3, fun _ => q4⟩
