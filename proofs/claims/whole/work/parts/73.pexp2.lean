/-! ===== pure: the tests of a clause: the two readers agree ===== -/
theorem PR.p {l nf k q0 p q d : Nat} {t : Nat → Nat} {bC bM hC hM : Hp} (R : PR l nf k q0 t bC bM p q d hC hM) : PT nf t p hC hM := R.2.1
theorem PR.c {l nf k q0 p q d : Nat} {t : Nat → Nat} {bC bM hC hM : Hp} (R : PR l nf k q0 t bC bM p q d hC hM) : FEc l k q0 bC hC ∧ FEm l k q0 bM hM := ⟨R.2.2.2.2.2.2.2.2.2.1, R.2.2.2.2.2.2.2.2.2.2⟩
theorem PR.k {l nf k q0 p q d : Nat} {t : Nat → Nat} {bC bM hC hM : Hp} (R : PR l nf k q0 t bC bM p q d hC hM) : gr hC 9 3 = 144 + 6 * l ∧ kC 3 (144 + 6 * l) = true ∧ l < 6 ∧ k < 8 ∧ p ≤ nf ∧ nf ≤ 100 := ⟨R.2.2.2.2.2.2.2.2.1.1, kC3 R.1.1, R.1.1, R.1.2, R.p.2.1, R.p.1⟩
theorem test_both {l nf k q0 p q d : Nat} {t : Nat → Nat} {bC bM hC hM : Hp} {K : List Nat} (R : PR l nf k q0 t bC bM p q d hC hM) (S : StkW K hM) (hq : q + K.length ≤ p) (hd : d < 60) :
    (∃ hC' hM' p', m_X4_readTest hC = some (0, hC') ∧ m_X9_takesTest hM = some (0, hM') ∧ gi hC' 9 2 = nI p' ∧ gi hM' 1 9 = nI p' ∧ FEc l k q0 bC hC' ∧ FEm l k q0 bM hM') ∨
    (∃ hC' hM' p', m_X4_readTest hC = some (1, hC') ∧ PR l nf k q0 t bC bM p' (q + 1) (d + 1) hC' hM' ∧ StkW K hM' ∧ p + 3 ≤ p' ∧ m_X9_takesTest hM = (cb (m_X9_whole hM') fun _ h19 => some (1, h19))) := by
  have P := R.p
  obtain ⟨k1, k2, l6, k8, pn, n100⟩ := R.k
  have hF : m_X4_readOneOf 10 hC = some (letN (t p), if letN (t p) < 0 then hC else si hC 9 2 (nI (p + 1))) := C_oneOf P letN ix10 rfl
  rcases letN_c (t p) (by have := P.t_le p; omega) with e | ⟨f, hf, e⟩
  · left
    refine ⟨hC, hM, p, ?_, ?_, P.2.2.2.2.1, P.2.2.2.2.2.1, R.c.1, R.c.2⟩
    · unfold m_X4_readTest
      rw [hF, cb_some, e, if_neg (by decide), if_pos (by decide)]
    · unfold m_X9_takesTest
      rw [M_next P, cb_some, M_let P, cb_some, e, if_neg (by decide)]
  have t128 : t p < 128 := by
    by_cases h : t p < 128
    · exact h
    · exfalso
      have : t p = 128 := by have := P.t_le p; omega
      rw [this] at e
      have := congrArg Int32.toInt e
      rw [nI_toInt (by omega)] at this
      have z : (letN 128).toInt = -1 := rfl
      omega
  have lt := P.lt t128
  have P1 := P.one lt
  have A1 := advC_si hC (nI (p + 1))
  have B1 := advM_si hM 9 (nI (p + 1)) (Or.inl rfl)
  have hF2 : m_X4_readOneOf 11 (si hC 9 2 (nI (p + 1))) = some (sigN (t (p + 1)), if sigN (t (p + 1)) < 0 then si hC 9 2 (nI (p + 1)) else si (si hC 9 2 (nI (p + 1))) 9 2 (nI (p + 1 + 1))) := C_oneOf P1 sigN ix11 rfl
  have f0 : ¬ nI f < 0 := nI_pos (by omega)
  have f1 : 0 ≤ nI f := nI_pos' (by omega)
  have hC1 : m_X4_readTest hC = (cb (m_X4_readOneOf 11 (si hC 9 2 (nI (p + 1)))) fun v4 h5 => if 0 ≤ v4 then cb (m_X4_readNumber h5) fun v7 h8 => if 0 ≤ v7 then ck (kC 3 (gr h8 9 3)) (cb (m_X3_addTest (gr h8 9 3) (nI f) v4 v7 h8) fun _ h12 => some (1, h12)) else some (0, h8) else some (0, h5)) := by
    unfold m_X4_readTest
    rw [hF, cb_some, e, if_pos f1, if_neg f0]
  have hM1 : m_X9_takesTest hM = (cb (m_X9_in (if p + 1 < nf then gi (si hM 1 9 (nI (p + 1))) 7 (p + 1) else -1) 60 62 (si hM 1 9 (nI (p + 1)))) fun v9 h10 => if v9 = 0 then some (0, h10) else hb (si h10 1 9 ((gi h10 1 9) + 1)) fun h12 => cb (m_X9_takesNumber 0 h12) fun v13 h14 => if v13 = 0 then some (0, h14) else cb (m_X9_put (((10000 * nI f) + (100 * (if p + 1 < nf then gi (si hM 1 9 (nI (p + 1))) 7 (p + 1) else -1))) + (gi h14 1 23)) h14) fun _ h17 => cb (m_X9_whole h17) fun _ h19 => some (1, h19)) := by
    unfold m_X9_takesTest
    rw [M_next P, cb_some, M_let P, cb_some, e, if_pos f1, hb_eq, P.2.2.2.2.2.1, nI_1, M_next P1, cb_some]
  rw [hC1, hM1]
  rcases M_sig P1 (si hM 1 9 (nI (p + 1))) with ⟨g1, g2⟩ | ⟨g, g3, tg, g1, gc, g2⟩
  · left
    refine ⟨_, _, p + 1, ?_, ?_, gi_si _ _ _ _, gi_si _ _ _ _, R.c.1.adv A1, R.c.2.adv B1⟩
    · rw [hF2, cb_some, g1, if_neg (by decide), if_pos (by decide)]
    · rw [g2, cb_some, if_pos rfl]
  have lt1 := P1.lt (show t (p + 1) < 128 by omega)
  have P2 := P1.one lt1
  have A2 := A1.trans (advC_si _ (nI (p + 1 + 1)))
  have B2 := B1.trans (advM_si _ 9 (nI (p + 1 + 1)) (Or.inl rfl))
  have c2 : ∀ K : Int32 → Hp → Option (Int32 × Hp), (cb (m_X4_readOneOf 11 (si hC 9 2 (nI (p + 1)))) fun v4 h5 => if 0 ≤ v4 then K v4 h5 else some (0, h5)) = K (nI g) (si (si hC 9 2 (nI (p + 1))) 9 2 (nI (p + 1 + 1))) := fun K => by
    rw [hF2, cb_some, g1, if_pos (nI_pos' (by omega)), if_neg (nI_pos (by omega))]
  rw [c2 (fun v4 h5 => cb (m_X4_readNumber h5) fun v7 h8 => if 0 ≤ v7 then ck (kC 3 (gr h8 9 3)) (cb (m_X3_addTest (gr h8 9 3) (nI f) v4 v7 h8) fun _ h12 => some (1, h12)) else some (0, h8)), g2, cb_some, if_neg (show ¬ (1 : Int32) = 0 by decide), hb_eq, P1.2.2.2.2.2.1, nI_1, gc, C_number P2]
  obtain ⟨m3, n1, n2, n3⟩ := M_number0 P2
  rw [n1]
  by_cases hdg : isD (t (p + 1 + 1)) = true
  case neg =>
    left
    refine ⟨_, _, p + 1 + 1, ?_, ?_, gi_si _ _ _ _, gi_si _ _ _ _, R.c.1.adv A2, R.c.2.adv B2⟩
    · rw [if_neg hdg, cb_some, if_neg (by decide)]
    · rw [if_neg hdg, cb_some, if_pos rfl]
  right
  obtain ⟨v99, np1, np2⟩ := num_ok P2 hdg
  obtain ⟨n4, n5⟩ := n3 hdg
  have A3 := A2.trans (advC_si _ (nI (numP t (p + 1 + 1))))
  have B3 := B2.trans n2
  have P3 : PT nf t (numP t (p + 1 + 1)) (si (si (si hC 9 2 (nI (p + 1))) 9 2 (nI (p + 1 + 1))) 9 2 (nI (numP t (p + 1 + 1)))) m3 := P2.adv (advC_si _ _) n2 (gi_si _ _ _ _) n4 np2
  have R3 := R.adv A3 B3 P3
  have tok : TokR ((nI f * 3 + nI g) * 100 + nI (numV t (p + 1 + 1))) (10000 * nI f + 100 * nI (60 + g) + nI (numV t (p + 1 + 1))) := by
    refine Or.inr (Or.inr (Or.inr ⟨f, g, numV t (p + 1 + 1), hf, g3, by omega, ?_, ?_⟩))
    · rw [show (3 : Int32) = nI 3 from rfl, show (100 : Int32) = nI 100 from rfl, pk_mul, nI_add, pk_mul, nI_add]
    · rw [show (10000 : Int32) = nI 10000 from rfl, show (100 : Int32) = nI 100 from rfl, pk_mul, pk_mul, nI_add, nI_add]
  have etok : (10000 * nI f + 100 * nI (60 + g) + nI (numV t (p + 1 + 1)) : Int32) = nI (tokT f g (numV t (p + 1 + 1))) := by
    rw [show (10000 : Int32) = nI 10000 from rfl, show (100 : Int32) = nI 100 from rfl, pk_mul, pk_mul, nI_add, nI_add]; rfl
  have dps : dpS (10000 * nI f + 100 * nI (60 + g) + nI (numV t (p + 1 + 1))) d = some (d + 1) := by
    rw [etok]
    obtain ⟨z1, z2, z3, -⟩ := tok_ne hf g3 (show numV t (p + 1 + 1) < 100 by omega)
    unfold dpS
    rw [if_neg z1, if_neg (fun z => z.elim z2 z3), if_pos hd]
  obtain ⟨m1, m2, R4⟩ := R3.emit (by omega) tok dps
  refine ⟨_, _, numP t (p + 1 + 1), ?_, R4, (S.adv B3).em, by omega, ?_⟩
  · rw [if_pos hdg, cb_some, if_pos (nI_pos' (by omega)), R3.k.1, ck_true _ k2]
    unfold m_X3_addTest
    rw [m1, cb_some, cb_some]
  · rw [if_pos hdg, cb_some, if_neg (show ¬ (1 : Int32) = 0 by decide), n5, m2, cb_some]
def FAIL (l k q0 : Nat) (bC bM : Hp) (p : Nat) (hC' hM : Hp) : Prop := ∃ p', gi hC' 9 2 = nI p' ∧ FEc l k q0 bC hC' ∧ ∀ f, 103 ≤ f + p → ∃ hM', m_X9_takesE_L22 f (nI (8 * l + k)) 1 hM = some (0, hM') ∧ gi hM' 1 9 = nI p' ∧ FEm l k q0 bM hM'
def SingleOK (l nf k q0 : Nat) (t : Nat → Nat) (bC bM : Hp) (n : Nat) : Prop := ∀ w p q d hC hM K, 5 ≤ n + w → w ≤ 4 → PR l nf k q0 t bC bM p q d hC hM → StkW K hM → q + K.length ≤ p → opn K = w → d ≤ 2 * w + 2 →
    ∃ v hC', m_X4_readSingleN n (nI w) hC = some (bI v, hC') ∧ (v = false → FAIL l k q0 bC bM p hC' hM) ∧ (v = true → ∃ hM' p' q', PR l nf k q0 t bC bM p' q' (d + 1) hC' hM' ∧ StkW K hM' ∧ q' + K.length ≤ p' ∧ p < p' ∧
      ∀ f, 103 ≤ f + p → ∃ f', f + p ≤ f' + p' ∧ ∀ h2, (∀ n, K.length < n → m_X9_whole_L0 n hM' = some ((), h2)) → m_X9_takesE_L22 f (nI (8 * l + k)) 1 hM = m_X9_takesE_L22 f' (nI (8 * l + k)) 0 h2)
def n01 (b : Bool) : Nat := if b = true then 1 else 0
def pend (ba bo : Bool) (K : List Nat) : List Nat := (if ba = true then [38] else []) ++ ((if bo = true then [124] else []) ++ K)
theorem settleA {l nf k q0 p q d : Nat} {t : Nat → Nat} {bC bM hC hM : Hp} {K : List Nat} (a1 : Int32) (ba : Bool) (R : PR l nf k q0 t bC bM p q (d + n01 ba) hC hM) (S : StkW ((if ba = true then [38] else []) ++ K) hM) (hq : q + ((if ba = true then [38] else []) ++ K).length ≤ p) (hd : 1 ≤ d) : ∃ hC' hM', (∀ X : Hp → Option (Int32 × Hp), (if bI ba = 0 then X hC else ck (kC 3 (gr hC 9 3)) (cb (m_X3_addStep (gr hC 9 3) (-2) hC) fun _ h8 => X h8)) = X hC') ∧ (∀ n, m_X9_settle_L0 (n + n01 ba) a1 hM = m_X9_settle_L0 n a1 hM') ∧ PR l nf k q0 t bC bM p (q + n01 ba) d hC' hM' ∧ StkW K hM' ∧ q + n01 ba + K.length ≤ p := by
  obtain ⟨k1, k2, l6, k8, pn, n100⟩ := R.k
  cases ba
  · exact ⟨hC, hM, fun X => by rw [if_pos (show bI false = 0 from rfl)], fun n => rfl, R, S, hq⟩
  · have hq' : q + (K.length + 1) ≤ p := hq
    have S1 : StkW (38 :: K) hM := S
    have R1 : PR l nf k q0 t bC bM p q (d + 1) hC hM := R
    obtain ⟨hC', hM', e1, e2, R', S'⟩ := settle_pop (a1 := a1) R1 S1 (Or.inl ⟨rfl, rfl⟩) (by omega) (by omega) (by omega)
    refine ⟨hC', hM', fun X => ?_, fun n => e2 n, R', S', by show q + 1 + K.length ≤ p; omega⟩
    rw [if_neg (show ¬ bI true = 0 by decide), k1, ck_true _ k2, e1, cb_some]
theorem settleO {l nf k q0 p q d : Nat} {t : Nat → Nat} {bC bM hC hM : Hp} {K : List Nat} (a1 : Int32) (ha : a1 ≠ 38) (bo : Bool) (R : PR l nf k q0 t bC bM p q (d + n01 bo) hC hM) (S : StkW ((if bo = true then [124] else []) ++ K) hM) (hq : q + ((if bo = true then [124] else []) ++ K).length ≤ p) (hd : 1 ≤ d) : ∃ hC' hM', (∀ X : Hp → Option (Int32 × Hp), (if bI bo = 0 then X hC else ck (kC 3 (gr hC 9 3)) (cb (m_X3_addStep (gr hC 9 3) (-3) hC) fun _ h8 => X h8)) = X hC') ∧ (∀ n, m_X9_settle_L0 (n + n01 bo) a1 hM = m_X9_settle_L0 n a1 hM') ∧ PR l nf k q0 t bC bM p (q + n01 bo) d hC' hM' ∧ StkW K hM' ∧ q + n01 bo + K.length ≤ p := by
  obtain ⟨k1, k2, l6, k8, pn, n100⟩ := R.k
  cases bo
  · exact ⟨hC, hM, fun X => by rw [if_pos (show bI false = 0 from rfl)], fun n => rfl, R, S, hq⟩
  · have hq' : q + (K.length + 1) ≤ p := hq
    have S1 : StkW (124 :: K) hM := S
    have R1 : PR l nf k q0 t bC bM p q (d + 1) hC hM := R
    obtain ⟨hC', hM', e1, e2, R', S'⟩ := settle_pop (a1 := a1) R1 S1 (Or.inr ⟨rfl, rfl, ha⟩) (by omega) (by omega) (by omega)
    refine ⟨hC', hM', fun X => ?_, fun n => e2 n, R', S', by show q + 1 + K.length ≤ p; omega⟩
    rw [if_neg (show ¬ bI true = 0 by decide), k1, ck_true _ k2, e1, cb_some]
def eEnd (n : Nat) (a1 v1 : Int32) (h7 : Hp) : Option (Int32 × Hp) := ck (inb a1 48) (hb (si h7 12 a1.toNatClampNeg (gi h7 1 22)) fun h9 => if (gi h9 1 25) = 0 then some (1, h9) else if v1 = 41 then hb (si h9 1 25 ((gi h9 1 25) - 1)) fun h12 => hb (si h12 1 26 ((gi h12 1 26) - 1)) fun h13 => hb (si h13 1 9 ((gi h13 1 9) + 1)) fun h14 => cb (m_X9_whole h14) fun _ h16 => m_X9_takesE_L22 n a1 0 h16 else some (0, h9))
theorem L22_0 (n : Nat) (a1 : Int32) (h : Hp) : m_X9_takesE_L22 (n + 1) a1 0 h = (cb (m_X9_next h) fun v1 h2 => if v1 = 38 then m_X9_takesE_L122 (m_X9_takesE_L22 n) a1 v1 h2 else if v1 = 124 then m_X9_takesE_L122 (m_X9_takesE_L22 n) a1 v1 h2 else cb (m_X9_settle 124 h2) fun _ h7 => eEnd n a1 v1 h7) := by
  conv => lhs; unfold m_X9_takesE_L22
  rfl
/-- a sign onto the stack, one place on -/
def psh (K : List Nat) (x p : Nat) (h : Hp) : Hp := si (si (si h 19 K.length (nI x)) 1 25 (nI (K.length + 1))) 1 9 (nI (p + 1))
theorem psh_ok {l nf k q0 p q d x : Nat} {t : Nat → Nat} {bC bM hC hM : Hp} {K : List Nat} (R : PR l nf k q0 t bC bM p q d hC hM) (S : StkW K hM) (hx : ¬ (x = 33 ∨ x = 40)) (hp : p < nf) (hK : K.length ≤ 100) (F : Int32 → Int32 → Hp → Option (Int32 × Hp)) (a1 : Int32) : (ck (inb (gi hM 1 25) 101) (hb (si hM 19 (gi hM 1 25).toNatClampNeg (nI x)) fun h4 => hb (si h4 1 25 ((gi h4 1 25) + 1)) fun h5 => hb (si h5 1 9 ((gi h5 1 9) + 1)) fun h6 => F a1 1 h6)) = F a1 1 (psh K x p hM) ∧ PR l nf k q0 t bC bM (p + 1) q d (si hC 9 2 (nI (p + 1))) (psh K x p hM) ∧ StkW (x :: K) (psh K x p hM) := by
  obtain ⟨s1, s2, s3⟩ := S
  refine ⟨?_, ?_, ?_⟩
  · rw [s1, ck_true _ (inb_nI (by omega) (by decide)), nI_clamp (by omega), hb_eq, gi_si_ne (show 1 ≠ 19 by decide), s1, nI_1, hb_eq, gi_si_nk (show 9 ≠ 25 by decide), gi_si_ne (show 1 ≠ 19 by decide), R.p.2.2.2.2.2.1, nI_1, hb_eq]
    rfl
  · have R1 : PR l nf k q0 t bC bM p q d hC (si (si hM 19 K.length (nI x)) 1 25 (nI (K.length + 1))) := R.stk (fun a j z => by rw [gi_si_if, if_neg (fun y => z (by omega)), gi_si_if, if_neg (fun y => z (by omega))]) (fun _ => rfl)
    exact R1.adv (advC_si _ _) (advM_si _ 9 _ (Or.inl rfl)) (R1.p.one hp)
  · refine StkW.push ⟨s1, s2, s3⟩ ?_ ?_ ?_ (fun i hi => ?_)
    · unfold psh; rw [gi_si_nk (by decide), gi_si]
    · unfold psh; rw [gi_si_nk (by decide), gi_si_nk (by decide), gi_si_ne (by decide), s2, show opn (x :: K) = opn K + (if x = 33 ∨ x = 40 then 1 else 0) from rfl, if_neg hx]; rfl
    · unfold psh; rw [gi_si_ne (by decide), gi_si_ne (by decide), gi_si]
    · unfold psh; rw [gi_si_ne (by decide), gi_si_ne (by decide), gi_si_nk (by omega)]
theorem pend_len (ba bo : Bool) (K : List Nat) : (pend ba bo K).length = n01 ba + n01 bo + K.length := by
  cases ba <;> cases bo
  · show K.length = 0 + 0 + K.length; omega
  · show K.length + 1 = 0 + 1 + K.length; omega
  · show K.length + 1 = 1 + 0 + K.length; omega
  · show K.length + 1 + 1 = 1 + 1 + K.length; omega
theorem pend_opn (ba bo : Bool) (K : List Nat) : opn (pend ba bo K) = opn K := by
  cases ba <;> cases bo <;> rfl
theorem pend_top {ba bo : Bool} {K K' : List Nat} {x : Nat} (hK : ∀ x K', K = x :: K' → x = 40) (e : pend ba bo K = x :: K') : x ≠ 33 ∧ x < 128 := by
  cases ba <;> cases bo
  · have := hK x K' e; omega
  · have : 124 = x := (List.cons.inj e).1
    omega
  · have : 38 = x := (List.cons.inj e).1
    omega
  · have : 38 = x := (List.cons.inj e).1
    omega
