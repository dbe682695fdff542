/-! ===== pure: E: singles with & and | between them ===== -/
theorem pend2 (bo : Bool) (K : List Nat) : pend true bo K = 38 :: ((if bo = true then [124] else []) ++ K) := rfl
theorem or_top {bo : Bool} {K K' : List Nat} {x : Nat} (hK : ∀ x K', K = x :: K' → x = 40) (e : ((if bo = true then [124] else []) ++ K) = x :: K') : x ≠ 38 ∧ x < 128 := by
  cases bo
  · have := hK x K' e; omega
  · have : 124 = x := (List.cons.inj e).1
    omega
theorem either_loop {l nf k q0 n w : Nat} {t : Nat → Nat} {bC bM : Hp} (IH : SingleOK l nf k q0 t bC bM n) (hn : 5 ≤ n + w) (hw : w ≤ 4) : ∀ m cnt ba bo p q d hC hM K0, 60 ≤ m + cnt → 2 * cnt ≤ p → (∀ x K', K0 = x :: K' → x = 40) → PR l nf k q0 t bC bM p q (d + n01 ba + n01 bo) hC hM → StkW (pend ba bo K0) hM → q + (pend ba bo K0).length ≤ p → opn K0 = w → d ≤ 2 * w →
    ∃ v hC', m_X4_readEither_L7 (m_X4_readSingleN n) m (nI w) (bI ba) (bI bo) (nI cnt) hC = some (bI v, hC') ∧ (v = false → FAIL l k q0 bC bM p hC' hM) ∧ (v = true → ∃ hM' p' q', PR l nf k q0 t bC bM p' q' (d + 1) hC' hM' ∧ StkW K0 hM' ∧ q' + K0.length ≤ p' ∧ p < p' ∧ t p' ≠ 38 ∧ t p' ≠ 124 ∧
      ∀ f, 103 ≤ f + p → ∃ f', f + p ≤ f' + 1 + p' ∧ m_X9_takesE_L22 f (nI (8 * l + k)) 1 hM = eEnd f' (nI (8 * l + k)) (if p' < nf then gi hM' 7 p' else -1) hM') := by
  intro m
  induction m with
  | zero =>
    intro cnt ba bo p q d hC hM K0 h1 h2 _ R
    have := R.k
    omega
  | succ m ih =>
    intro cnt ba bo p q d hC hM K0 h1 h2 hK0 R S hq hw0 hd
    obtain ⟨k1, k2, l6, k8, pn, n100⟩ := R.k
    have op : opn (pend ba bo K0) = w := (pend_opn ba bo K0).trans hw0
    have len := pend_len ba bo K0
    have nb : ∀ b, n01 b ≤ 1 := fun b => by unfold n01; split <;> omega
    have n1 := nb ba
    have n2 := nb bo
    have olen : ((if bo = true then [124] else []) ++ K0).length = n01 bo + K0.length := by
      cases bo
      · show K0.length = 0 + K0.length; omega
      · show K0.length + 1 = 1 + K0.length; omega
    obtain ⟨v, hC1, c1, cF, cT⟩ := IH w p q (d + n01 ba + n01 bo) hC hM (pend ba bo K0) hn hw R S hq op (by omega)
    unfold m_X4_readEither_L7
    rw [if_neg (show ¬ (100 : Int32) ≤ nI cnt from nI_ge (a := cnt) (b := 100) (by omega) (by decide)), c1, cb_some]
    cases v
    · rw [if_pos (show bI false = 0 from rfl)]
      exact ⟨false, hC1, rfl, fun _ => cF rfl, fun h => Bool.noConfusion h⟩
    obtain ⟨hM1, p1, q1, R1, S1, hq1, hp1, L1⟩ := cT rfl
    obtain ⟨-, -, -, -, pn1, -⟩ := R1.k
    rw [if_neg (show ¬ bI true = 0 by decide)]
    have wst := whole_stop S1 (by omega) (fun x K' e => pend_top hK0 e)
    have L2 : ∀ f, 103 ≤ f + p → ∃ f', f + p ≤ f' + 1 + p1 ∧ m_X9_takesE_L22 f (nI (8 * l + k)) 1 hM = m_X9_takesE_L22 (f' + 1) (nI (8 * l + k)) 0 hM1 := by
      intro f hf
      obtain ⟨f', g1, g2⟩ := L1 f hf
      obtain ⟨f'', rfl⟩ := Nat.exists_eq_succ_of_ne_zero (show f' ≠ 0 by omega)
      exact ⟨f'', g1, g2 hM1 (fun n hn => wst n (by omega))⟩
    have Ra : PR l nf k q0 t bC bM p1 q1 (d + n01 bo + 1 + n01 ba) hC1 hM1 := by
      rw [show d + n01 bo + 1 + n01 ba = d + n01 ba + n01 bo + 1 by omega]; exact R1
    have ch := R1.p.2.2.2.2.2.2 p1
    have nx := M_next R1.p
    have fu : ∃ j, FU = j + 1 + n01 bo + n01 ba ∧ 100 ≤ j := ⟨1199 - n01 bo - n01 ba, by unfold FU; omega, by omega⟩
    obtain ⟨j, ej, j100⟩ := fu
    by_cases h38 : t p1 = 38
    · -- one more, behind an &
      obtain ⟨hC2, hM2, e1, e2, R2, S2, hq2⟩ := settleA 38 ba Ra S1 hq1 (by omega)
      have lt := R2.p.lt (by omega)
      have st2 := settle_stop (a1 := 38) S2 (by omega) (fun x K' e => ⟨(or_top hK0 e).1, (or_top hK0 e).2, fun _ => rfl⟩) (j + 1 + n01 bo) (by omega)
      obtain ⟨-, R3, S3⟩ := psh_ok (x := 38) R2 S2 (by omega) lt (by omega) (m_X9_takesE_L22 0) 0
      obtain ⟨v, hC', y1, yF, yT⟩ := ih (cnt + 1) true bo (p1 + 1) (q1 + n01 ba) d (si hC2 9 2 (nI (p1 + 1))) (psh ((if bo = true then [124] else []) ++ K0) 38 p1 hM2) K0 (by omega) (by omega) hK0 (by
        have : d + n01 true + n01 bo = d + n01 bo + 1 := by
          have : n01 true = 1 := rfl
          omega
        rw [this]; exact R3) S3 (by
        have := pend_len true bo K0
        have : n01 true = 1 := rfl
        omega) hw0 hd
      have L3 : ∀ f, 103 ≤ f + p → ∃ f', f + p ≤ f' + (p1 + 1) ∧ m_X9_takesE_L22 f (nI (8 * l + k)) 1 hM = m_X9_takesE_L22 f' (nI (8 * l + k)) 1 (psh ((if bo = true then [124] else []) ++ K0) 38 p1 hM2) := by
        intro f hf
        obtain ⟨f', g1, g2⟩ := L2 f hf
        refine ⟨f', by omega, ?_⟩
        obtain ⟨z2, -, -⟩ := psh_ok (x := 38) R2 S2 (by omega) lt (by omega) (m_X9_takesE_L22 f') (nI (8 * l + k))
        rw [g2, L22_0, nx, cb_some, (ch.b (show 38 < 128 by decide)).mpr h38, if_pos (show nI 38 = 38 from rfl)]
        unfold m_X9_takesE_L122 m_X9_settle
        rw [ej, show nI 38 = 38 from rfl, e2, st2, cb_some]
        exact z2
      refine ⟨v, hC', ?_, fun h => ?_, fun h => ?_⟩
      · rw [e1 (fun h => m_X4_readEither_L37 (m_X4_readSingleN n) (m_X4_readEither_L7 (m_X4_readSingleN n) m) (nI w) (bI bo) (nI cnt) h)]
        unfold m_X4_readEither_L37
        rw [C_pass R2.p (show 38 < 128 by decide) (X := 38) rfl, if_pos h38, cb_some, if_neg (by decide), vb_eq, nI_1]
        exact y1
      · obtain ⟨p', f1, f2, f3⟩ := yF h
        refine ⟨p', f1, f2, fun f hf => ?_⟩
        obtain ⟨f', g1, g2⟩ := L3 f hf
        rw [g2]; exact f3 f' (by omega)
      · obtain ⟨hM', p', q', r1, r2, r3, r4, r5, r6, r7⟩ := yT h
        refine ⟨hM', p', q', r1, r2, r3, by omega, r5, r6, fun f hf => ?_⟩
        obtain ⟨f', g1, g2⟩ := L3 f hf
        obtain ⟨f'', g3, g4⟩ := r7 f' (by omega)
        exact ⟨f'', by omega, by rw [g2]; exact g4⟩
    · -- the ors, too
      obtain ⟨hC2, hM2, e1, e2, R2, S2, hq2⟩ := settleA 124 ba Ra S1 hq1 (by omega)
      obtain ⟨hC3, hM3, e3, e4, R3, S3, hq3⟩ := settleO (d := d + 1) 124 (by decide) bo (by rw [show d + 1 + n01 bo = d + n01 bo + 1 by omega]; exact R2) S2 hq2 (by omega)
      have st3 := settle_stop (a1 := 124) S3 (by omega) (fun x K' e => by have := hK0 x K' e; omega) (j + 1) (by omega)
      have seM : m_X9_settle 124 hM1 = some ((), hM3) := by
        unfold m_X9_settle
        rw [ej, e2, e4]; exact st3
      have C37 : (if bI ba = 0 then m_X4_readEither_L37 (m_X4_readSingleN n) (m_X4_readEither_L7 (m_X4_readSingleN n) m) (nI w) (bI bo) (nI cnt) hC1 else ck (kC 3 (gr hC1 9 3)) (cb (m_X3_addStep (gr hC1 9 3) (-2) hC1) fun _ h8 => m_X4_readEither_L37 (m_X4_readSingleN n) (m_X4_readEither_L7 (m_X4_readSingleN n) m) (nI w) (bI bo) (nI cnt) h8)) = m_X4_readEither_L64 (m_X4_readSingleN n) (m_X4_readEither_L7 (m_X4_readSingleN n) m) (nI w) 0 (nI cnt) hC3 := by
        rw [e1 (fun h => m_X4_readEither_L37 (m_X4_readSingleN n) (m_X4_readEither_L7 (m_X4_readSingleN n) m) (nI w) (bI bo) (nI cnt) h)]
        unfold m_X4_readEither_L37
        rw [C_pass R2.p (show 38 < 128 by decide) (X := 38) rfl, if_neg h38, cb_some, if_pos rfl]
        exact e3 (fun h => m_X4_readEither_L64 (m_X4_readSingleN n) (m_X4_readEither_L7 (m_X4_readSingleN n) m) (nI w) 0 (nI cnt) h)
      rw [C37]
      unfold m_X4_readEither_L64
      rw [C_pass R3.p (show 124 < 128 by decide) (X := 124) rfl]
      have n38 : ¬ (if p1 < nf then gi hM1 7 p1 else -1) = 38 := fun e => h38 ((ch.b (show 38 < 128 by decide)).mp e)
      by_cases h124 : t p1 = 124
      · have lt := R3.p.lt (by omega)
        obtain ⟨-, R4, S4⟩ := psh_ok (x := 124) R3 S3 (by omega) lt (by omega) (m_X9_takesE_L22 0) 0
        obtain ⟨v, hC', y1, yF, yT⟩ := ih (cnt + 1) false true (p1 + 1) (q1 + n01 ba + n01 bo) d (si hC3 9 2 (nI (p1 + 1))) (psh K0 124 p1 hM3) K0 (by omega) (by omega) hK0 R4 S4 (by
          have := pend_len false true K0
          have : n01 false = 0 := rfl
          have : n01 true = 1 := rfl
          omega) hw0 hd
        have L3 : ∀ f, 103 ≤ f + p → ∃ f', f + p ≤ f' + (p1 + 1) ∧ m_X9_takesE_L22 f (nI (8 * l + k)) 1 hM = m_X9_takesE_L22 f' (nI (8 * l + k)) 1 (psh K0 124 p1 hM3) := by
          intro f hf
          obtain ⟨f', g1, g2⟩ := L2 f hf
          refine ⟨f', by omega, ?_⟩
          obtain ⟨z2, -, -⟩ := psh_ok (x := 124) R3 S3 (by omega) lt (by omega) (m_X9_takesE_L22 f') (nI (8 * l + k))
          rw [g2, L22_0, nx, cb_some, (ch.b (show 124 < 128 by decide)).mpr h124, if_neg (show ¬ nI 124 = 38 by decide), if_pos (show nI 124 = 124 from rfl)]
          unfold m_X9_takesE_L122
          rw [show nI 124 = 124 from rfl, seM, cb_some]
          exact z2
        refine ⟨v, hC', ?_, fun h => ?_, fun h => ?_⟩
        · rw [if_pos h124, cb_some, if_neg (by decide), vb_eq, nI_1]
          exact y1
        · obtain ⟨p', f1, f2, f3⟩ := yF h
          refine ⟨p', f1, f2, fun f hf => ?_⟩
          obtain ⟨f', g1, g2⟩ := L3 f hf
          rw [g2]; exact f3 f' (by omega)
        · obtain ⟨hM', p', q', r1, r2, r3, r4, r5, r6, r7⟩ := yT h
          refine ⟨hM', p', q', r1, r2, r3, by omega, r5, r6, fun f hf => ?_⟩
          obtain ⟨f', g1, g2⟩ := L3 f hf
          obtain ⟨f'', g3, g4⟩ := r7 f' (by omega)
          exact ⟨f'', by omega, by rw [g2]; exact g4⟩
      · refine ⟨true, hC3, ?_, fun h => Bool.noConfusion h, fun _ => ⟨hM3, p1, q1 + n01 ba + n01 bo, R3, S3, hq3, hp1, h38, h124, fun f hf => ?_⟩⟩
        · rw [if_neg h124, cb_some, if_pos rfl]; rfl
        · obtain ⟨f', g1, g2⟩ := L2 f hf
          have n124 : ¬ (if p1 < nf then gi hM1 7 p1 else -1) = 124 := fun e => h124 ((ch.b (show 124 < 128 by decide)).mp e)
          refine ⟨f', g1, ?_⟩
          have f7 : gi hM3 7 = gi hM1 7 := funext fun i => by
            rw [R3.c.2.1 7 i (by omega), R1.c.2.1 7 i (by omega)]
          rw [g2, L22_0, nx, cb_some, if_neg n38, if_neg n124, seM, cb_some, f7]
/-! singles -/
def pshO (K : List Nat) (x p : Nat) (h : Hp) : Hp := si (si (si (si h 1 26 (nI (opn K + 1))) 19 K.length (nI x)) 1 25 (nI (K.length + 1))) 1 9 (nI (p + 1))
theorem pshO_ok {l nf k q0 p q d x : Nat} {t : Nat → Nat} {bC bM hC hM : Hp} {K : List Nat} (R : PR l nf k q0 t bC bM p q d hC hM) (S : StkW K hM) (hx : x = 33 ∨ x = 40) (hp : p < nf) (hK : K.length ≤ 100) (ho : opn K < 4) (F : Int32 → Int32 → Hp → Option (Int32 × Hp)) (a1 : Int32) : m_X9_takesE_L43 F a1 1 (nI x) hM = F a1 1 (pshO K x p hM) ∧ PR l nf k q0 t bC bM (p + 1) q d (si hC 9 2 (nI (p + 1))) (pshO K x p hM) ∧ StkW (x :: K) (pshO K x p hM) := by
  obtain ⟨s1, s2, s3⟩ := S
  refine ⟨?_, ?_, ?_⟩
  · unfold m_X9_takesE_L43
    rw [s2, if_neg (show ¬ nI (opn K) = 4 from fun e => by have := (nI_eq (b := 4) (by omega) (by decide)).mp e; omega), nI_1, hb_eq, gi_si_nk (show 25 ≠ 26 by decide), s1, ck_true _ (inb_nI (by omega) (by decide)), nI_clamp (by omega), hb_eq, gi_si_ne (show 1 ≠ 19 by decide), gi_si_nk (show 25 ≠ 26 by decide), s1, nI_1, hb_eq, gi_si_nk (show 9 ≠ 25 by decide), gi_si_ne (show 1 ≠ 19 by decide), gi_si_nk (show 9 ≠ 26 by decide), R.p.2.2.2.2.2.1, nI_1, hb_eq]
    rfl
  · have R1 : PR l nf k q0 t bC bM p q d hC (si (si (si hM 1 26 (nI (opn K + 1))) 19 K.length (nI x)) 1 25 (nI (K.length + 1))) := R.stk (fun a j z => by rw [gi_si_if, if_neg (fun y => z (by omega)), gi_si_if, if_neg (fun y => z (by omega)), gi_si_if, if_neg (fun y => z (by omega))]) (fun _ => rfl)
    exact R1.adv (advC_si _ _) (advM_si _ 9 _ (Or.inl rfl)) (R1.p.one hp)
  · refine StkW.push ⟨s1, s2, s3⟩ ?_ ?_ ?_ (fun i hi => ?_)
    · unfold pshO; rw [gi_si_nk (by decide), gi_si]
    · unfold pshO; rw [gi_si_nk (by decide), gi_si_nk (by decide), gi_si_ne (by decide), gi_si, show opn (x :: K) = opn K + (if x = 33 ∨ x = 40 then 1 else 0) from rfl, if_pos hx]
    · unfold pshO; rw [gi_si_ne (by decide), gi_si_ne (by decide), gi_si]
    · unfold pshO; rw [gi_si_ne (by decide), gi_si_ne (by decide), gi_si_nk (by omega), gi_si_ne (by decide)]
theorem L22_1 (n : Nat) (a1 : Int32) (h : Hp) : m_X9_takesE_L22 (n + 1) a1 1 h = (cb (m_X9_next h) fun v1 h2 => if v1 = 33 then m_X9_takesE_L43 (m_X9_takesE_L22 n) a1 1 v1 h2 else if v1 = 40 then m_X9_takesE_L43 (m_X9_takesE_L22 n) a1 1 v1 h2 else cb (m_X9_takesTest h2) fun v19 h20 => if v19 = 0 then some (0, h20) else m_X9_takesE_L22 n a1 0 h20) := by
  conv => lhs; unfold m_X9_takesE_L22
  rfl
theorem single_ok (l nf k q0 : Nat) (t : Nat → Nat) (bC bM : Hp) : ∀ n, SingleOK l nf k q0 t bC bM n := by
  intro n
  induction n with
  | zero => intro w p q d hC hM K h1 h2; omega
  | succ n IH =>
    intro w p q d hC hM K hn hw R S hq hop hd
    obtain ⟨k1, k2, l6, k8, pn, n100⟩ := R.k
    have P := R.p
    have ch := P.2.2.2.2.2.2 p
    have nx := M_next P
    have c40 := ch.a (show 40 < 128 by decide)
    have c33 := ch.a (show 33 < 128 by decide)
    have e1 : ∀ f, 103 ≤ f + p → ∃ f', f = f' + 1 := fun f hf => ⟨f - 1, by omega⟩
    show ∃ v hC', m_X4_readSingle (m_X4_readEither (m_X4_readSingleN n)) (m_X4_readSingleN n) (nI w) hC = some (bI v, hC') ∧ _
    unfold m_X4_readSingle
    rw [C_here P, cb_some, C_here P, cb_some]
    by_cases hop4 : t p = 40 ∨ t p = 33
    case neg =>
      have n40 : ¬ t p = 40 := fun e => hop4 (Or.inl e)
      have n33 : ¬ t p = 33 := fun e => hop4 (Or.inr e)
      rw [if_neg (show ¬ (if p < nf then gi hC 10 p else -1) = 40 from fun e => n40 (c40.mp e)), if_neg (show ¬ (if p < nf then gi hC 10 p else -1) = 33 from fun e => n33 (c33.mp e))]
      have m40 : ¬ (if p < nf then gi hM 7 p else -1) = 40 := fun e => n40 ((ch.b (show 40 < 128 by decide)).mp e)
      have m33 : ¬ (if p < nf then gi hM 7 p else -1) = 33 := fun e => n33 ((ch.b (show 33 < 128 by decide)).mp e)
      rcases test_both R S hq (by omega) with ⟨hC', hM', p', a1, a2, a3, a4, a5, a6⟩ | ⟨hC', hM', p', a1, a2, a3, a4, a5⟩
      · refine ⟨false, hC', ?_, fun _ => ⟨p', a3, a5, fun f hf => ?_⟩, fun h => Bool.noConfusion h⟩
        · rw [a1, cb_some, ck_true _ isb_0]; rfl
        · obtain ⟨f', rfl⟩ := e1 f hf
          refine ⟨hM', ?_, a4, a6⟩
          rw [L22_1, nx, cb_some, if_neg m33, if_neg m40, a2, cb_some, if_pos rfl]
      · refine ⟨true, hC', ?_, fun h => Bool.noConfusion h, fun _ => ⟨hM', p', q + 1, a2, a3, by omega, by omega, fun f hf => ?_⟩⟩
        · rw [a1, cb_some, ck_true _ isb_1]; rfl
        · obtain ⟨f', rfl⟩ := e1 f hf
          refine ⟨f', by omega, fun h2 hw2 => ?_⟩
          have w2 : m_X9_whole hM' = some ((), h2) := hw2 FU (by unfold FU; omega)
          rw [L22_1, nx, cb_some, if_neg m33, if_neg m40, a5, w2, cb_some, cb_some, if_neg (by decide)]
    have L23 : (if (if p < nf then gi hC 10 p else -1) = 40 then m_X4_readSingle_L23 (m_X4_readEither (m_X4_readSingleN n)) (m_X4_readSingleN n) (nI w) hC else if (if p < nf then gi hC 10 p else -1) = 33 then m_X4_readSingle_L23 (m_X4_readEither (m_X4_readSingleN n)) (m_X4_readSingleN n) (nI w) hC else cb (m_X4_readTest hC) fun v7 h8 => ck (isb v7) (some (v7, h8))) = m_X4_readSingle_L23 (m_X4_readEither (m_X4_readSingleN n)) (m_X4_readSingleN n) (nI w) hC := by
      rcases hop4 with e | e
      · rw [if_pos (show (if p < nf then gi hC 10 p else -1) = 40 from c40.mpr e)]
      · rw [if_neg (show ¬ (if p < nf then gi hC 10 p else -1) = 40 from fun z => by have := c40.mp z; omega), if_pos (show (if p < nf then gi hC 10 p else -1) = 33 from c33.mpr e)]
    rw [L23]
    have L43 : ∀ f, m_X9_takesE_L22 (f + 1) (nI (8 * l + k)) 1 hM = m_X9_takesE_L43 (m_X9_takesE_L22 f) (nI (8 * l + k)) 1 (nI (t p)) hM := fun f => by
      rw [L22_1, nx, cb_some]
      rcases hop4 with e | e
      · rw [(ch.b (show 40 < 128 by decide)).mpr e, if_neg (show ¬ nI 40 = 33 by decide), if_pos (show nI 40 = 40 from rfl), e]
      · rw [(ch.b (show 33 < 128 by decide)).mpr e, if_pos (show nI 33 = 33 from rfl), e]
    unfold m_X4_readSingle_L23
    by_cases hw4 : w = 4
    · refine ⟨false, hC, ?_, fun _ => ⟨p, P.2.2.2.2.1, R.c.1, fun f hf => ?_⟩, fun h => Bool.noConfusion h⟩
      · rw [hw4, if_neg (by decide)]; rfl
      · obtain ⟨f', rfl⟩ := e1 f hf
        refine ⟨hM, ?_, P.2.2.2.2.2.1, R.c.2⟩
        rw [L43]
        unfold m_X9_takesE_L43
        rw [S.2.1, hop, hw4, if_pos (show nI 4 = 4 from rfl)]
    have lt := P.lt (by omega)
    rw [if_pos (show nI w < 4 from nI_lt (a := w) (b := 4) (by omega) (by decide)), C_pass P (show 40 < 128 by decide) (X := 40) rfl]
    by_cases h40 : t p = 40
    · -- a bracket
      obtain ⟨-, R1, S1⟩ := pshO_ok (x := 40) R S (Or.inr rfl) lt (by omega) (by omega) (m_X9_takesE_L22 0) 0
      have o1 : opn (40 :: K) = w + 1 := by rw [← hop]; rfl
      have len1 : (40 :: K).length = K.length + 1 := rfl
      obtain ⟨v, hC2, y1, yF, yT⟩ := either_loop IH (show 5 ≤ n + (w + 1) by omega) (show w + 1 ≤ 4 by omega) FU 0 false false (p + 1) q d (si hC 9 2 (nI (p + 1))) (pshO K 40 p hM) (40 :: K) (by unfold FU; omega) (by omega) (fun x K' e => (List.cons.inj e).1.symm) R1 S1 (by
        have := pend_len false false (40 :: K)
        have : n01 false = 0 := rfl
        omega) o1 (by omega)
      have y1' : m_X4_readEither (m_X4_readSingleN n) (nI w + 1) (si hC 9 2 (nI (p + 1))) = some (bI v, hC2) := by
        rw [nI_1]; exact y1
      have L3 : ∀ f, 103 ≤ f + p → ∃ f', f = f' + 1 ∧ m_X9_takesE_L22 f (nI (8 * l + k)) 1 hM = m_X9_takesE_L22 f' (nI (8 * l + k)) 1 (pshO K 40 p hM) := by
        intro f hf
        obtain ⟨f', rfl⟩ := e1 f hf
        refine ⟨f', rfl, ?_⟩
        obtain ⟨z1, -, -⟩ := pshO_ok (x := 40) R S (Or.inr rfl) lt (by omega) (by omega) (m_X9_takesE_L22 f') (nI (8 * l + k))
        rw [L43, h40]; exact z1
      rw [if_pos h40, cb_some, if_neg (show ¬ (1 : Int32) = 0 by decide), y1', cb_some]
      cases v
      · rw [if_pos (show bI false = 0 from rfl)]
        refine ⟨false, hC2, rfl, fun _ => ?_, fun h => Bool.noConfusion h⟩
        obtain ⟨p', f1, f2, f3⟩ := yF rfl
        refine ⟨p', f1, f2, fun f hf => ?_⟩
        obtain ⟨f', g1, g2⟩ := L3 f hf
        rw [g2]; exact f3 f' (by omega)
      rw [if_neg (show ¬ bI true = 0 by decide)]
      obtain ⟨hM2, p2, q2, R2, S2, hq2, hp2, -, -, L4⟩ := yT rfl
      have ch2 := R2.p.2.2.2.2.2.2 p2
      obtain ⟨-, -, -, -, pn2, -⟩ := R2.k
      rw [C_pass R2.p (show 41 < 128 by decide) (X := 41) rfl]
      have s25 := S2.1
      rw [len1] at s25
      have E : ∀ f', eEnd f' (nI (8 * l + k)) (if p2 < nf then gi hM2 7 p2 else -1) hM2 = if t p2 = 41 then cb (m_X9_whole (si (si (si (si hM2 12 (8 * l + k) (nI (100 * l + q2))) 1 25 (nI K.length)) 1 26 (nI (opn K))) 1 9 (nI (p2 + 1)))) (fun _ h16 => m_X9_takesE_L22 f' (nI (8 * l + k)) 0 h16) else some (0, si hM2 12 (8 * l + k) (nI (100 * l + q2))) := by
        intro f'
        unfold eEnd
        rw [ck_true _ (inb_nI (by omega) (by decide)), nI_clamp (by omega), R2.2.2.2.2.1, hb_eq, gi_si_ne (show 1 ≠ 12 by decide), s25, if_neg (show ¬ nI (K.length + 1) = 0 from fun e => by have := (nI_eq (b := 0) (by omega) (by decide)).mp e; omega)]
        by_cases h41 : t p2 = 41
        · rw [if_pos (show (if p2 < nf then gi hM2 7 p2 else -1) = 41 from (ch2.b (show 41 < 128 by decide)).mpr h41), if_pos h41, nI_pred, hb_eq, gi_si_nk (show 26 ≠ 25 by decide), gi_si_ne (show 1 ≠ 12 by decide), S2.2.1, show opn (40 :: K) = opn K + 1 from rfl, nI_pred, hb_eq, gi_si_nk (show 9 ≠ 26 by decide), gi_si_nk (show 9 ≠ 25 by decide), gi_si_ne (show 1 ≠ 12 by decide), R2.p.2.2.2.2.2.1, nI_1, hb_eq]
        · rw [if_neg (show ¬ (if p2 < nf then gi hM2 7 p2 else -1) = 41 from fun e => h41 ((ch2.b (show 41 < 128 by decide)).mp e)), if_neg h41]
      by_cases h41 : t p2 = 41
      · have lt2 := R2.p.lt (by omega)
        have R3 : PR l nf k q0 t bC bM p2 q2 (d + 1) hC2 (si (si (si hM2 12 (8 * l + k) (nI (100 * l + q2))) 1 25 (nI K.length)) 1 26 (nI (opn K))) := R2.stk (fun a j z => by rw [gi_si_if, if_neg (fun y => z (by omega)), gi_si_if, if_neg (fun y => z (by omega)), gi_si_if, if_neg (fun y => z (by omega))]) (fun _ => rfl)
        have S2' : StkW (40 :: K) (si hM2 12 (8 * l + k) (nI (100 * l + q2))) := ⟨by rw [gi_si_ne (by decide)]; exact S2.1, by rw [gi_si_ne (by decide)]; exact S2.2.1, fun i hi => by rw [gi_si_ne (by decide)]; exact S2.2.2 i hi⟩
        have S3 := S2'.pop
        have R4 := R3.adv (advC_si _ _) (advM_si _ 9 _ (Or.inl rfl)) (R3.p.one lt2)
        have S4 := S3.adv (advM_si _ 9 (nI (p2 + 1)) (Or.inl rfl))
        refine ⟨true, _, ?_, fun h => Bool.noConfusion h, fun _ => ⟨_, p2 + 1, q2, R4, S4, by omega, by omega, fun f hf => ?_⟩⟩
        · rw [if_pos h41, cb_some, if_neg (show ¬ (1 : Int32) = 0 by decide)]; rfl
        · obtain ⟨f', g1, g2⟩ := L3 f hf
          obtain ⟨f'', g3, g4⟩ := L4 f' (by omega)
          refine ⟨f'', by omega, fun h2 hw2 => ?_⟩
          have w2 := hw2 FU (by unfold FU; omega)
          rw [g2, g4, E, if_pos h41]
          unfold m_X9_whole
          rw [w2, cb_some]
      · refine ⟨false, hC2, ?_, fun _ => ⟨p2, R2.p.2.2.2.2.1, R2.c.1, fun f hf => ?_⟩, fun h => Bool.noConfusion h⟩
        · rw [if_neg h41, cb_some, if_pos rfl]; rfl
        · obtain ⟨f', g1, g2⟩ := L3 f hf
          obtain ⟨f'', g3, g4⟩ := L4 f' (by omega)
          refine ⟨_, by rw [g2, g4, E, if_neg h41], ?_, ?_⟩
          · rw [gi_si_ne (by decide)]; exact R2.p.2.2.2.2.2.1
          · exact R2.c.2.si _ (Or.inr (Or.inr (Or.inl ⟨rfl, rfl⟩)))
    · -- a !
      have h33 : t p = 33 := hop4.resolve_left h40
      obtain ⟨-, R1, S1⟩ := pshO_ok (x := 33) R S (Or.inl rfl) lt (by omega) (by omega) (m_X9_takesE_L22 0) 0
      have o1 : opn (33 :: K) = w + 1 := by rw [← hop]; rfl
      have len1 : (33 :: K).length = K.length + 1 := rfl
      obtain ⟨v, hC2, y1, yF, yT⟩ := IH (w + 1) (p + 1) q d (si hC 9 2 (nI (p + 1))) (pshO K 33 p hM) (33 :: K) (by omega) (by omega) R1 S1 (by omega) o1 (by omega)
      have L3 : ∀ f, 103 ≤ f + p → ∃ f', f = f' + 1 ∧ m_X9_takesE_L22 f (nI (8 * l + k)) 1 hM = m_X9_takesE_L22 f' (nI (8 * l + k)) 1 (pshO K 33 p hM) := by
        intro f hf
        obtain ⟨f', rfl⟩ := e1 f hf
        refine ⟨f', rfl, ?_⟩
        obtain ⟨z1, -, -⟩ := pshO_ok (x := 33) R S (Or.inl rfl) lt (by omega) (by omega) (m_X9_takesE_L22 f') (nI (8 * l + k))
        rw [L43, h33]; exact z1
      rw [if_neg h40, cb_some, if_pos rfl, hb_eq, P.2.2.2.2.1, nI_1, nI_1, y1, cb_some]
      cases v
      · rw [if_pos (show bI false = 0 from rfl)]
        refine ⟨false, hC2, rfl, fun _ => ?_, fun h => Bool.noConfusion h⟩
        obtain ⟨p', f1, f2, f3⟩ := yF rfl
        refine ⟨p', f1, f2, fun f hf => ?_⟩
        obtain ⟨f', g1, g2⟩ := L3 f hf
        rw [g2]; exact f3 f' (by omega)
      rw [if_neg (show ¬ bI true = 0 by decide)]
      obtain ⟨hM2, p2, q2, R2, S2, hq2, hp2, L4⟩ := yT rfl
      obtain ⟨j1, -, -, -, pn2, -⟩ := R2.k
      obtain ⟨hC3, hM3, w1, w2, R3, S3⟩ := whole_pop R2 S2 (by omega) (by omega) (by omega)
      refine ⟨true, hC3, ?_, fun h => Bool.noConfusion h, fun _ => ⟨hM3, p2, q2 + 1, R3, S3, by omega, by omega, fun f hf => ?_⟩⟩
      · rw [j1, ck_true _ k2, w1, cb_some]; rfl
      · obtain ⟨f', g1, g2⟩ := L3 f hf
        obtain ⟨f'', g3, g4⟩ := L4 f' (by omega)
        refine ⟨f'', by omega, fun h2 hw2 => ?_⟩
        rw [g2]
        refine g4 h2 (fun n hn => ?_)
        obtain ⟨n, rfl⟩ := Nat.exists_eq_succ_of_ne_zero (show n ≠ 0 by omega)
        rw [w2]
        exact hw2 n (by omega)
