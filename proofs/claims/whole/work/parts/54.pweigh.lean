/-! ===== pure: what a claim is weighed to ===== -/
theorem FrI.trans {A : Nat} {h h' h'' : Hp} (p : FrI A h h') (q : FrI A h' h'') : FrI A h h'' := ⟨fun a => (q.1 a).trans (p.1 a), fun a => (q.2.1 a).trans (p.2.1 a), fun a ha => (q.2.2 a ha).trans (p.2.2 a ha)⟩
theorem frI_one (A k : Nat) (v : Int32) (h : Hp) : FrI A h (si h A k v) := (FrI.refl A _).si
theorem LawI.frI {A l : Nat} {h h' g : Hp} (L : LawI h g l) (f : FrI A h h') (ha : A < 144) : LawI h' g l := L.fr (fun a h1 h2 => f.2.2 a (by omega)) (fun _ _ _ => rfl) rfl
def aloneS (g : Hp) (l : Nat) (r : Nat → Int32) (qd qp : Int32) : Int32 :=
  if r 1 - r 3 = 0 then 0 else if someS g l 0 r qd = true then 1 else if someS g l 1 r qd = true then 2
  else match dueS g l r qd qp with
    | some _ => 3
    | none => if someS g l 5 r qd = true then 4 else 5
def StW (h : Hp) (a : Nat) (g : Hp) (l : Nat) (r : Nat → Int32) (qd qp : Int32) : Prop :=
  gi h a 0 = r 3 ∧ gi h a 1 = r 1 - r 3 ∧ gi h a 2 = bI (dcanS r) ∧ gi h a 3 = bI (pcanS r) ∧ gi h a 4 = bI (goesS g l r qp) ∧ gi h a 5 = aloneS g l r qd qp ∧ gi h a 6 = kI (oathS g l r qd qp) ∧ gi h a 7 = kindS g l (oathS g l r qd qp) ∧ gi h a 8 = whoS g l r qd qp (kindS g l (oathS g l r qd qp)) ∧ gi h a 9 = whoS g l r qd qp 0
/-- what a weighing stands on -/
def WC (B l a1 : Nat) (r : Nat → Int32) (qd qp : Int32) (g h : Hp) : Prop := l < 6 ∧ LawI h g l ∧ gr h B 6 = 144 + 6 * l ∧ gi h B 7 = qp ∧ gi h B 8 = qd ∧ ∀ k, k < 10 → gi h a1 k = r k
theorem WC.fr {B l a1 a2 : Nat} {r : Nat → Int32} {qd qp : Int32} {g h h' : Hp} (W : WC B l a1 r qd qp g h) (f : FrI a2 h h') (h1 : a2 ≠ B) (h2 : a2 ≠ a1) (h3 : a2 < 144) : WC B l a1 r qd qp g h' := by
  obtain ⟨w1, w2, w3, w4, w5, w6⟩ := W
  exact ⟨w1, w2.frI f h3, by rw [f.2.1]; exact w3, by rw [f.2.2 B (fun e => h1 e.symm)]; exact w4, by rw [f.2.2 B (fun e => h1 e.symm)]; exact w5, fun k hk => by rw [f.2.2 a1 (fun e => h2 e.symm)]; exact w6 k hk⟩
theorem wr0 : WordR 0 0 := Or.inl ⟨rfl, rfl⟩
theorem wr1 : WordR 1 1 := Or.inr (Or.inl ⟨rfl, rfl⟩)
theorem wr3 : WordR 3 3 := Or.inr (Or.inr (Or.inr (Or.inl ⟨rfl, rfl⟩)))
theorem wr6 : WordR 6 4 := Or.inr (Or.inr (Or.inr (Or.inr (Or.inl ⟨rfl, rfl⟩))))
theorem wr7 : WordR 7 5 := Or.inr (Or.inr (Or.inr (Or.inr (Or.inr ⟨rfl, rfl⟩))))
theorem W226 (a2 : Nat) (pm : Bool) (t0 : Int32) (h : Hp) : ∃ h', m_X2_weigh_L226 a2 (bI pm) t0 a2 h = some ((), h') ∧ FrI a2 h h' ∧ gi h' a2 9 = t0 ∧ gi h' a2 8 = (if gi h a2 7 = 6 then (if pm = true then 1 else t0) else t0) ∧ ∀ k, k ≠ 8 → k ≠ 9 → gi h' a2 k = gi h a2 k := by
  have f1 := frI_one a2 9 t0 h
  have f2 := f1.trans (frI_one a2 8 t0 (si h a2 9 t0))
  have f3 := f2.trans (frI_one a2 8 1 _)
  unfold m_X2_weigh_L226
  simp only [hb_eq, gi_si, gi_si_nk (show 7 ≠ 8 by decide), gi_si_nk (show 7 ≠ 9 by decide)]
  by_cases h6 : gi h a2 7 = 6
  · rw [if_pos h6, if_pos h6]
    cases pm
    · rw [if_pos (show bI false = 0 from rfl)]
      refine ⟨_, rfl, f2, ?_, ?_, fun k h1 h2 => ?_⟩
      · rw [gi_si_nk (by decide), gi_si]
      · rw [gi_si]; rfl
      · rw [gi_si_nk h1, gi_si_nk h2]
    · rw [if_neg (show ¬ bI true = 0 by decide)]
      refine ⟨_, rfl, f3, ?_, ?_, fun k h1 h2 => ?_⟩
      · rw [gi_si_nk (by decide), gi_si_nk (by decide), gi_si]
      · rw [gi_si]; rfl
      · rw [gi_si_nk h1, gi_si_nk h1, gi_si_nk h2]
  · rw [if_neg h6, if_neg h6]
    refine ⟨_, rfl, f2, ?_, ?_, fun k h1 h2 => ?_⟩
    · rw [gi_si_nk (by decide), gi_si]
    · rw [gi_si]
    · rw [gi_si_nk h1, gi_si_nk h2]
def whoW (dm pm : Bool) : Int32 := if dm = true then 0 else if pm = true then 1 else 2
theorem W203 (a2 : Nat) (pm dm go : Bool) (h : Hp) : ∃ h', m_X2_weigh_L203 a2 (bI pm) (bI dm) (bI go) a2 h = some ((), h') ∧ FrI a2 h h' ∧ gi h' a2 4 = bI go ∧ gi h' a2 9 = whoW dm pm ∧ gi h' a2 8 = (if gi h a2 7 = 6 then (if pm = true then 1 else whoW dm pm) else whoW dm pm) ∧ ∀ k, k ≠ 4 → k ≠ 8 → k ≠ 9 → gi h' a2 k = gi h a2 k := by
  have key : ∀ t0, ∃ h', m_X2_weigh_L226 a2 (bI pm) t0 a2 (si h a2 4 (bI go)) = some ((), h') ∧ FrI a2 h h' ∧ gi h' a2 4 = bI go ∧ gi h' a2 9 = t0 ∧ gi h' a2 8 = (if gi h a2 7 = 6 then (if pm = true then 1 else t0) else t0) ∧ ∀ k, k ≠ 4 → k ≠ 8 → k ≠ 9 → gi h' a2 k = gi h a2 k := by
    intro t0
    obtain ⟨h', p, f, q1, q2, q3⟩ := W226 a2 pm t0 (si h a2 4 (bI go))
    refine ⟨h', p, (frI_one a2 4 _ h).trans f, ?_, q1, ?_, fun k h1 h2 h3 => ?_⟩
    · rw [q3 4 (by decide) (by decide), gi_si]
    · rw [q2, gi_si_nk (show 7 ≠ 4 by decide)]
    · rw [q3 k h2 h3, gi_si_nk h1]
  unfold m_X2_weigh_L203
  rw [ck_true _ (isb_bI _), hb_eq]
  cases dm
  · rw [if_pos (show bI false = 0 from rfl)]
    cases pm
    · rw [if_pos (show bI false = 0 from rfl)]; exact key 2
    · rw [if_neg (show ¬ bI true = 0 by decide)]; exact key 1
  · rw [if_neg (show ¬ bI true = 0 by decide)]; exact key 0
theorem W177 {B l a1 a2 : Nat} {r : Nat → Int32} {qd qp vp : Int32} {g h : Hp} (W : WC B l a1 r qd qp g h) (Bp : BitH g l r qp vp) (pm dm : Bool) : ∃ h', m_X2_weigh_L177 B a2 vp (bI pm) (bI dm) h = some ((), h') ∧ FrI a2 h h' ∧ gi h' a2 4 = bI (someS g l 4 r qp && pm) ∧ gi h' a2 9 = whoW dm pm ∧ gi h' a2 8 = (if gi h a2 7 = 6 then (if pm = true then 1 else whoW dm pm) else whoW dm pm) ∧ ∀ k, k ≠ 4 → k ≠ 8 → k ≠ 9 → gi h' a2 k = gi h a2 k := by
  unfold m_X2_weigh_L177 m_X2_weigh_L202
  obtain ⟨w1, w2, w3, w4, w5, w6⟩ := W
  cases pm
  · rw [if_pos (show bI false = 0 from rfl), Bool.and_false]
    exact W203 a2 false dm false h
  · rw [if_neg (show ¬ bI true = 0 by decide), w3, ck_true _ (kC3 w1), C_has w2 wr6 Bp, cb_some, Bool.and_true]
    cases someS g l 4 r qp
    · rw [if_pos (show bI false = 0 from rfl)]; exact W203 a2 true dm false h
    · rw [if_neg (show ¬ bI true = 0 by decide)]; exact W203 a2 true dm true h
theorem W157 {B l a1 a2 : Nat} {r : Nat → Int32} {qd qp vp vd : Int32} {g h : Hp} (W : WC B l a1 r qd qp g h) (Bp : BitH g l r qp vp) (Bd : BitH g l r qd vd) (pm : Bool) : ∃ h', m_X2_weigh_L157 B a2 vp vd (bI pm) h = some ((), h') ∧ FrI a2 h h' ∧ gi h' a2 4 = bI (someS g l 4 r qp && pm) ∧ gi h' a2 9 = whoW (!someS g l 3 r qd) pm ∧ gi h' a2 8 = (if gi h a2 7 = 6 then (if pm = true then 1 else whoW (!someS g l 3 r qd) pm) else whoW (!someS g l 3 r qd) pm) ∧ ∀ k, k ≠ 4 → k ≠ 8 → k ≠ 9 → gi h' a2 k = gi h a2 k := by
  unfold m_X2_weigh_L157
  have W' := W
  obtain ⟨w1, w2, w3, w4, w5, w6⟩ := W
  rw [w3, ck_true _ (kC3 w1), C_has w2 wr3 Bd, cb_some]
  cases someS g l 3 r qd
  · rw [if_pos (show bI false = 0 from rfl)]; exact W177 W' Bp pm true
  · rw [if_neg (show ¬ bI true = 0 by decide)]; exact W177 W' Bp pm false
theorem C_alone {B l a1 a2 : Nat} {r : Nat → Int32} {qd qp vd : Int32} {g h : Hp} (W : WC B l a1 r qd qp g h) (Bd : BitH g l r qd vd) (h1 : gi h a2 1 = r 1 - r 3) (h6 : gi h a2 6 = kI (oathS g l r qd qp)) : m_X2_comesAlone B a2 vd h = some (aloneS g l r qd qp, h) := by
  obtain ⟨w1, w2, w3, w4, w5, w6⟩ := W
  have n8 := (ncS_n w2).2.1
  unfold m_X2_comesAlone m_X2_comesAlone_L60 aloneS
  rw [h1]
  by_cases h0 : r 1 - r 3 = 0
  · rw [if_pos h0, if_pos h0]
  rw [if_neg h0, if_neg h0, w3, ck_true _ (kC3 w1), C_has w2 wr0 Bd, cb_some]
  cases s0 : someS g l 0 r qd
  case true => rfl
  rw [if_pos (show bI false = 0 from rfl), w3, ck_true _ (kC3 w1), C_has w2 wr1 Bd, cb_some, if_neg (show ¬ false = true by decide)]
  cases s1 : someS g l 1 r qd
  case true => rfl
  rw [if_pos (show bI false = 0 from rfl), h6, w3, ck_true _ (kC3 w1), ck_true _ (kC3 w1), C_has w2 wr7 Bd, cb_some, if_neg (show ¬ false = true by decide)]
  obtain ⟨-, a, b, c, d, e, -, -, -, -, -, -, e99, -, -, -, -, eC, -, -, -, -, eM⟩ := w2
  rw [h1, eC]
  unfold dueS
  rw [if_neg h0, s0, s1, eM]
  have rl : (if bI (someS g l 5 r qd) = 0 then some ((5 : Int32), h) else some (4, h)) = some (if someS g l 5 r qd = true then 4 else 5, h) := by cases someS g l 5 r qd <;> rfl
  rw [rl]
  by_cases hle : nI e ≤ r 1 - r 3
  · rw [if_pos hle, if_neg (show ¬ false = true by decide), if_neg (show ¬ false = true by decide), if_neg (show ¬ r 1 - r 3 < nI e by rw [Int32.lt_iff_toInt_lt]; rw [Int32.le_iff_toInt_le] at hle; omega)]
    cases ho : oathS g l r qd qp with
    | none => rfl
    | some k =>
      have hk := fiB_some _ _ ho
      rw [if_neg (show ¬ kI (some k) < 0 from nI_pos (by omega))]
  · rw [if_neg hle, if_pos (show r 1 - r 3 < nI e by rw [Int32.lt_iff_toInt_lt]; rw [Int32.le_iff_toInt_le] at hle; omega)]
    split <;> rfl
theorem W126 {B l a1 a2 : Nat} {r : Nat → Int32} {qd qp vp vd t0 : Int32} {g h : Hp} (W : WC B l a1 r qd qp g h) (n1 : a2 ≠ B) (n2 : a2 ≠ a1) (n3 : a2 < 144) (Bp : BitH g l r qp vp) (Bd : BitH g l r qd vd) (h1 : gi h a2 1 = r 1 - r 3) (h6 : gi h a2 6 = kI (oathS g l r qd qp)) : ∃ h', m_X2_weigh_L126 B a2 vp vd t0 a2 h = some ((), h') ∧ FrI a2 h h' ∧ gi h' a2 7 = t0 ∧ gi h' a2 5 = aloneS g l r qd qp ∧ gi h' a2 4 = bI (goesS g l r qp) ∧ gi h' a2 9 = whoS g l r qd qp 0 ∧ gi h' a2 8 = whoS g l r qd qp t0 ∧ ∀ k, k ≠ 4 → k ≠ 5 → k ≠ 7 → k ≠ 8 → k ≠ 9 → gi h' a2 k = gi h a2 k := by
  have f1 := frI_one a2 7 t0 h
  have W1 := W.fr f1 n1 n2 n3
  have f2 := frI_one a2 5 (aloneS g l r qd qp) (si h a2 7 t0)
  have W2 := W1.fr f2 n1 n2 n3
  obtain ⟨h', p, f, q4, q9, q8, qk⟩ := W157 (a2 := a2) W2 Bp Bd (!someS g l 3 r qp)
  refine ⟨h', ?_, (f1.trans f2).trans f, ?_, ?_, ?_, ?_, ?_, fun k k4 k5 k7 k8 k9 => ?_⟩
  · unfold m_X2_weigh_L126
    rw [hb_eq, C_alone W1 Bd (by rw [gi_si_nk (by decide)]; exact h1) (by rw [gi_si_nk (by decide)]; exact h6), cb_some, hb_eq, W2.2.2.1, ck_true _ (kC3 W.1), C_has W2.2.1 wr3 Bp, cb_some, ← p]
    cases someS g l 3 r qp <;> rfl
  · rw [qk 7 (by decide) (by decide) (by decide), gi_si_nk (by decide), gi_si]
  · rw [qk 5 (by decide) (by decide) (by decide), gi_si]
  · rw [q4]; rfl
  · rw [q9]; unfold whoS whoW
    cases someS g l 3 r qd <;> cases someS g l 3 r qp <;> rfl
  · rw [q8, gi_si_nk (by decide), gi_si]; unfold whoS whoW
    by_cases e : t0 = 6
    · rw [if_pos e, if_pos e]
      cases someS g l 3 r qd <;> cases someS g l 3 r qp <;> rfl
    · rw [if_neg e, if_neg e]
      cases someS g l 3 r qd <;> cases someS g l 3 r qp <;> rfl
  · rw [qk k k4 k8 k9, gi_si_nk k5, gi_si_nk k7]
theorem W58 {B l a1 a2 : Nat} {r : Nat → Int32} {qd qp : Int32} {g h : Hp} (W : WC B l a1 r qd qp g h) (n1 : a2 ≠ B) (n2 : a2 ≠ a1) (n3 : a2 < 144) (b : Bool) (h1 : gi h a2 1 = r 1 - r 3) : ∃ h', m_X2_weigh_L58 B a1 a2 (bI b) a2 h = some ((), h') ∧ FrI a2 h h' ∧ gi h' a2 3 = bI b ∧ gi h' a2 6 = kI (oathS g l r qd qp) ∧ gi h' a2 7 = kindS g l (oathS g l r qd qp) ∧ gi h' a2 5 = aloneS g l r qd qp ∧ gi h' a2 4 = bI (goesS g l r qp) ∧ gi h' a2 9 = whoS g l r qd qp 0 ∧ gi h' a2 8 = whoS g l r qd qp (kindS g l (oathS g l r qd qp)) ∧ ∀ k, k < 3 ∨ 9 < k → gi h' a2 k = gi h a2 k := by
  have f1 := frI_one a2 3 (bI b) h
  have W1 := W.fr f1 n1 n2 n3
  have f2 := frI_one a2 6 (kI (oathS g l r qd qp)) (si h a2 3 (bI b))
  have W2 := W1.fr f2 n1 n2 n3
  obtain ⟨vp, pp, Bp⟩ := C_holding (q := qp) W.1 W1.2.1 W1.2.2.2.2.2
  obtain ⟨vd, pd, Bd⟩ := C_holding (q := qd) W.1 W1.2.1 W1.2.2.2.2.2
  obtain ⟨h', p, f, q7, q5, q4, q9, q8, qk⟩ := W126 (t0 := kindS g l (oathS g l r qd qp)) W2 n1 n2 n3 Bp Bd (by rw [gi_si_nk (by decide), gi_si_nk (by decide)]; exact h1) (gi_si _ _ _ _)
  refine ⟨h', ?_, (f1.trans f2).trans f, ?_, ?_, q7, q5, q4, q9, q8, fun k hk => ?_⟩
  · unfold m_X2_weigh_L58
    rw [ck_true _ (isb_bI _), hb_eq, W1.2.2.1, W1.2.2.2.1, ck_true _ (kC3 W.1), pp, cb_some, W1.2.2.1, W1.2.2.2.2.1, ck_true _ (kC3 W.1), pd, cb_some, W1.2.2.1, ck_true _ (kC3 W.1), C_first W1.2.1 Bd Bp, cb_some, hb_eq, gi_si, W2.2.2.1]
    rw [← p]
    obtain ⟨e1, n8, ks⟩ := ncS_n W2.2.1
    cases ho : oathS g l r qd qp with
    | none => rw [if_neg (by decide)]; rfl
    | some k =>
      obtain ⟨k1, k2, k3⟩ := fiB_some _ _ ho
      rw [Bool.and_eq_true, decide_eq_true_eq] at k3
      have hs := (law_word W2.2.1 (k := k) (by omega) (s := 2) (w := 2) (Or.inr (Or.inr (Or.inl ⟨rfl, rfl⟩)))).mpr k3.1
      have hk : gi (si (si h a2 3 (bI b)) a2 6 (kI (oathS g l r qd qp))) (144 + 6 * l + 2) k = gi g 10 (8 * l + k) := by
        rcases ks k (by omega) with n | ⟨-, -, q2⟩
        · exact absurd (k3.1.symm.trans n.1) (by decide)
        · rw [if_pos hs] at q2; exact q2.1
      rw [ho] at hk
      rw [if_pos (show 0 ≤ kI (some k) from nI_pos' (by omega)), ck_true _ (kC3 W.1), show kI (some k) = nI k from rfl, ck_true _ (inb_nI (by omega) (by decide)), nI_clamp (by omega)]
      rw [show nI k = kI (some k) from rfl, hk]
      rfl
  · rw [qk 3 (by decide) (by decide) (by decide) (by decide) (by decide), gi_si_nk (by decide), gi_si]
  · rw [qk 6 (by decide) (by decide) (by decide) (by decide) (by decide), gi_si]
  · rw [qk k (by omega) (by omega) (by omega) (by omega) (by omega), gi_si_nk (by omega), gi_si_nk (by omega)]
theorem C_weigh {B l a1 a2 : Nat} {r : Nat → Int32} {qd qp : Int32} {g h : Hp} (W : WC B l a1 r qd qp g h) (n1 : a2 ≠ B) (n2 : a2 ≠ a1) (n3 : a2 < 144) : ∃ h', m_X2_weigh B a1 a2 h = some ((), h') ∧ FrI a2 h h' ∧ StW h' a2 g l r qd qp ∧ ∀ k, 9 < k → gi h' a2 k = gi h a2 k := by
  have r1 := W.2.2.2.2.2 1 (by decide)
  have r3 := W.2.2.2.2.2 3 (by decide)
  have r9 := W.2.2.2.2.2 9 (by decide)
  have n2' : a1 ≠ a2 := fun e => n2 e.symm
  have f1 := frI_one a2 0 (r 3) h
  have f2 := frI_one a2 1 (r 1 - r 3) (si h a2 0 (r 3))
  have f3 := frI_one a2 2 (bI (dcanS r)) (si (si h a2 0 (r 3)) a2 1 (r 1 - r 3))
  have W3 := W.fr ((f1.trans f2).trans f3) n1 n2 n3
  obtain ⟨h', p, f, q3, q6, q7, q5, q4, q9, q8, qk⟩ := W58 W3 n1 n2 n3 (pcanS r) (by rw [gi_si_nk (by decide), gi_si])
  refine ⟨h', ?_, ((f1.trans f2).trans f3).trans f, ⟨?_, ?_, ?_, q3, q4, q5, q6, q7, q8, q9⟩, fun k hk => ?_⟩
  · unfold m_X2_weigh m_X2_weigh_L38
    simp only [hb_eq, gi_si_ne n2', r1, r3, r9, ck_true _ isb_0, ck_true _ isb_1]
    rw [← p]
    unfold dcanS pcanS
    by_cases c1 : r 3 < r 9 <;> by_cases c2 : r 9 < r 1 <;> simp only [c1, c2, if_pos, if_false, decide_true, decide_false, Bool.not_true, Bool.not_false] <;> rfl
  · rw [qk 0 (by omega), gi_si_nk (by decide), gi_si_nk (by decide), gi_si]
  · rw [qk 1 (by omega), gi_si_nk (by decide), gi_si]
  · rw [qk 2 (by omega), gi_si]
  · rw [qk k (Or.inr hk), gi_si_nk (by omega), gi_si_nk (by omega), gi_si_nk (by omega)]
