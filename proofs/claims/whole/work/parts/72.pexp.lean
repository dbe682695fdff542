/-! ===== pure: the tests of a clause, class's descent beside the reference's stack ===== -/
def FEc (l k q0 : Nat) (b h : Hp) : Prop := (∀ a j, ¬ ((a = 9 ∧ j = 2) ∨ (a = 144 + 6 * l ∧ j = 6) ∨ (a = 144 + 6 * l + 4 ∧ j = k) ∨ (a = 144 + 6 * l + 5 ∧ q0 ≤ j)) → gi h a j = gi b a j) ∧ (∀ a, gl h a = gl b a) ∧ ∀ a, gr h a = gr b a
def FEm (l k q0 : Nat) (b h : Hp) : Prop := (∀ a j, ¬ ((a = 1 ∧ (j = 9 ∨ j = 22 ∨ j = 23 ∨ j = 25 ∨ j = 26)) ∨ a = 19 ∨ (a = 12 ∧ j = 8 * l + k) ∨ (a = 18 ∧ 100 * l + q0 ≤ j)) → gi h a j = gi b a j) ∧ ∀ a, gl h a = gl b a
theorem FEc.trans {l k q0 : Nat} {a b c : Hp} (p : FEc l k q0 a b) (q : FEc l k q0 b c) : FEc l k q0 a c := ⟨fun x j e => (q.1 x j e).trans (p.1 x j e), fun x => (q.2.1 x).trans (p.2.1 x), fun x => (q.2.2 x).trans (p.2.2 x)⟩
theorem FEm.trans {l k q0 : Nat} {a b c : Hp} (p : FEm l k q0 a b) (q : FEm l k q0 b c) : FEm l k q0 a c := ⟨fun x j e => (q.1 x j e).trans (p.1 x j e), fun x => (q.2 x).trans (p.2 x)⟩
theorem FEc.adv {l k q0 : Nat} {b h h' : Hp} (p : FEc l k q0 b h) (q : AdvC h h') : FEc l k q0 b h' := ⟨fun x j e => (q.1 x j (fun z => e (Or.inl z))).trans (p.1 x j e), fun x => (q.2.1 x).trans (p.2.1 x), fun x => (q.2.2 x).trans (p.2.2 x)⟩
theorem FEm.adv {l k q0 : Nat} {b h h' : Hp} (p : FEm l k q0 b h) (q : AdvM h h') : FEm l k q0 b h' := ⟨fun x j e => (q.1 x j (fun z => e (Or.inl ⟨z.1, z.2.elim Or.inl (fun y => Or.inr (Or.inr (Or.inl y)))⟩))).trans (p.1 x j e), fun x => (q.2 x).trans (p.2 x)⟩
theorem FEm.si {l k q0 a j : Nat} {b h : Hp} (v : Int32) (p : FEm l k q0 b h) (e : (a = 1 ∧ (j = 9 ∨ j = 22 ∨ j = 23 ∨ j = 25 ∨ j = 26)) ∨ a = 19 ∨ (a = 12 ∧ j = 8 * l + k) ∨ (a = 18 ∧ 100 * l + q0 ≤ j)) : FEm l k q0 b (CWhoMustSwearLaw_law_r3158_1d0569.si h a j v) := ⟨fun x i z => by
  rw [gi_si_if, if_neg (fun q => z (by rw [q.1, q.2]; exact e))]; exact p.1 x i z, fun x => p.2 x⟩
/-- the state while tests are read: position p, q steps, d operands wait -/
def PR (l nf k q0 : Nat) (t : Nat → Nat) (bC bM : Hp) (p q d : Nat) (hC hM : Hp) : Prop := (l < 6 ∧ k < 8) ∧ PT nf t p hC hM ∧ q0 ≤ q ∧ gi hC (144 + 6 * l) 6 = nI q ∧ gi hM 1 22 = nI (100 * l + q) ∧ gi hC (144 + 6 * l + 4) k = nI q ∧ (∀ i, q0 ≤ i → i < q → TokR (gi hC (144 + 6 * l + 5) i) (gi hM 18 (100 * l + i))) ∧ dpN (gi hM 18) (q - q0) (100 * l + q0) 0 = some d ∧ (gr hC 9 3 = 144 + 6 * l ∧ gi hC (144 + 6 * l) 5 = nI (k + 1)) ∧ FEc l k q0 bC hC ∧ FEm l k q0 bM hM
def opn : List Nat → Nat
  | [] => 0
  | x :: K => opn K + (if x = 33 ∨ x = 40 then 1 else 0)
def StkW (K : List Nat) (h : Hp) : Prop := gi h 1 25 = nI K.length ∧ gi h 1 26 = nI (opn K) ∧ ∀ i, i < K.length → gi h 19 i = nI (K.getD (K.length - 1 - i) 0)
theorem dpN_cg {f g : Nat → Int32} : ∀ n i d, (∀ j, i ≤ j → j < i + n → g j = f j) → dpN g n i d = dpN f n i d
  | 0, _, _, _ => rfl
  | n + 1, i, d, e => by
    unfold dpN
    rw [e i (Nat.le_refl _) (by omega)]
    cases dpS (f i) d with
    | none => rfl
    | some d' => exact dpN_cg n (i + 1) d' (fun j h1 h2 => e j (by omega) (by omega))
theorem dpN_snoc {f : Nat → Int32} : ∀ n i d e e', dpN f n i d = some e → dpS (f (i + n)) e = some e' → dpN f (n + 1) i d = some e'
  | 0, i, d, e, e', h1, h2 => by
    have : d = e := Option.some.inj h1
    subst this
    unfold dpN
    rw [Nat.add_zero] at h2
    rw [h2]; rfl
  | n + 1, i, d, e, e', h1, h2 => by
    obtain ⟨d', h3, h4⟩ := dpN_succ h1
    have := dpN_snoc n (i + 1) d' e e' h4 (by rw [show i + 1 + n = i + (n + 1) by omega]; exact h2)
    conv => lhs; unfold dpN
    rw [h3]; exact this
theorem PR.adv {l nf k q0 p p' q d : Nat} {t : Nat → Nat} {bC bM hC hM kC kM : Hp} (R : PR l nf k q0 t bC bM p q d hC hM) (c : AdvC hC kC) (m : AdvM hM kM) (P : PT nf t p' kC kM) : PR l nf k q0 t bC bM p' q d kC kM := by
  obtain ⟨a0, a1, a2, a3, a4, a5, a6, a7, a8, a9, a10⟩ := R
  have f18 : gi kM 18 = gi hM 18 := funext fun j => m.1 18 j (by omega)
  refine ⟨a0, P, a2, by rw [c.1 _ _ (by omega)]; exact a3, by rw [m.1 _ _ (by decide)]; exact a4, by rw [c.1 _ _ (by omega)]; exact a5, fun i h1 h2 => ?_, by rw [f18]; exact a7, ⟨by rw [c.2.2]; exact a8.1, by rw [c.1 _ _ (by omega)]; exact a8.2⟩, a9.adv c, a10.adv m⟩
  rw [c.1 _ _ (by omega), f18]; exact a6 i h1 h2
/-- the stack's own cells -/
theorem PR.stk {l nf k q0 p q d : Nat} {t : Nat → Nat} {bC bM hC hM kM : Hp} (R : PR l nf k q0 t bC bM p q d hC hM) (e : ∀ a j, ¬ (a = 19 ∨ (a = 1 ∧ (j = 25 ∨ j = 26)) ∨ (a = 12 ∧ j = 8 * l + k)) → gi kM a j = gi hM a j) (el : ∀ a, gl kM a = gl hM a) : PR l nf k q0 t bC bM p q d hC kM := by
  obtain ⟨a0, a1, a2, a3, a4, a5, a6, a7, a8, a9, a10⟩ := R
  have f18 : gi kM 18 = gi hM 18 := funext fun j => e 18 j (by omega)
  have f7 : gi kM 7 = gi hM 7 := funext fun j => e 7 j (by omega)
  refine ⟨a0, ?_, a2, a3, by rw [e 1 22 (by omega)]; exact a4, a5, fun i h1 h2 => by rw [f18]; exact a6 i h1 h2, by rw [f18]; exact a7, a8, a9, ⟨fun x j z => ?_, fun x => (el x).trans (a10.2 x)⟩⟩
  · obtain ⟨b1, b2, b3, b4, b5, b6, b7⟩ := a1
    exact ⟨b1, b2, b3, by rw [e 1 8 (by omega)]; exact b4, b5, by rw [e 1 9 (by omega)]; exact b6, fun i => by rw [f7]; exact b7 i⟩
  · rw [e x j (fun y => z (by omega))]; exact a10.1 x j z
def emC (l k q : Nat) (s : Int32) (h : Hp) : Hp := si (si (si h (144 + 6 * l + 5) q s) (144 + 6 * l) 6 (nI (q + 1))) (144 + 6 * l + 4) k (nI (q + 1))
def emM (l q : Nat) (tk : Int32) (h : Hp) : Hp := si (si h 18 (100 * l + q) tk) 1 22 (nI (100 * l + q + 1))
theorem PR.emit {l nf k q0 p q d d' : Nat} {t : Nat → Nat} {bC bM hC hM : Hp} {s tk : Int32} (R : PR l nf k q0 t bC bM p q d hC hM) (hq : q < 100) (T : TokR s tk) (hd : dpS tk d = some d') : m_X3_addStep (144 + 6 * l) s hC = some ((), emC l k q s hC) ∧ m_X9_put tk hM = some ((), emM l q tk hM) ∧ PR l nf k q0 t bC bM p (q + 1) d' (emC l k q s hC) (emM l q tk hM) := by
  obtain ⟨⟨l6, k8⟩, a1, a2, a3, a4, a5, a6, a7, a8, a9, a10⟩ := R
  have gC : ∀ a j, ¬ ((a = 144 + 6 * l + 5 ∧ j = q) ∨ (a = 144 + 6 * l ∧ j = 6) ∨ (a = 144 + 6 * l + 4 ∧ j = k)) → gi (emC l k q s hC) a j = gi hC a j := fun a j e => by
    unfold emC
    rw [gi_si_if, if_neg (fun z => e (Or.inr (Or.inr z))), gi_si_if, if_neg (fun z => e (Or.inr (Or.inl z))), gi_si_if, if_neg (fun z => e (Or.inl z))]
  have gM : ∀ a j, ¬ ((a = 18 ∧ j = 100 * l + q) ∨ (a = 1 ∧ j = 22)) → gi (emM l q tk hM) a j = gi hM a j := fun a j e => by
    unfold emM
    rw [gi_si_if, if_neg (fun z => e (Or.inr z)), gi_si_if, if_neg (fun z => e (Or.inl z))]
  refine ⟨?_, ?_, ⟨⟨l6, k8⟩, ?_, by omega, ?_, ?_, ?_, fun i h1 h2 => ?_, ?_, ⟨a8.1, ?_⟩, ⟨fun x j z => ?_, fun x => a9.2.1 x, fun x => a9.2.2 x⟩, ⟨fun x j z => ?_, fun x => a10.2 x⟩⟩⟩
  · unfold m_X3_addStep
    rw [a3, a8.2, if_neg (show ¬ (100 : Int32) ≤ nI q from nI_ge (a := q) (b := 100) hq (by decide)), if_pos (show (1 : Int32) ≤ nI (k + 1) from nI_le (a := 1) (b := k + 1) (by omega) (by omega)), ck_true _ (inb_nI hq (by decide)), nI_clamp (by omega), hb_eq, gi_si_ne (show 144 + 6 * l ≠ 144 + 6 * l + 5 by omega), a3, nI_1, hb_eq, gi_si_nk (show 5 ≠ 6 by decide), gi_si_ne (show 144 + 6 * l ≠ 144 + 6 * l + 5 by omega), a8.2, nI_pred, ck_true _ (inb_nI k8 (by decide)), nI_clamp (by omega), gi_si, hb_eq]
    rfl
  · unfold m_X9_put
    rw [a4, ck_true _ (inb_nI (by omega) (by decide)), nI_clamp (by omega), hb_eq, gi_si_ne (show 1 ≠ 18 by decide), a4, nI_1, hb_eq]
    rfl
  · obtain ⟨b1, b2, b3, b4, b5, b6, b7⟩ := a1
    exact ⟨b1, b2, by rw [gC 9 1 (by omega)]; exact b3, by rw [gM 1 8 (by omega)]; exact b4, by rw [gC 9 2 (by omega)]; exact b5, by rw [gM 1 9 (by omega)]; exact b6, fun i => by rw [gC 10 i (by omega), gM 7 i (by omega)]; exact b7 i⟩
  · unfold emC; rw [gi_si_ne (by omega), gi_si]
  · unfold emM; rw [gi_si]; rfl
  · unfold emC; rw [gi_si]
  · by_cases e : i = q
    · subst e
      unfold emC emM
      rw [gi_si_ne (by omega), gi_si_ne (by omega), gi_si, gi_si_ne (by decide), gi_si]; exact T
    · rw [gC _ _ (by omega), gM _ _ (by omega)]; exact a6 i h1 (by omega)
  · rw [show q + 1 - q0 = (q - q0) + 1 by omega]
    refine dpN_snoc _ _ _ d d' ?_ ?_
    · rw [dpN_cg (f := gi hM 18) _ _ _ (fun j h1 h2 => gM 18 j (by omega))]; exact a7
    · unfold emM
      rw [gi_si_ne (by decide), show 100 * l + q0 + (q - q0) = 100 * l + q by omega, gi_si]; exact hd
  · rw [gC _ _ (by omega)]; exact a8.2
  · rw [gC x j (fun y => z (by omega))]; exact a9.1 x j z
  · rw [gM x j (fun y => z (by omega))]; exact a10.1 x j z
theorem StkW.em {K : List Nat} {l q : Nat} {tk : Int32} {h : Hp} (S : StkW K h) : StkW K (emM l q tk h) := by
  obtain ⟨s1, s2, s3⟩ := S
  unfold emM
  refine ⟨?_, ?_, fun i hi => ?_⟩
  · rw [gi_si_nk (by decide), gi_si_ne (by decide)]; exact s1
  · rw [gi_si_nk (by decide), gi_si_ne (by decide)]; exact s2
  · rw [gi_si_ne (by decide), gi_si_ne (by decide)]; exact s3 i hi
theorem StkW.adv {K : List Nat} {h h' : Hp} (S : StkW K h) (m : AdvM h h') : StkW K h' := by
  obtain ⟨s1, s2, s3⟩ := S
  exact ⟨by rw [m.1 1 25 (by decide)]; exact s1, by rw [m.1 1 26 (by decide)]; exact s2, fun i hi => by rw [m.1 19 i (by omega)]; exact s3 i hi⟩
theorem StkW.top {x : Nat} {K : List Nat} {h : Hp} (S : StkW (x :: K) h) : gi h 19 K.length = nI x ∧ ∀ i, i < K.length → gi h 19 i = nI (K.getD (K.length - 1 - i) 0) := by
  obtain ⟨s1, s2, s3⟩ := S
  simp only [List.length_cons] at s3
  refine ⟨?_, fun i hi => ?_⟩
  · rw [s3 K.length (by omega), show K.length + 1 - 1 - K.length = 0 by omega]; rfl
  · rw [s3 i (by omega), show K.length + 1 - 1 - i = (K.length - 1 - i) + 1 by omega]; rfl
/-- one off the stack -/
theorem StkW.pop {x : Nat} {K : List Nat} {h : Hp} (S : StkW (x :: K) h) : StkW K (si (si h 1 25 (nI K.length)) 1 26 (nI (opn K))) := by
  refine ⟨by rw [gi_si_nk (by decide), gi_si], gi_si _ _ _ _, fun i hi => ?_⟩
  rw [gi_si_ne (by decide), gi_si_ne (by decide)]; exact S.top.2 i hi
theorem StkW.popO {x : Nat} {K : List Nat} {h : Hp} (S : StkW (x :: K) h) (hx : ¬ (x = 33 ∨ x = 40)) : StkW K (si h 1 25 (nI K.length)) := by
  refine ⟨gi_si _ _ _ _, ?_, fun i hi => ?_⟩
  · rw [gi_si_nk (by decide), S.2.1]
    rw [show opn (x :: K) = opn K + (if x = 33 ∨ x = 40 then 1 else 0) from rfl, if_neg hx]; rfl
  · rw [gi_si_ne (by decide)]; exact S.top.2 i hi
theorem StkW.push {x : Nat} {K : List Nat} {h h' : Hp} (S : StkW K h) (e1 : gi h' 1 25 = nI (K.length + 1)) (e2 : gi h' 1 26 = nI (opn (x :: K))) (e3 : gi h' 19 K.length = nI x) (e4 : ∀ i, i < K.length → gi h' 19 i = gi h 19 i) : StkW (x :: K) h' := by
  refine ⟨e1, e2, fun i hi => ?_⟩
  simp only [List.length_cons] at hi ⊢
  by_cases e : i = K.length
  · subst e; rw [e3, show K.length + 1 - 1 - K.length = 0 by omega]; rfl
  · rw [e4 i (by omega), S.2.2 i (by omega), show K.length + 1 - 1 - i = (K.length - 1 - i) + 1 by omega]; rfl
theorem whole_stop {K : List Nat} {h : Hp} (S : StkW K h) (hK : K.length ≤ 100) (ht : ∀ x K', K = x :: K' → x ≠ 33 ∧ x < 128) : ∀ n, 0 < n → m_X9_whole_L0 n h = some ((), h) := by
  intro n hn
  obtain ⟨n, rfl⟩ := Nat.exists_eq_succ_of_ne_zero (by omega : n ≠ 0)
  unfold m_X9_whole_L0
  have s1 := S.1
  cases K with
  | nil => rw [s1, if_pos (by decide)]
  | cons x K =>
    obtain ⟨h1, h2⟩ := ht x K rfl
    simp only [List.length_cons] at hK s1
    rw [s1, if_neg (show ¬ nI (K.length + 1) ≤ 0 from nI_ge (b := K.length + 1) (a := 0) (by omega) (by omega)), nI_pred, ck_true _ (inb_nI (by omega) (by decide)), nI_clamp (by omega), S.top.1, if_neg (show ¬ nI x = 33 from fun e => h1 ((nI_eq (b := 33) (by omega) (by decide)).mp e))]
theorem whole_pop {l nf k q0 p q d : Nat} {t : Nat → Nat} {bC bM hC hM : Hp} {K : List Nat} (R : PR l nf k q0 t bC bM p q d hC hM) (S : StkW (33 :: K) hM) (hq : q < 100) (hd : 1 ≤ d) (hK : K.length < 100) : ∃ hC' hM', m_X3_addStep (144 + 6 * l) (-1) hC = some ((), hC') ∧ (∀ n, m_X9_whole_L0 (n + 1) hM = m_X9_whole_L0 n hM') ∧ PR l nf k q0 t bC bM p (q + 1) d hC' hM' ∧ StkW K hM' := by
  obtain ⟨e1, e2, R'⟩ := R.emit (s := -1) (tk := -33) hq (Or.inl ⟨rfl, rfl⟩) (by unfold dpS; rw [if_pos rfl, if_pos hd])
  have S' : StkW (33 :: K) (emM l q (-33) hM) := S.em
  refine ⟨_, si (si (emM l q (-33) hM) 1 25 (nI K.length)) 1 26 (nI (opn K)), e1, fun n => ?_, R'.stk (fun a j z => ?_) (fun _ => rfl), S'.pop⟩
  · have s1 := S.1
    have s2 : gi (emM l q (-33) hM) 1 26 = nI (opn K + 1) := by
      rw [S'.2.1]; rfl
    have s1' : gi (emM l q (-33) hM) 1 25 = nI (K.length + 1) := S'.1
    simp only [List.length_cons] at s1
    conv => lhs; unfold m_X9_whole_L0
    rw [s1, if_neg (show ¬ nI (K.length + 1) ≤ 0 from nI_ge (b := K.length + 1) (a := 0) (by omega) (by omega)), nI_pred, ck_true _ (inb_nI (by omega) (by decide)), nI_clamp (by omega), S.top.1, if_pos (show nI 33 = 33 from rfl), e2, cb_some, s1', nI_pred, hb_eq, gi_si_nk (show 26 ≠ 25 by decide), s2, nI_pred, hb_eq]
  · rw [gi_si_if, if_neg (fun y => z (by omega)), gi_si_if, if_neg (fun y => z (by omega))]
theorem settle_pop {l nf k q0 p q d x : Nat} {s a1 : Int32} {t : Nat → Nat} {bC bM hC hM : Hp} {K : List Nat} (R : PR l nf k q0 t bC bM p q d hC hM) (S : StkW (x :: K) hM) (hx : (x = 38 ∧ s = -2) ∨ (x = 124 ∧ s = -3 ∧ a1 ≠ 38)) (hq : q < 100) (hd : 2 ≤ d) (hK : K.length < 100) : ∃ hC' hM', m_X3_addStep (144 + 6 * l) s hC = some ((), hC') ∧ (∀ n, m_X9_settle_L0 (n + 1) a1 hM = m_X9_settle_L0 n a1 hM') ∧ PR l nf k q0 t bC bM p (q + 1) (d - 1) hC' hM' ∧ StkW K hM' := by
  have hx2 : ¬ (x = 33 ∨ x = 40) := by omega
  have S1 := S.popO hx2
  have R1 : PR l nf k q0 t bC bM p q d hC (si hM 1 25 (nI K.length)) := R.stk (fun a j z => by rw [gi_si_if, if_neg (fun y => z (by omega))]) (fun _ => rfl)
  have tok : TokR s (-nI x) := by
    rcases hx with ⟨rfl, rfl⟩ | ⟨rfl, rfl, -⟩
    · exact Or.inr (Or.inl ⟨rfl, rfl⟩)
    · exact Or.inr (Or.inr (Or.inl ⟨rfl, rfl⟩))
  have dps : dpS (-nI x) d = some (d - 1) := by
    rcases hx with ⟨rfl, -⟩ | ⟨rfl, -, -⟩
    · unfold dpS; rw [if_neg (by decide), if_pos (show -nI 38 = -38 ∨ -nI 38 = -124 from Or.inl rfl), if_pos hd]
    · unfold dpS; rw [if_neg (by decide), if_pos (show -nI 124 = -38 ∨ -nI 124 = -124 from Or.inr rfl), if_pos hd]
  obtain ⟨e1, e2, R'⟩ := R1.emit (s := s) (tk := -nI x) hq tok dps
  refine ⟨_, _, e1, fun n => ?_, R', S1.em⟩
  have s1 := S.1
  simp only [List.length_cons] at s1
  have tp := S.top.1
  have L45 : m_X9_settle_L45 (m_X9_settle_L0 n) a1 hM = m_X9_settle_L0 n a1 (emM l q (-nI x) (si hM 1 25 (nI K.length))) := by
    unfold m_X9_settle_L45
    rw [s1, nI_pred, hb_eq, gi_si, ck_true _ (inb_nI (by omega) (by decide)), nI_clamp (by omega), gi_si_ne (show 19 ≠ 1 by decide), tp, e2, cb_some]
  conv => lhs; unfold m_X9_settle_L0
  rw [s1, if_neg (show ¬ nI (K.length + 1) ≤ 0 from nI_ge (b := K.length + 1) (a := 0) (by omega) (by omega)), nI_pred, ck_true _ (inb_nI (by omega) (by decide)), nI_clamp (by omega), tp, L45]
  rcases hx with ⟨rfl, -⟩ | ⟨rfl, -, ha⟩
  · rw [if_pos (show nI 38 = 38 from rfl)]
  · rw [if_neg (show ¬ nI 124 = 38 by decide), if_pos (show nI 124 = 124 from rfl), if_neg ha]
theorem settle_stop {K : List Nat} {a1 : Int32} {h : Hp} (S : StkW K h) (hK : K.length ≤ 100) (ht : ∀ x K', K = x :: K' → x ≠ 38 ∧ x < 128 ∧ (x = 124 → a1 = 38)) : ∀ n, 0 < n → m_X9_settle_L0 n a1 h = some ((), h) := by
  intro n hn
  obtain ⟨n, rfl⟩ := Nat.exists_eq_succ_of_ne_zero (by omega : n ≠ 0)
  unfold m_X9_settle_L0
  have s1 := S.1
  cases K with
  | nil => rw [s1, if_pos (by decide)]
  | cons x K =>
    obtain ⟨h1, h2, h3⟩ := ht x K rfl
    simp only [List.length_cons] at hK s1
    rw [s1, if_neg (show ¬ nI (K.length + 1) ≤ 0 from nI_ge (b := K.length + 1) (a := 0) (by omega) (by omega)), nI_pred, ck_true _ (inb_nI (by omega) (by decide)), nI_clamp (by omega), S.top.1, if_neg (show ¬ nI x = 38 from fun e => h1 ((nI_eq (b := 38) (by omega) (by decide)).mp e))]
    by_cases hx : x = 124
    · rw [hx, if_pos (show nI 124 = 124 from rfl), if_pos (h3 hx)]
    · rw [if_neg (show ¬ nI x = 124 from fun e => hx ((nI_eq (b := 124) (by omega) (by decide)).mp e))]
