/-! ===== pure: a law is read ===== -/
def FLc (l : Nat) (b h : Hp) : Prop := (∀ a j, ¬ ((a = 9 ∧ j = 2) ∨ (144 + 6 * l ≤ a ∧ a ≤ 144 + 6 * l + 5)) → gi h a j = gi b a j) ∧ (∀ a, gl h a = gl b a) ∧ ∀ a, a ≠ 9 → gr h a = gr b a
def FLm (l : Nat) (b h : Hp) : Prop := (∀ a j, ¬ ((a = 1 ∧ (j = 9 ∨ j = 22 ∨ j = 23 ∨ j = 25 ∨ j = 26)) ∨ a = 19 ∨ ((a = 8 ∨ (13 ≤ a ∧ a ≤ 17)) ∧ j = l) ∨ (9 ≤ a ∧ a ≤ 12 ∧ 8 * l ≤ j) ∨ (a = 18 ∧ 100 * l ≤ j)) → gi h a j = gi b a j) ∧ ∀ a, gl h a = gl b a
theorem FLc.k {l k q : Nat} {b h h' : Hp} (F : FLc l b h) (c : FKc l k q h h') : FLc l b h' := ⟨fun a j e => (c.1 a j (by omega)).trans (F.1 a j e), fun a => (c.2.1 a).trans (F.2.1 a), fun a ha => (c.2.2 a).trans (F.2.2 a ha)⟩
theorem FLm.k {l k q : Nat} {b h h' : Hp} (F : FLm l b h) (m : FKm l k q h h') : FLm l b h' := ⟨fun a j e => (m.1 a j (by omega)).trans (F.1 a j e), fun a => (m.2 a).trans (F.2 a)⟩
theorem FLm.si {l a j : Nat} {b h : Hp} (v : Int32) (F : FLm l b h) (e : (a = 1 ∧ (j = 9 ∨ j = 22 ∨ j = 23 ∨ j = 25 ∨ j = 26)) ∨ ((a = 8 ∨ (13 ≤ a ∧ a ≤ 17)) ∧ j = l)) : FLm l b (CWhoMustSwearLaw_law_r3158_1d0569.si h a j v) := ⟨fun x i z => by rw [gi_si_if, if_neg (fun y => z (by omega))]; exact F.1 x i z, F.2⟩
theorem FLc.si {l a j : Nat} {b h : Hp} (v : Int32) (F : FLc l b h) (e : (a = 9 ∧ j = 2) ∨ (144 + 6 * l ≤ a ∧ a ≤ 144 + 6 * l + 5)) : FLc l b (CWhoMustSwearLaw_law_r3158_1d0569.si h a j v) := ⟨fun x i z => by rw [gi_si_if, if_neg (fun y => z (by omega))]; exact F.1 x i z, F.2.1, F.2.2⟩
def GR (l : Nat) (b b' : Hp) (X Y : Option (Int32 × Hp)) : Prop :=
  (∃ hC' hM' p', X = some (0, hC') ∧ Y = some (0, hM') ∧ gi hC' 9 2 = nI p' ∧ gi hM' 1 9 = nI p' ∧ FLc l b hC' ∧ FLm l b' hM') ∨
  (∃ hC' hM' n q', X = some (1, hC') ∧ Y = some (1, hM') ∧ n ≤ 8 ∧ gi hC' (144 + 6 * l) 5 = nI n ∧ gi hM' 8 l = nI n ∧ q' ≤ 100 ∧ ShI l hC' hM' ∧ (∀ k, k < n → DnI l q' k hC' hM') ∧ FLc l b hC' ∧ FLm l b' hM')
theorem goes_loop {l nf : Nat} {t : Nat → Nat} {b b' : Hp} : ∀ rem kk q p n m hC hM, kk + rem = 8 → 1 ≤ rem → rem < n → rem < m → CS l nf kk q t p hC hM → (∀ k, k < kk → DnI l q k hC hM) → FLc l b hC → FLm l b' hM → GR l b b' (m_X4_readInto_L19 n (nI (kk + 1)) hC) (m_X9_goes_L50 m (nI l) (nI kk) hM) := by
  intro rem
  induction rem with
  | zero => intro kk q p n m hC hM h1 h2; omega
  | succ rem ih =>
    intro kk q p n m hC hM h1 h2 h3 h4 C D Fc Fm
    obtain ⟨n, rfl⟩ := Nat.exists_eq_succ_of_ne_zero (by omega : n ≠ 0)
    obtain ⟨m, rfl⟩ := Nat.exists_eq_succ_of_ne_zero (by omega : m ≠ 0)
    obtain ⟨l6, k8⟩ := C.1
    have n8 : ¬ (8 : Int32) < nI (kk + 1) := by
      rw [Int32.lt_iff_toInt_lt, nI_toInt (by omega)]
      have : (8 : Int32).toInt = 8 := rfl
      omega
    have e8 : (8 : Int32) * nI l + nI kk = nI (8 * l + kk) := by rw [show (8 : Int32) = nI 8 from rfl, pk_mul, nI_add]
    unfold m_X4_readInto_L19 m_X9_goes_L50
    rw [if_neg n8, e8]
    rcases clause_both C with ⟨hC', hM', p', r1, r2, r3, r4, r5, r6⟩ | ⟨hC', hM', p', q', r1, r2, P', r4, r5, r6, r7, r8, r9, r10, r11, r12⟩
    · rw [r1, r2, cb_some, cb_some, if_pos rfl, if_pos rfl]
      exact Or.inl ⟨hC', hM', p', rfl, rfl, r3, r4, Fc.k r5, Fm.k r6⟩
    have Fc' := Fc.k r11
    have Fm' : FLm l b' (si hM' 8 l (nI (kk + 1))) := (Fm.k r12).si _ (Or.inr ⟨Or.inl rfl, rfl⟩)
    have m8 : FKm l kk q' hM' (si hM' 8 l (nI (kk + 1))) → True := fun _ => trivial
    have D' : ∀ k, k < kk + 1 → DnI l q' k hC' (si hM' 8 l (nI (kk + 1))) := by
      intro k hk
      have d : DnI l q' k hC' hM' := by
        by_cases e : k = kk
        · subst e; exact r10
        · exact (D k (by omega)).fr r11 r12 (by omega) q' r7
      obtain ⟨st, nn, d1, d2, d3, d4⟩ := d
      refine ⟨st, nn, d1, d2, d3, ?_⟩
      rw [gi_si_ne (show 9 ≠ 8 by decide), gi_si_ne (show 10 ≠ 8 by decide), gi_si_ne (show 11 ≠ 8 by decide), gi_si_ne (show 12 ≠ 8 by decide), show gi (si hM' 8 l (nI (kk + 1))) 18 = gi hM' 18 from gi_si_na (by decide)]
      exact d4
    have Sh' : ShI l hC' (si hM' 8 l (nI (kk + 1))) := r9.fr (fun _ _ _ => rfl) (fun a h1 h2 => gi_si_ne (by omega))
    obtain ⟨b1, b2, b3, b4, b5, b6, b7⟩ := P'
    have P8 : PT nf t p' hC' (si hM' 8 l (nI (kk + 1))) := ⟨b1, b2, b3, by rw [gi_si_ne (by decide)]; exact b4, b5, by rw [gi_si_ne (by decide)]; exact b6, fun i => by rw [gi_si_ne (by decide)]; exact b7 i⟩
    rw [r1, r2, cb_some, cb_some, if_neg (show ¬ (1 : Int32) = 0 by decide), if_neg (show ¬ (1 : Int32) = 0 by decide), vb_eq, nI_1 kk, ck_true _ (inb_nI l6 (by decide)), nI_clamp (show l < 2 ^ 31 by omega), hb_eq, P8.2.2.2.1, P8.2.2.2.2.2.1, P8.2.2.1, P8.2.2.2.2.1]
    by_cases hp : p' = nf
    · rw [if_pos (show nI p' = nI nf by rw [hp]), if_pos (show nI p' = nI nf by rw [hp])]
      exact Or.inr ⟨hC', _, kk + 1, q', rfl, rfl, by omega, r4, gi_si _ _ _ _, by omega, Sh', D', Fc', Fm'⟩
    have np : ¬ nI p' = nI nf := fun e => hp ((nI_eq (by omega) (by omega)).mp e)
    rw [if_neg np, if_neg np]
    by_cases h8 : kk + 1 = 8
    · rw [if_pos (show nI (kk + 1) = 8 by rw [h8]; rfl), if_pos (show nI (kk + 1) = 8 by rw [h8]; rfl)]
      exact Or.inl ⟨hC', _, p', rfl, rfl, b5, P8.2.2.2.2.2.1, Fc', Fm'⟩
    have n8' : ¬ nI (kk + 1) = 8 := fun e => h8 ((nI_eq (b := 8) (by omega) (by decide)).mp e)
    rw [if_neg n8', if_neg n8', C_pass P8 (show 59 < 128 by decide) (X := 59) rfl, M_takes P8 (show 59 < 128 by decide) (X := 59) rfl]
    by_cases h59 : t p' = 59
    · have lt := P8.lt (by omega)
      rw [if_pos h59, if_pos h59, cb_some, cb_some, if_neg (show ¬ (1 : Int32) = 0 by decide), if_neg (show ¬ (1 : Int32) = 0 by decide), vb_eq, nI_1]
      have C8 : CS l nf (kk + 1) q' t p' hC' (si hM' 8 l (nI (kk + 1))) := ⟨⟨l6, by omega⟩, P8, by rw [r11.2.2]; exact C.2.2.1, r4, r5, by rw [gi_si_ne (by decide)]; exact r6, r8, Sh'⟩
      have A := advC_si hC' (nI (p' + 1))
      have B := advM_si (si hM' 8 l (nI (kk + 1))) 9 (nI (p' + 1)) (Or.inl rfl)
      refine ih (kk + 1) q' (p' + 1) n m _ _ (by omega) (by omega) (by omega) (by omega) (C8.adv A B (P8.one lt) (by omega)) (fun k hk => (D' k hk).fr (fkC_adv A) (fkM_adv B) hk q' (Nat.le_refl _)) (Fc'.si _ (Or.inl ⟨rfl, rfl⟩)) (Fm'.si _ (Or.inl ⟨rfl, Or.inl rfl⟩))
    · rw [if_neg h59, if_neg h59, cb_some, cb_some, if_pos rfl, if_pos rfl]
      exact Or.inl ⟨hC', _, p', rfl, rfl, b5, P8.2.2.2.2.2.1, Fc', Fm'⟩
theorem LawI.fr2 {l : Nat} {hC hM kC kM : Hp} (L : LawI hC hM l) (c : ∀ a, 144 + 6 * l ≤ a → a ≤ 144 + 6 * l + 5 → gi kC a = gi hC a) (m8 : ∀ a, a = 8 ∨ (13 ≤ a ∧ a ≤ 17) → gi kM a l = gi hM a l) (m9 : ∀ a k, 9 ≤ a → a ≤ 12 → k < 8 → gi kM a (8 * l + k) = gi hM a (8 * l + k)) (m18 : ∀ i, i < 100 → gi kM 18 (100 * l + i) = gi hM 18 (100 * l + i)) : LawI kC kM l := by
  obtain ⟨⟨n, hn, e1, e2, ks⟩, a, b, cc, d, e, s1, s2, s3, s4, s5, s6, s7, t7, t8, t9, t10, t11, u13, u14, u15, u16, u17⟩ := L
  have e0 := c (144 + 6 * l) (by omega) (by omega)
  have f1 := c (144 + 6 * l + 1) (by omega) (by omega)
  have f2 := c (144 + 6 * l + 2) (by omega) (by omega)
  have f3 := c (144 + 6 * l + 3) (by omega) (by omega)
  have f4 := c (144 + 6 * l + 4) (by omega) (by omega)
  have f5 := c (144 + 6 * l + 5) (by omega) (by omega)
  refine ⟨⟨n, hn, by rw [e0]; exact e1, by rw [m8 8 (Or.inl rfl)]; exact e2, fun k hk => ?_⟩, a, b, cc, d, e, s1, s2, s3, s4, s5, s6, s7, by rw [e0]; exact t7, by rw [e0]; exact t8, by rw [e0]; exact t9, by rw [e0]; exact t10, by rw [e0]; exact t11, by rw [m8 13 (by omega)]; exact u13, by rw [m8 14 (by omega)]; exact u14, by rw [m8 15 (by omega)]; exact u15, by rw [m8 16 (by omega)]; exact u16, by rw [m8 17 (by omega)]; exact u17⟩
  have g9 := m9 9 k (by decide) (by decide) (by omega)
  have g10 := m9 10 k (by decide) (by decide) (by omega)
  have g11 := m9 11 k (by decide) (by decide) (by omega)
  have g12 := m9 12 k (by decide) (by decide) (by omega)
  rcases ks k hk with h | ⟨w, ⟨st, x, c1, c2, c3, c4, c5, c6, c7⟩, kd⟩
  · left
    unfold NoClI at *
    rw [f1, f2, f3, f4, g9]; exact h
  · right
    rw [f1, f2, g9, g10]
    refine ⟨w, ⟨st, x, by rw [f3]; exact c1, by rw [f4]; exact c2, c3, g11.trans c4, g12.trans c5, fun i hi => ?_, ?_⟩, kd⟩
    · have e := m18 (st + i) (by omega)
      rw [show 100 * l + (st + i) = 100 * l + st + i by omega] at e
      rw [f5, e]; exact c6 i hi
    · rw [dpN_cg (f := gi hM 18) _ _ _ (fun j h1 h2 => by
        have e := m18 (j - 100 * l) (by omega)
        rwa [show 100 * l + (j - 100 * l) = j by omega] at e)]; exact c7
theorem law_new {l n q : Nat} {hC hM : Hp} (hn : n ≤ 8) (e1 : gi hC (144 + 6 * l) 5 = nI n) (e2 : gi hM 8 l = nI n) (hq : q ≤ 100) (S : ShI l hC hM) (D : ∀ k, k < n → DnI l q k hC hM) : LawI hC hM l := by
  refine ⟨⟨n, hn, e1, e2, fun k hk => ?_⟩, S⟩
  obtain ⟨st, x, d1, d2, d3, ⟨x0, w6, hs, h0⟩ | ⟨w1, w2, w3, w4, w5, w6⟩⟩ := D k hk
  · subst x0
    exact Or.inl ⟨w6, hs, h0, st, d1, d2, by omega⟩
  · exact Or.inr ⟨w1, ⟨st, x, d1, d2, by omega, w2, w3, w4, w5⟩, w6⟩
