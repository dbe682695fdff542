/-! ===== pure: the small calls ===== -/
theorem ix_cases (x : Int32) (n : Nat) (hn : n < 2 ^ 31) {N M : Int32} (hN : N = nI n) (hM : M.toInt = (n : Int) - 1) : (x < 0) ∨ (¬ x < 0 ∧ N ≤ x ∧ M < x ∧ ¬ x < N ∧ ¬ x ≤ M) ∨ (∃ j, j < n ∧ x = nI j ∧ ¬ x < 0 ∧ ¬ N ≤ x ∧ ¬ M < x ∧ x < N ∧ x ≤ M) := by
  subst hN
  have e := nI_toInt hn
  rcases pk_ix x hn with q | q | ⟨j, q, rfl⟩
  · exact Or.inl q
  · refine Or.inr (Or.inl ?_)
    simp only [Int32.le_iff_toInt_le, Int32.lt_iff_toInt_lt, Int32.toInt_zero] at *
    omega
  · refine Or.inr (Or.inr ⟨j, q, rfl, ?_⟩)
    have e2 := nI_toInt (n := j) (by omega)
    simp only [Int32.le_iff_toInt_le, Int32.lt_iff_toInt_lt, Int32.toInt_zero] at *
    omega
theorem Inv.ok {α : Type} {v w : α} {hC hM : Hp} (e : v = w) (I : InvE hC hM) : Ok (some (v, hC)) fun v hC' => Ok (some (w, hM)) fun w hM' => v = w ∧ InvE hC' hM' := ⟨v, hC, rfl, w, hM, rfl, e, I⟩
theorem b_known (a1 a2 : Int32) : Both (m_X8_known a1 a2) (m_X9_known a1 a2) := by
  intro hC hM I
  rcases ix_cases a1 8 (by decide) (N := 8) (M := 7) rfl rfl with p | ⟨p0, p1, p2, p3, p4⟩ | ⟨j, hj, rfl, p0, p1, p2, p3, p4⟩
  · simp only [m_X8_known, m_X8_isPerson, m_X9_known, m_X9_in, p, if_pos, cb_some]
    exact Inv.ok rfl I
  · simp only [m_X8_known, m_X8_isPerson, m_X9_known, m_X9_in, p0, p1, p2, if_pos, if_false, cb_some]
    exact Inv.ok rfl I
  rcases ix_cases a2 32 (by decide) (N := 32) (M := 31) rfl rfl with r | ⟨r0, r1, r2, r3, r4⟩ | ⟨i, hi, rfl, r0, r1, r2, r3, r4⟩
  · simp [m_X8_known, m_X8_isPerson, m_X9_known, m_X9_in, p0, p1, p2, r, cb_some]
    exact Inv.ok rfl I
  · simp [m_X8_known, m_X8_isPerson, m_X9_known, m_X9_in, p0, p1, p2, r0, r2, r4, cb_some]
    exact Inv.ok rfl I
  · have e := inb_nI (N := 8) hj (by decide)
    simp [m_X8_known, m_X8_isPerson, m_X9_known, m_X9_in, p0, p1, p2, r0, r2, r4, cb_some, e, ck_true, hb_eq, vb_eq, nI_clamp (show j < 2 ^ 31 by omega)]
    obtain ⟨ns, nc, nl, nf, i1, i2, i3, i4, i5, i6, i7, i8, i9, i10⟩ := I
    refine Inv.ok (i2 j hj) ⟨ns, nc, nl, nf, i1, fun p hp => ?_, i3.fr ?_ ?_ ?_ ?_, i4.fr ?_ ?_, i5.fr ?_ ?_ ?_ ?_ ?_ ?_ ?_, i6.fr ?_ ?_, fun l hl => (i7 l hl).fr ?_ ?_ ?_, i8.fr ?_ ?_ ?_ ?_, i9.fr ?_ ?_ ?_ ?_ ?_, i10.fr ?_ ?_⟩
    · rw [gi_si_if, gi_si_if, i2 p hp]
    all_goals first | rfl | (intros; rfl) | (intros; exact gi_si_na (by omega))
theorem nIm1 {n : Nat} (h : n < 2 ^ 30) : (nI n - 1).toInt = (n : Int) - 1 := pk_sub_toInt (b := 1) h (by decide)
theorem in_0 (a m : Int32) (h : Hp) (n : Nat) (hn : n < 2 ^ 31) (hm : m.toInt = (n : Int) - 1) : (m_X9_in a 0 m h = some (0, h) ∧ (a < 0 ∨ nI n ≤ a)) ∨ ∃ c, c < n ∧ a = nI c ∧ m_X9_in a 0 m h = some (1, h) := by
  rcases ix_cases a n hn (N := nI n) (M := m) rfl hm with p | ⟨p0, p1, p2, p3, p4⟩ | ⟨j, hj, rfl, p0, p1, p2, p3, p4⟩
  · exact Or.inl ⟨by simp only [m_X9_in, p, if_pos], Or.inl p⟩
  · exact Or.inl ⟨by simp only [m_X9_in, p0, p2, if_pos, if_false], Or.inr p1⟩
  · exact Or.inr ⟨j, hj, rfl, by simp only [m_X9_in, p0, p2, if_false]⟩
theorem isClaim_both {ns nc nl nf : Nat} {hC hM : Hp} (i : CountI ns nc nl nf hC hM) (a : Int32) : (m_X8_isClaim a hC = some (0, hC) ∧ m_X9_isClaim a hM = some (0, hM)) ∨ ∃ c, c < nc ∧ a = nI c ∧ m_X8_isClaim a hC = some (1, hC) ∧ m_X9_isClaim a hM = some (1, hM) := by
  obtain ⟨-, ⟨e1, e2, e3⟩, -⟩ := i
  rcases ix_cases a nc (by omega) (N := nI nc) (M := nI nc - 1) rfl (nIm1 (by omega)) with p | ⟨p0, p1, p2, p3, p4⟩ | ⟨j, hj, rfl, p0, p1, p2, p3, p4⟩
  · exact Or.inl ⟨by simp only [m_X8_isClaim, p, if_pos], by simp only [m_X9_isClaim, m_X9_in, p, if_pos, cb_some, ck_true _ isb_0]⟩
  · exact Or.inl ⟨by simp only [m_X8_isClaim, p0, e1, p1, if_pos, if_false], by simp only [m_X9_isClaim, m_X9_in, p0, e2, p2, if_pos, if_false, cb_some, ck_true _ isb_0]⟩
  · exact Or.inr ⟨j, hj, rfl, by simp only [m_X8_isClaim, p0, e1, p1, if_false], by simp only [m_X9_isClaim, m_X9_in, p0, e2, p2, if_false, cb_some, ck_true _ isb_1]⟩
theorem isSuit_both {ns nc nl nf : Nat} {hC hM : Hp} (i : CountI ns nc nl nf hC hM) (a : Int32) : (m_X8_isSuit a hC = some (0, hC) ∧ m_X9_isSuit a hM = some (0, hM)) ∨ ∃ c, c < ns ∧ a = nI c ∧ m_X8_isSuit a hC = some (1, hC) ∧ m_X9_isSuit a hM = some (1, hM) := by
  obtain ⟨⟨e1, e2, e3⟩, -⟩ := i
  rcases ix_cases a ns (by omega) (N := nI ns) (M := nI ns - 1) rfl (nIm1 (by omega)) with p | ⟨p0, p1, p2, p3, p4⟩ | ⟨j, hj, rfl, p0, p1, p2, p3, p4⟩
  · exact Or.inl ⟨by simp only [m_X8_isSuit, p, if_pos], by simp only [m_X9_isSuit, m_X9_in, p, if_pos, cb_some, ck_true _ isb_0]⟩
  · exact Or.inl ⟨by simp only [m_X8_isSuit, p0, e1, p1, if_pos, if_false], by simp only [m_X9_isSuit, m_X9_in, p0, e2, p2, if_pos, if_false, cb_some, ck_true _ isb_0]⟩
  · exact Or.inr ⟨j, hj, rfl, by simp only [m_X8_isSuit, p0, e1, p1, if_false], by simp only [m_X9_isSuit, m_X9_in, p0, e2, p2, if_false, cb_some, ck_true _ isb_1]⟩
theorem isLaw_both {ns nc nl nf : Nat} {hC hM : Hp} (i : CountI ns nc nl nf hC hM) (a : Int32) : (m_X8_isLaw a hC = some (0, hC) ∧ m_X9_isLaw a hM = some (0, hM)) ∨ ∃ c, c < nl ∧ a = nI c ∧ m_X8_isLaw a hC = some (1, hC) ∧ m_X9_isLaw a hM = some (1, hM) := by
  obtain ⟨-, -, ⟨e1, e2, e3⟩, -⟩ := i
  rcases ix_cases a nl (by omega) (N := nI nl) (M := nI nl - 1) rfl (nIm1 (by omega)) with p | ⟨p0, p1, p2, p3, p4⟩ | ⟨j, hj, rfl, p0, p1, p2, p3, p4⟩
  · exact Or.inl ⟨by simp only [m_X8_isLaw, p, if_pos], by simp only [m_X9_isLaw, m_X9_in, p, if_pos, cb_some, ck_true _ isb_0]⟩
  · exact Or.inl ⟨by simp only [m_X8_isLaw, p0, e1, p1, if_pos, if_false], by simp only [m_X9_isLaw, m_X9_in, p0, e2, p2, if_pos, if_false, cb_some, ck_true _ isb_0]⟩
  · exact Or.inr ⟨j, hj, rfl, by simp only [m_X8_isLaw, p0, e1, p1, if_false], by simp only [m_X9_isLaw, m_X9_in, p0, e2, p2, if_false, cb_some, ck_true _ isb_1]⟩
theorem isPerson_both (hC hM : Hp) (a : Int32) : (m_X8_isPerson a hC = some (0, hC) ∧ m_X9_in a 0 7 hM = some (0, hM)) ∨ ∃ c, c < 8 ∧ a = nI c ∧ m_X8_isPerson a hC = some (1, hC) ∧ m_X9_in a 0 7 hM = some (1, hM) := by
  rcases ix_cases a 8 (by decide) (N := 8) (M := 7) rfl rfl with p | ⟨p0, p1, p2, p3, p4⟩ | ⟨j, hj, rfl, p0, p1, p2, p3, p4⟩
  · exact Or.inl ⟨by simp only [m_X8_isPerson, p, if_pos], by simp only [m_X9_in, p, if_pos]⟩
  · exact Or.inl ⟨by simp only [m_X8_isPerson, p0, p1, if_pos, if_false], by simp only [m_X9_in, p0, p2, if_pos, if_false]⟩
  · exact Or.inr ⟨j, hj, rfl, by simp only [m_X8_isPerson, p0, p1, if_false], by simp only [m_X9_in, p0, p2, if_false]⟩
theorem isTape_both (hC hM : Hp) (a : Int32) : (m_X8_isTape a hC = some (0, hC) ∧ m_X9_isTape a hM = some (0, hM)) ∨ ∃ c, c < 6 ∧ a = nI c ∧ m_X8_isTape a hC = some (1, hC) ∧ m_X9_isTape a hM = some (1, hM) := by
  rcases ix_cases a 6 (by decide) (N := 6) (M := 5) rfl rfl with p | ⟨p0, p1, p2, p3, p4⟩ | ⟨j, hj, rfl, p0, p1, p2, p3, p4⟩
  · exact Or.inl ⟨by simp only [m_X8_isTape, p, if_pos], by simp only [m_X9_isTape, m_X9_in, p, if_pos, cb_some, ck_true _ isb_0]⟩
  · exact Or.inl ⟨by simp only [m_X8_isTape, p0, p1, if_pos, if_false], by simp only [m_X9_isTape, m_X9_in, p0, p2, if_pos, if_false, cb_some, ck_true _ isb_0]⟩
  · exact Or.inr ⟨j, hj, rfl, by simp only [m_X8_isTape, p0, p1, if_false], by simp only [m_X9_isTape, m_X9_in, p0, p2, if_false, cb_some, ck_true _ isb_1]⟩
theorem nI_sub1 {n : Nat} (h : 0 < n) : nI n - 1 = nI (n - 1) := by
  obtain ⟨m, rfl⟩ := Nat.exists_eq_succ_of_ne_zero (by omega : n ≠ 0)
  exact nI_pred m
theorem nI_addsub (n : Nat) : nI n + 1 - 1 = nI n := by rw [nI_1]; exact nI_pred n
theorem b_suit (a1 a2 a3 : Int32) : Both (m_X8_suit a1 a2 a3) (m_X9_suit a1 a2 a3) := by
  rintro hC hM ⟨ns, nc, nl, nf, i1, i2, i3, i4, i5, i6, i7, i8, i9, i10⟩
  have I : InvE hC hM := ⟨ns, nc, nl, nf, i1, i2, i3, i4, i5, i6, i7, i8, i9, i10⟩
  unfold m_X8_suit m_X9_suit
  rcases isPerson_both hC hM a1 with ⟨p1, p2⟩ | ⟨p, hp, rfl, p1, p2⟩
  · simp only [p1, p2, cb_some, if_pos]; exact Inv.ok rfl I
  rcases isPerson_both hC hM a2 with ⟨q1, q2⟩ | ⟨d, hd, rfl, q1, q2⟩
  · simp [p1, p2, q1, q2, cb_some]; exact Inv.ok rfl I
  rcases isLaw_both i1 a3 with ⟨r1, r2⟩ | ⟨l, hl, rfl, r1, r2⟩
  · simp [p1, p2, q1, q2, r1, r2, cb_some]; exact Inv.ok rfl I
  obtain ⟨⟨e1, e2, e3⟩, i12⟩ := i1
  have epd := nI_eq (a := p) (b := d) (by omega) (by omega)
  by_cases hpd : p = d
  · simp [p1, p2, q1, q2, r1, r2, cb_some, hpd]; exact Inv.ok rfl I
  by_cases h5 : ns = 5
  · simp [p1, p2, q1, q2, r1, r2, cb_some, epd, hpd, e1, e2, show nI ns = 5 by rw [h5]; rfl]
    exact Inv.ok rfl I
  · have n1 : nI ns < 5 := nI_lt (a := ns) (b := 5) (by omega) (by decide)
    have n2 : ¬ nI ns = 5 := fun e => h5 ((nI_eq (b := 5) (by omega) (by decide)).mp e)
    simp [p1, p2, q1, q2, r1, r2, cb_some, epd, hpd, e1, e2, n1, n2, ck_true, inb_nI (j := ns) (N := 5) (by omega) (by decide), hb_eq, nI_clamp (n := ns) (by omega), gi_si_if, show ¬ 91 + ns = 1 by omega, show ¬ 1 = 91 + ns by omega, nI_addsub]
    refine Inv.ok rfl ⟨ns + 1, nc, nl, nf, ⟨⟨?A, ?B, by omega⟩, ?C⟩, i2.fr ?_ ?_, ?D, (i4.fr ?_ ?_).ns (by omega), (i5.fr ?_ ?_ ?_ ?_ ?_ ?_ ?_).ns (by omega), i6.fr ?_ ?_, fun l hl => (i7 l hl).fr ?_ ?_ ?_, i8.fr ?_ ?_ ?_ ?_, i9.fr ?_ ?_ ?_ ?_ ?_, i10.fr ?_ ?_⟩
    case A => simp [gi_si_if, nI_1]
    case B => simp [gi_si_if, nI_1]
    case C => simp [gi_si_if, show ¬ 9 = 91 + ns by omega]; exact i12
    case D =>
      intro s hs
      by_cases hsn : s = ns
      · subst hsn
        exact ⟨p, d, l, hp, hd, hl, by simp [gi_si_if], by simp [gi_si_if]⟩
      · obtain ⟨p', d', l', h⟩ := i3 s (by omega)
        refine ⟨p', d', l', ?_⟩
        simp only [gi_si_if]
        simp [hsn, show ¬ 91 + s = 1 by omega]
        simpa using h
    all_goals first | rfl | (intros; rfl) | (intros; simp (disch := omega) only [gi_si_na]; done) | simp (disch := omega) only [gi_si_na, gi_si_ne, gi_si_nk]
theorem tenI (c k : Nat) {K : Int32} (hK : K = nI k) : 10 * nI c + K = nI (10 * c + k) := by
  subst hK
  rw [show (10 : Int32) = nI 10 from rfl, pk_mul, nI_add]
theorem M_get {c k : Nat} (hc : c < 24) (hk : k < 10) {K : Int32} (hK : K = nI k) (h : Hp) : m_X9_get (nI c) K h = some (gi h 6 (10 * c + k), h) := by
  unfold m_X9_get
  rw [tenI c k hK, ck_true _ (inb_nI (by omega) (by decide)), nI_clamp (by omega)]
theorem M_g0 {c : Nat} (hc : c < 24) (h : Hp) : m_X9_get (nI c) 0 h = some (gi h 6 (10 * c + 0), h) := M_get hc (by decide) (k := 0) rfl h
theorem M_g1 {c : Nat} (hc : c < 24) (h : Hp) : m_X9_get (nI c) 1 h = some (gi h 6 (10 * c + 1), h) := M_get hc (by decide) (k := 1) rfl h
theorem M_g2 {c : Nat} (hc : c < 24) (h : Hp) : m_X9_get (nI c) 2 h = some (gi h 6 (10 * c + 2), h) := M_get hc (by decide) (k := 2) rfl h
theorem M_g3 {c : Nat} (hc : c < 24) (h : Hp) : m_X9_get (nI c) 3 h = some (gi h 6 (10 * c + 3), h) := M_get hc (by decide) (k := 3) rfl h
theorem M_g4 {c : Nat} (hc : c < 24) (h : Hp) : m_X9_get (nI c) 4 h = some (gi h 6 (10 * c + 4), h) := M_get hc (by decide) (k := 4) rfl h
theorem M_g5 {c : Nat} (hc : c < 24) (h : Hp) : m_X9_get (nI c) 5 h = some (gi h 6 (10 * c + 5), h) := M_get hc (by decide) (k := 5) rfl h
theorem M_g6 {c : Nat} (hc : c < 24) (h : Hp) : m_X9_get (nI c) 6 h = some (gi h 6 (10 * c + 6), h) := M_get hc (by decide) (k := 6) rfl h
theorem M_g7 {c : Nat} (hc : c < 24) (h : Hp) : m_X9_get (nI c) 7 h = some (gi h 6 (10 * c + 7), h) := M_get hc (by decide) (k := 7) rfl h
theorem M_g8 {c : Nat} (hc : c < 24) (h : Hp) : m_X9_get (nI c) 8 h = some (gi h 6 (10 * c + 8), h) := M_get hc (by decide) (k := 8) rfl h
theorem M_g9 {c : Nat} (hc : c < 24) (h : Hp) : m_X9_get (nI c) 9 h = some (gi h 6 (10 * c + 9), h) := M_get hc (by decide) (k := 9) rfl h
theorem C_many {hC : Hp} {f : Nat → Int32} {nc : Nat} {x : Int32} (hn : nc ≤ 24) (e : gi hC 1 12 = nI nc) (hr : ∀ c, c < nc → gi hC (96 + 2 * c) 0 = f (10 * c)) : ∀ n c, c ≤ nc → nc - c < n → m_X8_claimsOfSuit_L4 n x (nI (cntR f x c)) (nI c) hC = some (nI (cntR f x nc), hC)
  | 0, c, h1, h2 => by omega
  | n + 1, c, h1, h2 => by
    unfold m_X8_claimsOfSuit_L4
    rw [e]
    by_cases hc : c = nc
    · subst hc
      rw [if_pos (nI_le (Nat.le_refl _) (by omega))]
    · rw [if_neg (nI_ge (by omega) (by omega)), ck_true _ (inb_nI (by omega) (by decide)), nI_clamp (by omega), hr c (by omega)]
      have ih := C_many (x := x) hn e hr n (c + 1) (by omega) (by omega)
      simp only [vb_eq, nI_1]
      by_cases hx : f (10 * c) = x
      · rw [if_pos hx]
        simp only [cntR, if_pos hx] at ih
        exact ih
      · rw [if_neg hx]
        simp only [cntR, if_neg hx, Nat.add_zero] at ih
        exact ih
theorem M_many {hM : Hp} {nc : Nat} {x : Int32} (hn : nc ≤ 24) (e : gi hM 1 1 = nI nc) : ∀ n c, c ≤ nc → nc - c < n → m_X9_manyOf_L4 n x (nI (cntR (gi hM 6) x c)) (nI c) hM = some (nI (cntR (gi hM 6) x nc), hM)
  | 0, c, h1, h2 => by omega
  | n + 1, c, h1, h2 => by
    unfold m_X9_manyOf_L4
    rw [e]
    by_cases hc : c = nc
    · subst hc
      rw [if_pos (nI_le (Nat.le_refl _) (by omega))]
    · rw [if_neg (nI_ge (by omega) (by omega)), M_g0 (by omega)]
      have ih := M_many hn e n (c + 1) (by omega) (by omega) (x := x)
      simp only [cb_some, m_X9_manyOf_L28, vb_eq, nI_1, Nat.add_zero]
      by_cases hx : gi hM 6 (10 * c) = x
      · rw [if_pos hx]
        simp only [cntR, if_pos hx] at ih
        exact ih
      · rw [if_neg hx]
        simp only [cntR, if_neg hx, Nat.add_zero] at ih
        simp only [Int32.add_zero]
        exact ih
theorem C_manyOf {ns nc nl nf : Nat} {hC hM : Hp} (I : Inv ns nc nl nf hC hM) (x : Int32) : m_X8_claimsOfSuit x hC = some (nI (cntR (gi hM 6) x nc), hC) := by
  obtain ⟨⟨-, ⟨e1, e2, e3⟩, -⟩, -, -, i4, -⟩ := I
  exact C_many e3 e1 (fun c hc => (i4.1 c hc).1 0 (by decide)) FU 0 (by omega) (by unfold FU; omega)
theorem M_manyOf {ns nc nl nf : Nat} {hC hM : Hp} (I : Inv ns nc nl nf hC hM) (x : Int32) : m_X9_manyOf x hM = some (nI (cntR (gi hM 6) x nc), hM) := by
  obtain ⟨⟨-, ⟨e1, e2, e3⟩, -⟩, -, -, i4, -⟩ := I
  exact M_many e3 e2 FU 0 (by omega) (by unfold FU; omega)
theorem cntR_congr {f g : Nat → Int32} {x : Int32} : ∀ n, (∀ c, c < n → f (10 * c) = g (10 * c)) → cntR f x n = cntR g x n
  | 0, _ => rfl
  | n + 1, h => by
    unfold cntR
    rw [cntR_congr n (fun c hc => h c (by omega)), h n (by omega)]
