/-! ===== pure: a clause, whole ===== -/
theorem least_both {l nf kk q p : Nat} {t : Nat → Nat} {hC hM : Hp} (C : CS l nf kk q t p hC hM) (hw : gi hM 9 (8 * l + kk) = 6) : CLr l nf kk q t hC hM (ck (kC 3 (gr hC 9 3)) (cb (m_X3_beginClause (gr hC 9 3) 8 0 hC) fun _ h20 => ck (kC 3 (gr h20 9 3)) (cb (m_X4_readNumber h20) fun v22 h23 => hb (si h23 (gr h20 9 3) 11 v22) fun h24 => ck (kC 3 (gr h24 9 3)) (if (gi h24 (gr h24 9 3) 11) < 0 then some (0, h24) else some (1, h24))))) (cb (m_X9_takesNumber 0 hM) fun v4 h5 => if v4 = 0 then some (0, h5) else ck (inb (nI l) 6) (hb (si h5 17 (nI l).toNatClampNeg (gi h5 1 23)) fun h8 => some (1, h8))) := by
  have C' := C
  obtain ⟨⟨l6, k8⟩, P, g93, e5, e6, e22, qp, Sh⟩ := C
  obtain ⟨Pb, b6, b93, bk⟩ := C'.begun (s := 8)
  obtain ⟨k1, k2, k3, k4, k5⟩ := bgC_k l kk q 8 0 hC
  have FC := bgC_fr l kk q q 8 0 hC
  obtain ⟨m1, n1, n2, n3⟩ := M_number0 Pb
  rw [g93, ck_true _ (kC3 l6), C_beginC k8 e5 e6, cb_some, b93, ck_true _ (kC3 l6), C_number Pb, n1]
  by_cases hd : isD (t p) = true
  case neg =>
    left
    refine ⟨si (bgC l kk q 8 0 hC) (144 + 6 * l) 11 (-1), hM, p, ?_, ?_, ?_, P.2.2.2.2.2.1, FC.trans (fkC_si _ _ (Or.inr (Or.inl rfl))), FKm.rfl' _ _ _ _⟩
    · rw [if_neg hd, cb_some, hb_eq, gr_si, b93, ck_true _ (kC3 l6), gi_si, if_pos (by decide)]
    · rw [if_neg hd, cb_some, if_pos rfl]
    · rw [gi_si_ne (by omega)]; exact Pb.2.2.2.2.1
  obtain ⟨v99, np1, np2⟩ := num_ok Pb hd
  obtain ⟨n4, n5⟩ := n3 hd
  right
  refine ⟨si (si (bgC l kk q 8 0 hC) 9 2 (nI (numP t p))) (144 + 6 * l) 11 (nI (numV t p)), si m1 17 l (nI (numV t p)), numP t p, q, ?_, ?_, ?_, ?_, ?_, ?_, Nat.le_refl _, by omega, ?_, dn_no (s := 8) ⟨?_, ?_, ?_, ?_⟩ ?_ (Or.inr (Or.inr rfl)), ?_, ?_⟩
  · rw [if_pos hd, cb_some, hb_eq, gr_si, gr_si, b93, ck_true _ (kC3 l6), gi_si, if_neg (nI_pos (by omega))]
  · rw [if_pos hd, cb_some, if_neg (by decide), ck_true _ (inb_nI l6 (by decide)), nI_clamp (by omega), n5, hb_eq]
  · obtain ⟨a1, a2, a3, a4, a5, a6, a7⟩ := Pb.adv (advC_si _ (nI (numP t p))) n2 (gi_si _ _ _ _) n4 np2
    exact ⟨a1, a2, by rw [gi_si_ne (by omega)]; exact a3, by rw [gi_si_ne (by decide)]; exact a4, by rw [gi_si_ne (by omega)]; exact a5, by rw [gi_si_ne (by decide)]; exact a6, fun i => by rw [gi_si_ne (by omega), gi_si_ne (by decide)]; exact a7 i⟩
  · rw [gi_si_nk (by decide), gi_si_ne (by omega)]; exact k5
  · rw [gi_si_nk (by decide), gi_si_ne (by omega)]; exact b6
  · rw [gi_si_ne (by decide), n2.1 _ _ (by decide)]; exact e22
  · obtain ⟨a, b, c, d, e, s1, s2, s3, s4, s5, s6, s7, t7, t8, t9, t10, t11, u13, u14, u15, u16, u17⟩ := Sh
    refine ⟨a, b, c, d, numV t p, s1, s2, s3, s4, s5, s6, v99, ?_, ?_, ?_, ?_, gi_si _ _ _ _, ?_, ?_, ?_, ?_, gi_si _ _ _ _⟩
    · rw [gi_si_nk (by decide), gi_si_ne (by omega), bk 7 (by decide) (by decide)]; exact t7
    · rw [gi_si_nk (by decide), gi_si_ne (by omega), bk 8 (by decide) (by decide)]; exact t8
    · rw [gi_si_nk (by decide), gi_si_ne (by omega), bk 9 (by decide) (by decide)]; exact t9
    · rw [gi_si_nk (by decide), gi_si_ne (by omega), bk 10 (by decide) (by decide)]; exact t10
    · rw [gi_si_ne (by decide), n2.1 _ _ (by omega)]; exact u13
    · rw [gi_si_ne (by decide), n2.1 _ _ (by omega)]; exact u14
    · rw [gi_si_ne (by decide), n2.1 _ _ (by omega)]; exact u15
    · rw [gi_si_ne (by decide), n2.1 _ _ (by omega)]; exact u16
  · rw [gi_si_ne (by omega), gi_si_ne (by omega)]; exact k1
  · rw [gi_si_ne (by omega), gi_si_ne (by omega)]; exact k2
  · rw [gi_si_ne (by omega), gi_si_ne (by omega)]; exact k3
  · rw [gi_si_ne (by omega), gi_si_ne (by omega)]; exact k4
  · rw [gi_si_ne (by decide), n2.1 _ _ (by omega)]; exact hw
  · exact (FC.trans (fkC_adv (advC_si _ _))).trans (fkC_si _ _ (Or.inr (Or.inl rfl)))
  · exact (fkM_adv n2).trans (fkM_si _ _ (Or.inr (Or.inl ⟨by decide, by decide, rfl⟩)))
theorem kinN_c (t : Nat) : kinN t = -1 ∨ ∃ j, j < 6 ∧ kinN t = nI j := by
  unfold kinN
  repeat' split
  all_goals first | exact Or.inl rfl | exact Or.inr ⟨0, by decide, rfl⟩ | exact Or.inr ⟨1, by decide, rfl⟩ | exact Or.inr ⟨2, by decide, rfl⟩ | exact Or.inr ⟨3, by decide, rfl⟩ | exact Or.inr ⟨4, by decide, rfl⟩ | exact Or.inr ⟨5, by decide, rfl⟩
/-- an oath's letter and its tests -/
theorem oath_both {l nf kk q p : Nat} {t : Nat → Nat} {hC hM : Hp} (C : CS l nf kk q t p hC hM) (hw : gi hM 9 (8 * l + kk) = 2) : CLr l nf kk q t hC hM (cb (m_X4_readOneOf 9 hC) fun v11 h12 => vb (1 + v11) fun v13 => if v13 = 0 then some (0, h12) else cb (m_X4_pass 32 h12) fun v15 h16 => if v15 = 0 then some (0, h16) else m_X4_readClause_L109 2 v13 h16) (cb (m_X9_next hM) fun v4 h5 => if v4 = 112 then m_X9_takesOath_L84 (nI (8 * l + kk)) 1 (nI (8 * l + kk)) 10 h5 else if v4 = 111 then m_X9_takesOath_L84 (nI (8 * l + kk)) 2 (nI (8 * l + kk)) 10 h5 else if v4 = 103 then m_X9_takesOath_L84 (nI (8 * l + kk)) 3 (nI (8 * l + kk)) 10 h5 else if v4 = 104 then m_X9_takesOath_L84 (nI (8 * l + kk)) 4 (nI (8 * l + kk)) 10 h5 else if v4 = 99 then m_X9_takesOath_L84 (nI (8 * l + kk)) 5 (nI (8 * l + kk)) 10 h5 else if v4 = 116 then m_X9_takesOath_L84 (nI (8 * l + kk)) 6 (nI (8 * l + kk)) 10 h5 else m_X9_takesOath_L84 (nI (8 * l + kk)) 0 (nI (8 * l + kk)) 10 h5) := by
  have C' := C
  obtain ⟨⟨l6, k8⟩, P, g93, e5, e6, e22, qp, Sh⟩ := C
  have ch := P.2.2.2.2.2.2 p
  have hF : m_X4_readOneOf 9 hC = some (kinN (t p), if kinN (t p) < 0 then hC else si hC 9 2 (nI (p + 1))) := C_oneOf P kinN ix9 rfl
  have hY : (cb (m_X9_next hM) fun v4 h5 => if v4 = 112 then m_X9_takesOath_L84 (nI (8 * l + kk)) 1 (nI (8 * l + kk)) 10 h5 else if v4 = 111 then m_X9_takesOath_L84 (nI (8 * l + kk)) 2 (nI (8 * l + kk)) 10 h5 else if v4 = 103 then m_X9_takesOath_L84 (nI (8 * l + kk)) 3 (nI (8 * l + kk)) 10 h5 else if v4 = 104 then m_X9_takesOath_L84 (nI (8 * l + kk)) 4 (nI (8 * l + kk)) 10 h5 else if v4 = 99 then m_X9_takesOath_L84 (nI (8 * l + kk)) 5 (nI (8 * l + kk)) 10 h5 else if v4 = 116 then m_X9_takesOath_L84 (nI (8 * l + kk)) 6 (nI (8 * l + kk)) 10 h5 else m_X9_takesOath_L84 (nI (8 * l + kk)) 0 (nI (8 * l + kk)) 10 h5) = m_X9_takesOath_L84 (nI (8 * l + kk)) (1 + kinN (t p)) (nI (8 * l + kk)) 10 hM := by
    rw [M_next P, cb_some]
    have e : ∀ x, x < 128 → ((if p < nf then gi hM 7 p else -1) = nI x ↔ t p = x) := fun x hx => ch.b hx
    generalize (if p < nf then gi hM 7 p else -1) = v at e
    have e112 := e 112 (by decide)
    have e111 := e 111 (by decide)
    have e103 := e 103 (by decide)
    have e104 := e 104 (by decide)
    have e99 := e 99 (by decide)
    have e116 := e 116 (by decide)
    unfold kinN
    by_cases h1 : t p = 112
    · rw [if_pos (show v = 112 from e112.mpr h1), if_pos h1]; rfl
    rw [if_neg (show ¬ v = 112 from fun z => h1 (e112.mp z)), if_neg h1]
    by_cases h2 : t p = 111
    · rw [if_pos (show v = 111 from e111.mpr h2), if_pos h2]; rfl
    rw [if_neg (show ¬ v = 111 from fun z => h2 (e111.mp z)), if_neg h2]
    by_cases h3 : t p = 103
    · rw [if_pos (show v = 103 from e103.mpr h3), if_pos h3]; rfl
    rw [if_neg (show ¬ v = 103 from fun z => h3 (e103.mp z)), if_neg h3]
    by_cases h4 : t p = 104
    · rw [if_pos (show v = 104 from e104.mpr h4), if_pos h4]; rfl
    rw [if_neg (show ¬ v = 104 from fun z => h4 (e104.mp z)), if_neg h4]
    by_cases h5 : t p = 99
    · rw [if_pos (show v = 99 from e99.mpr h5), if_pos h5]; rfl
    rw [if_neg (show ¬ v = 99 from fun z => h5 (e99.mp z)), if_neg h5]
    by_cases h6 : t p = 116
    · rw [if_pos (show v = 116 from e116.mpr h6), if_pos h6]; rfl
    rw [if_neg (show ¬ v = 116 from fun z => h6 (e116.mp z)), if_neg h6]; rfl
  rw [hY, hF, cb_some, vb_eq]
  have ia : ∀ K : Option (Int32 × Hp), ck (inb (nI (8 * l + kk)) 48) K = K := fun K => ck_true K (inb_nI (by omega) (by decide))
  unfold m_X9_takesOath_L84
  rw [ia, nI_clamp (show 8 * l + kk < 2 ^ 31 by omega), hb_eq, ia, gi_si]
  rcases kinN_c (t p) with e | ⟨j, hj, e⟩
  · rw [e, if_pos (by decide), if_pos (by decide), if_pos (by decide)]
    left
    exact ⟨hC, _, p, rfl, rfl, P.2.2.2.2.1, by rw [gi_si_ne (by decide)]; exact P.2.2.2.2.2.1, FKc.rfl' _ _ _ _, fkM_si _ _ (Or.inr (Or.inr ⟨by decide, by decide, by omega⟩))⟩
  have ek : (1 : Int32) + nI j = nI (j + 1) := by rw [Int32.add_comm]; exact nI_1 j
  have n0 : ¬ nI (j + 1) = 0 := fun z => by have := (nI_eq (b := 0) (by omega) (by decide)).mp z; omega
  rw [e, ek, if_neg n0, if_neg n0, if_neg (nI_pos (by omega))]
  have t128 : t p < 128 := by
    by_cases h : t p < 128
    · exact h
    · exfalso
      have h2 : t p = 128 := by have := P.t_le p; omega
      rw [h2] at e
      have := congrArg Int32.toInt e
      rw [nI_toInt (by omega)] at this
      have z : (kinN 128).toInt = -1 := rfl
      omega
  have lt := P.lt t128
  have C1 : CS l nf kk q t p hC (si hM 10 (8 * l + kk) (nI (j + 1))) := C'.wr _ (by decide)
  have F1 : FKm l kk q hM (si hM 10 (8 * l + kk) (nI (j + 1))) := fkM_si _ _ (Or.inr (Or.inr ⟨by decide, by decide, by omega⟩))
  have P1 := C1.2.1.one lt
  have A1 := advC_si hC (nI (p + 1))
  have B1 := advM_si (si hM 10 (8 * l + kk) (nI (j + 1))) 9 (nI (p + 1)) (Or.inl rfl)
  have e19 : gi (si hM 10 (8 * l + kk) (nI (j + 1))) 1 9 + 1 = nI (p + 1) := by rw [gi_si_ne (by decide), P.2.2.2.2.2.1, nI_1]
  rw [e19, hb_eq, C_pass P1 (show 32 < 128 by decide) (X := 32) rfl, M_takes P1 (show 32 < 128 by decide) (X := 32) rfl]
  by_cases h32 : t (p + 1) = 32
  case neg =>
    left
    refine ⟨_, _, p + 1, ?_, ?_, gi_si _ _ _ _, gi_si _ _ _ _, fkC_adv A1, F1.trans (fkM_adv B1)⟩
    · rw [if_neg h32, cb_some, if_pos rfl]
    · rw [if_neg h32, cb_some, if_pos rfl]
  have lt1 := P1.lt (by omega)
  have A2 := A1.trans (advC_si (si hC 9 2 (nI (p + 1))) (nI (p + 1 + 1)))
  have B2 := B1.trans (advM_si (si (si hM 10 (8 * l + kk) (nI (j + 1))) 1 9 (nI (p + 1))) 9 (nI (p + 1 + 1)) (Or.inl rfl))
  have C2 := C1.adv A2 B2 (P1.one lt1) (by omega)
  rw [if_pos h32, if_pos h32, cb_some, cb_some, if_neg (by decide), if_neg (by decide)]
  have w10 : gi (si (si (si hM 10 (8 * l + kk) (nI (j + 1))) 1 9 (nI (p + 1))) 1 9 (nI (p + 1 + 1))) 10 (8 * l + kk) = nI (j + 1) := by
    rw [gi_si_ne (by decide), gi_si_ne (by decide), gi_si]
  refine (E_both (s := 2) (wv := 2) (kd := nI (j + 1)) C2 ?_ (Or.inr (Or.inr (Or.inl ⟨rfl, rfl⟩))) ?_).tr (fkC_adv A2) (F1.trans (fkM_adv B2))
  · rw [gi_si_ne (by decide), gi_si_ne (by decide), gi_si_ne (by decide)]; exact hw
  · rw [if_pos rfl, w10]; exact ⟨rfl, j + 1, by omega, by omega, rfl⟩
