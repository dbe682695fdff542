/-! ===== pure: shares, least, oaths ===== -/
theorem dn_no {l q kk : Nat} {hC hM : Hp} {s : Int32} (c : gi hC (144 + 6 * l + 1) kk = s ∧ gi hC (144 + 6 * l + 2) kk = 0 ∧ gi hC (144 + 6 * l + 3) kk = nI q ∧ gi hC (144 + 6 * l + 4) kk = nI q) (w : gi hM 9 (8 * l + kk) = 6) (hs : s = 4 ∨ s = 5 ∨ s = 8) : DnI l q kk hC hM :=
  ⟨q, 0, c.2.2.1, c.2.2.2, Nat.le_refl _, Or.inl ⟨rfl, w, by rw [c.1]; exact hs, c.2.1⟩⟩
theorem div_ok {t : Nat → Nat} {p : Nat} (h : divB t p = true) : isD (t p) = true ∧ 1 ≤ numV t p := by
  unfold divB at h
  cases hd : isD (t p)
  · rw [hd] at h; cases h
  refine ⟨rfl, ?_⟩
  have d := isD_t hd
  rw [hd, Bool.true_and] at h
  unfold numV
  cases hd2 : isD (t (p + 1))
  · rw [if_neg (by decide)]
    rw [hd2] at h
    by_cases q : t p = 48
    · rw [decide_eq_true q] at h; cases h
    · omega
  · have d2 := isD_t hd2
    rw [if_pos rfl]
    rw [hd2] at h
    by_cases q : t p = 48
    · by_cases q2 : t (p + 1) = 48
      · rw [decide_eq_true q, decide_eq_true q2] at h; cases h
      · omega
    · omega
theorem CS.begun {l nf kk q p : Nat} {t : Nat → Nat} {hC hM : Hp} (s : Int32) (C : CS l nf kk q t p hC hM) : PT nf t p (bgC l kk q s 0 hC) hM ∧ gi (bgC l kk q s 0 hC) (144 + 6 * l) 6 = nI q ∧ gr (bgC l kk q s 0 hC) 9 3 = 144 + 6 * l ∧ ∀ j, 7 ≤ j → j ≤ 11 → gi (bgC l kk q s 0 hC) (144 + 6 * l) j = gi hC (144 + 6 * l) j := by
  obtain ⟨⟨l6, k8⟩, ⟨b1, b2, b3, b4, b5, b6, b7⟩, g93, e5, e6, e22, qp, Sh⟩ := C
  exact ⟨⟨b1, b2, by rw [bgC_o (by omega)]; exact b3, b4, by rw [bgC_o (by omega)]; exact b5, b6, fun i => by rw [bgC_o (by omega)]; exact b7 i⟩, by rw [bgC_o (by omega)]; exact e6, g93, fun j h1 h2 => bgC_o (by omega)⟩
theorem S_both {l nf kk q p : Nat} {t : Nat → Nat} {hC hM : Hp} (both : Bool) (C : CS l nf kk q t p hC hM) (hw : gi hM 9 (8 * l + kk) = 6) : CLr l nf kk q t hC hM (m_X4_readClause_L30 (if both = true then 5 else 4) hC) (m_X9_takesLose_L27 (nI l) (bI both) hM) := by
  have C' := C
  obtain ⟨⟨l6, k8⟩, P, g93, e5, e6, e22, qp, Sh⟩ := C
  unfold m_X4_readClause_L30 m_X4_readShare m_X9_takesLose_L27
  obtain ⟨m1, n1, n2, n3⟩ := M_number0 P
  rw [C_number P, n1]
  by_cases hd : isD (t p) = true
  case neg =>
    left
    refine ⟨hC, hM, p, ?_, ?_, P.2.2.2.2.1, P.2.2.2.2.2.1, FKc.rfl' _ _ _ _, FKm.rfl' _ _ _ _⟩
    · rw [if_neg hd, cb_some, if_pos (by decide), cb_some, ck_true _ isb_0]
    · rw [if_neg hd, cb_some, if_pos rfl]
  obtain ⟨v99, np1, np2⟩ := num_ok P hd
  obtain ⟨n4, n5⟩ := n3 hd
  have A1 := advC_si hC (nI (numP t p))
  have P1 : PT nf t (numP t p) (si hC 9 2 (nI (numP t p))) m1 := P.adv A1 n2 (gi_si _ _ _ _) n4 np2
  rw [if_pos hd, if_pos hd, cb_some, cb_some, if_neg (nI_pos (show numV t p < 2 ^ 31 by omega)), if_neg (show ¬ (1 : Int32) = 0 by decide), vb_eq, n5, C_pass P1 (show 32 < 128 by decide) (X := 32) rfl, M_takes P1 (show 32 < 128 by decide) (X := 32) rfl]
  by_cases h32 : t (numP t p) = 32
  case neg =>
    left
    refine ⟨_, _, numP t p, ?_, ?_, gi_si _ _ _ _, n4, fkC_adv A1, fkM_adv n2⟩
    · rw [if_neg h32, cb_some, if_pos rfl, cb_some, ck_true _ isb_0]
    · rw [if_neg h32, cb_some, if_pos rfl]
  have lt := P1.lt (by omega)
  have P2 := P1.one lt
  have A2 := A1.trans (advC_si (si hC 9 2 (nI (numP t p))) (nI (numP t p + 1)))
  have B2 := n2.trans (advM_si m1 9 (nI (numP t p + 1)) (Or.inl rfl))
  rw [if_pos h32, if_pos h32, cb_some, cb_some, if_neg (show ¬ (1 : Int32) = 0 by decide), if_neg (show ¬ (1 : Int32) = 0 by decide), C_divisor P2]
  obtain ⟨m3, o1, o2, o3, o4⟩ := M_divisor P2
  rw [o1]
  cases hv : divB t (numP t p + 1)
  · left
    rw [hv] at o3
    refine ⟨_, _, divF t (numP t p + 1), ?_, ?_, gi_si _ _ _ _, o3, fkC_adv (A2.trans (advC_si _ _)), fkM_adv (B2.trans o2)⟩
    · rw [if_neg (by decide), cb_some, if_neg (by decide), cb_some, ck_true _ isb_0]
    · rw [cb_some, if_pos (show bI false = 0 from rfl)]
  rw [hv] at o3
  obtain ⟨hd2, v1⟩ := div_ok hv
  obtain ⟨w99, mp1, mp2⟩ := num_ok P2 hd2
  have o4' := o4 hv
  have A3 := A2.trans (advC_si (si (si hC 9 2 (nI (numP t p))) 9 2 (nI (numP t p + 1))) (nI (numP t (numP t p + 1))))
  have B3 := B2.trans o2
  have P3 : PT nf t (numP t (numP t p + 1)) (si (si (si hC 9 2 (nI (numP t p))) 9 2 (nI (numP t p + 1))) 9 2 (nI (numP t (numP t p + 1)))) m3 := P2.adv (advC_si _ _) o2 (gi_si _ _ _ _) o3 mp2
  have C3 : CS l nf kk q t (numP t (numP t p + 1)) (si (si (si hC 9 2 (nI (numP t p))) 9 2 (nI (numP t p + 1))) 9 2 (nI (numP t (numP t p + 1)))) m3 := C'.adv A3 B3 P3 (by omega)
  have hw3 : gi m3 9 (8 * l + kk) = 6 := by rw [B3.1 _ _ (by omega)]; exact hw
  obtain ⟨-, -, c93, c5, c6, c22, cqp, Sh3⟩ := C3
  have C3' : CS l nf kk q t (numP t (numP t p + 1)) (si (si (si hC 9 2 (nI (numP t p))) 9 2 (nI (numP t p + 1))) 9 2 (nI (numP t (numP t p + 1)))) m3 := ⟨⟨l6, k8⟩, P3, c93, c5, c6, c22, cqp, Sh3⟩
  have FC := (fkC_adv (l := l) (k := kk) (q0 := q) A3)
  have FM := (fkM_adv (l := l) (k := kk) (q0 := q) B3)
  rw [if_pos rfl, cb_some, cb_some, if_pos (show 1 ≤ nI (numV t (numP t p + 1)) from nI_le (a := 1) v1 (by omega)), if_neg (show ¬ bI true = 0 by decide), c93, ck_true _ (kC3 l6), C_beginC k8 c5 c6, cb_some]
  revert c93 c5 c6 Sh3 FC C3' P3
  generalize si (si (si hC 9 2 (nI (numP t p))) 9 2 (nI (numP t p + 1))) 9 2 (nI (numP t (numP t p + 1))) = kC
  intro P3 c93 c5 c6 Sh3 C3' FC
  right
  cases both
  · rw [show (if false = true then (5 : Int32) else 4) = 4 from rfl]
    obtain ⟨Pb, b6, b93, bk⟩ := C3'.begun (s := 4)
    obtain ⟨k1, k2, k3, k4, k5⟩ := bgC_k l kk q 4 0 kC
    refine ⟨si (si (bgC l kk q 4 0 kC) (144 + 6 * l) 7 (nI (numV t p))) (144 + 6 * l) 8 (nI (numV t (numP t p + 1))), si (si m3 13 l (nI (numV t p))) 14 l (nI (numV t (numP t p + 1))), numP t (numP t p + 1), q, ?_, ?_, ?_, ?_, ?_, ?_, Nat.le_refl _, cqp, ?_, dn_no (s := 4) ⟨?_, ?_, ?_, ?_⟩ ?_ (Or.inl rfl), ?_, ?_⟩
    · rw [if_pos rfl, b93, ck_true _ (kC3 l6), hb_eq, gr_si, b93, ck_true _ (kC3 l6), hb_eq, cb_some, ck_true _ isb_1]
    · rw [if_pos (show bI false = 0 from rfl), ck_true _ (inb_nI l6 (by decide)), nI_clamp (by omega), hb_eq, gi_si_ne (show 1 ≠ 13 by decide), o4', hb_eq]
    · obtain ⟨a1, a2, a3, a4, a5, a6, a7⟩ := Pb
      exact ⟨a1, a2, by rw [gi_si_ne (by omega), gi_si_ne (by omega)]; exact a3, by rw [gi_si_ne (by decide), gi_si_ne (by decide)]; exact a4, by rw [gi_si_ne (by omega), gi_si_ne (by omega)]; exact a5, by rw [gi_si_ne (by decide), gi_si_ne (by decide)]; exact a6, fun i => by rw [gi_si_ne (by omega), gi_si_ne (by omega), gi_si_ne (by decide), gi_si_ne (by decide)]; exact a7 i⟩
    · rw [gi_si_nk (by decide), gi_si_nk (by decide)]; exact k5
    · rw [gi_si_nk (by decide), gi_si_nk (by decide)]; exact b6
    · rw [gi_si_ne (by decide), gi_si_ne (by decide)]; exact c22
    · obtain ⟨a, b, c, d, e, s1, s2, s3, s4, s5, s6, s7, t7, t8, t9, t10, t11, u13, u14, u15, u16, u17⟩ := Sh3
      refine ⟨numV t p, numV t (numP t p + 1), c, d, e, v99, v1, w99, s4, s5, s6, s7, ?_, gi_si _ _ _ _, ?_, ?_, ?_, ?_, gi_si _ _ _ _, ?_, ?_, ?_⟩
      · rw [gi_si_nk (by decide), gi_si]
      · rw [gi_si_nk (by decide), gi_si_nk (by decide), bk 9 (by decide) (by decide)]; exact t9
      · rw [gi_si_nk (by decide), gi_si_nk (by decide), bk 10 (by decide) (by decide)]; exact t10
      · rw [gi_si_nk (by decide), gi_si_nk (by decide), bk 11 (by decide) (by decide)]; exact t11
      · rw [gi_si_ne (by decide), gi_si]
      · rw [gi_si_ne (by decide), gi_si_ne (by decide)]; exact u15
      · rw [gi_si_ne (by decide), gi_si_ne (by decide)]; exact u16
      · rw [gi_si_ne (by decide), gi_si_ne (by decide)]; exact u17
    · rw [gi_si_ne (by omega), gi_si_ne (by omega)]; exact k1
    · rw [gi_si_ne (by omega), gi_si_ne (by omega)]; exact k2
    · rw [gi_si_ne (by omega), gi_si_ne (by omega)]; exact k3
    · rw [gi_si_ne (by omega), gi_si_ne (by omega)]; exact k4
    · rw [gi_si_ne (by decide), gi_si_ne (by decide)]; exact hw3
    · exact ((FC.trans (bgC_fr _ _ _ _ _ _ _)).trans (fkC_si _ _ (Or.inr (Or.inl rfl)))).trans (fkC_si _ _ (Or.inr (Or.inl rfl)))
    · exact (FM.trans (fkM_si _ _ (Or.inr (Or.inl ⟨by decide, by decide, rfl⟩)))).trans (fkM_si _ _ (Or.inr (Or.inl ⟨by decide, by decide, rfl⟩)))
  · rw [show (if true = true then (5 : Int32) else 4) = 5 from rfl]
    obtain ⟨Pb, b6, b93, bk⟩ := C3'.begun (s := 5)
    obtain ⟨k1, k2, k3, k4, k5⟩ := bgC_k l kk q 5 0 kC
    refine ⟨si (si (bgC l kk q 5 0 kC) (144 + 6 * l) 9 (nI (numV t p))) (144 + 6 * l) 10 (nI (numV t (numP t p + 1))), si (si m3 15 l (nI (numV t p))) 16 l (nI (numV t (numP t p + 1))), numP t (numP t p + 1), q, ?_, ?_, ?_, ?_, ?_, ?_, Nat.le_refl _, cqp, ?_, dn_no (s := 5) ⟨?_, ?_, ?_, ?_⟩ ?_ (Or.inr (Or.inl rfl)), ?_, ?_⟩
    · rw [if_neg (show ¬ (5 : Int32) = 4 by decide), b93, ck_true _ (kC3 l6), hb_eq, gr_si, b93, ck_true _ (kC3 l6), hb_eq, cb_some, ck_true _ isb_1]
    · rw [if_neg (show ¬ bI true = 0 by decide), ck_true _ (inb_nI l6 (by decide)), nI_clamp (by omega), hb_eq, gi_si_ne (show 1 ≠ 15 by decide), o4', hb_eq]
    · obtain ⟨a1, a2, a3, a4, a5, a6, a7⟩ := Pb
      exact ⟨a1, a2, by rw [gi_si_ne (by omega), gi_si_ne (by omega)]; exact a3, by rw [gi_si_ne (by decide), gi_si_ne (by decide)]; exact a4, by rw [gi_si_ne (by omega), gi_si_ne (by omega)]; exact a5, by rw [gi_si_ne (by decide), gi_si_ne (by decide)]; exact a6, fun i => by rw [gi_si_ne (by omega), gi_si_ne (by omega), gi_si_ne (by decide), gi_si_ne (by decide)]; exact a7 i⟩
    · rw [gi_si_nk (by decide), gi_si_nk (by decide)]; exact k5
    · rw [gi_si_nk (by decide), gi_si_nk (by decide)]; exact b6
    · rw [gi_si_ne (by decide), gi_si_ne (by decide)]; exact c22
    · obtain ⟨a, b, c, d, e, s1, s2, s3, s4, s5, s6, s7, t7, t8, t9, t10, t11, u13, u14, u15, u16, u17⟩ := Sh3
      refine ⟨a, b, numV t p, numV t (numP t p + 1), e, s1, s2, s3, v99, v1, w99, s7, ?_, ?_, ?_, gi_si _ _ _ _, ?_, ?_, ?_, ?_, gi_si _ _ _ _, ?_⟩
      · rw [gi_si_nk (by decide), gi_si_nk (by decide), bk 7 (by decide) (by decide)]; exact t7
      · rw [gi_si_nk (by decide), gi_si_nk (by decide), bk 8 (by decide) (by decide)]; exact t8
      · rw [gi_si_nk (by decide), gi_si]
      · rw [gi_si_nk (by decide), gi_si_nk (by decide), bk 11 (by decide) (by decide)]; exact t11
      · rw [gi_si_ne (by decide), gi_si_ne (by decide)]; exact u13
      · rw [gi_si_ne (by decide), gi_si_ne (by decide)]; exact u14
      · rw [gi_si_ne (by decide), gi_si]
      · rw [gi_si_ne (by decide), gi_si_ne (by decide)]; exact u17
    · rw [gi_si_ne (by omega), gi_si_ne (by omega)]; exact k1
    · rw [gi_si_ne (by omega), gi_si_ne (by omega)]; exact k2
    · rw [gi_si_ne (by omega), gi_si_ne (by omega)]; exact k3
    · rw [gi_si_ne (by omega), gi_si_ne (by omega)]; exact k4
    · rw [gi_si_ne (by decide), gi_si_ne (by decide)]; exact hw3
    · exact ((FC.trans (bgC_fr _ _ _ _ _ _ _)).trans (fkC_si _ _ (Or.inr (Or.inl rfl)))).trans (fkC_si _ _ (Or.inr (Or.inl rfl)))
    · exact (FM.trans (fkM_si _ _ (Or.inr (Or.inl ⟨by decide, by decide, rfl⟩)))).trans (fkM_si _ _ (Or.inr (Or.inl ⟨by decide, by decide, rfl⟩)))
