/-! ===== pure: a clause with tests ===== -/
theorem E_both {l nf kk q p : Nat} {t : Nat → Nat} {hC hM : Hp} {s wv kd : Int32} (C : CS l nf kk q t p hC hM) (hw : gi hM 9 (8 * l + kk) = wv) (W : WordR s wv) (hk : if s = 2 then kd = gi hM 10 (8 * l + kk) ∧ (∃ j, 1 ≤ j ∧ j ≤ 6 ∧ gi hM 10 (8 * l + kk) = nI j) else kd = 0) : CLr l nf kk q t hC hM (m_X4_readClause_L109 s kd hC) (cb (m_X9_takesE (nI (8 * l + kk)) hM) fun v1 h2 => if v1 = 0 then some (0, h2) else some (1, h2)) := by
  obtain ⟨⟨l6, k8⟩, P, g93, e5, e6, e22, qp, Sh⟩ := C
  obtain ⟨b1, b2, b3, b4, b5, b6, b7⟩ := P
  obtain ⟨c1, c2, c3, c4, c5⟩ := bgC_k l kk q s kd hC
  have FC := bgC_fr l kk q q s kd hC
  have FM : FKm l kk q hM (si (si (si hM 1 25 0) 1 26 0) 11 (8 * l + kk) (nI (100 * l + q))) := ((fkM_si hM 0 (by omega)).trans (fkM_si _ 0 (by omega))).trans (fkM_si _ _ (by omega))
  have R0 : PR l nf kk q t (bgC l kk q s kd hC) (si (si (si hM 1 25 0) 1 26 0) 11 (8 * l + kk) (nI (100 * l + q))) p q 0 (bgC l kk q s kd hC) (si (si (si hM 1 25 0) 1 26 0) 11 (8 * l + kk) (nI (100 * l + q))) := by
    refine ⟨⟨l6, k8⟩, ⟨b1, b2, by rw [bgC_o (by omega)]; exact b3, ?_, by rw [bgC_o (by omega)]; exact b5, ?_, fun i => ?_⟩, Nat.le_refl _, by rw [bgC_o (by omega)]; exact e6, ?_, c4, fun i h1 h2 => by omega, by rw [Nat.sub_self]; rfl, ⟨g93, c5⟩, ⟨fun _ _ _ => rfl, fun _ => rfl, fun _ => rfl⟩, ⟨fun _ _ _ => rfl, fun _ => rfl⟩⟩
    · rw [gi_si_ne (by decide), gi_si_nk (by decide), gi_si_nk (by decide)]; exact b4
    · rw [gi_si_ne (by decide), gi_si_nk (by decide), gi_si_nk (by decide)]; exact b6
    · rw [bgC_o (by omega), gi_si_ne (by decide), gi_si_ne (by decide), gi_si_ne (by decide)]; exact b7 i
    · rw [gi_si_ne (by decide), gi_si_nk (by decide), gi_si_nk (by decide)]; exact e22
  have S0 : StkW [] (si (si (si hM 1 25 0) 1 26 0) 11 (8 * l + kk) (nI (100 * l + q))) := ⟨by rw [gi_si_ne (by decide), gi_si_nk (by decide), gi_si]; rfl, by rw [gi_si_ne (by decide), gi_si]; rfl, fun i hi => absurd hi (Nat.not_lt_zero _)⟩
  obtain ⟨v, hC', y1, yF, yT⟩ := either_loop (single_ok l nf kk q t _ _ 12) (by decide : 5 ≤ 12 + 0) (by decide) FU 0 false false p q 0 _ _ [] (by unfold FU; omega) (by omega) (fun x K' e => by cases e) R0 S0 (by show q + 0 ≤ p; omega) rfl (by decide)
  have EC : m_X4_readClause_L109 s kd hC = some (bI v, hC') := by
    unfold m_X4_readClause_L109
    rw [g93, ck_true _ (kC3 l6), C_beginC k8 e5 e6, cb_some]
    have y1' : m_X4_readEitherN 12 0 (bgC l kk q s kd hC) = some (bI v, hC') := y1
    rw [y1', cb_some, ck_true _ (isb_bI _)]
  have EM : m_X9_takesE (nI (8 * l + kk)) hM = m_X9_takesE_L22 FU (nI (8 * l + kk)) 1 (si (si (si hM 1 25 0) 1 26 0) 11 (8 * l + kk) (nI (100 * l + q))) := by
    unfold m_X9_takesE
    rw [hb_eq, hb_eq, ck_true _ (inb_nI (by omega) (by decide)), nI_clamp (by omega), gi_si_nk (show 22 ≠ 26 by decide), gi_si_nk (show 22 ≠ 25 by decide), e22, hb_eq]
  rw [EC, EM]
  cases v
  · obtain ⟨p', f1, f2, f3⟩ := yF rfl
    obtain ⟨hM', g1, g2, g3⟩ := f3 FU (by unfold FU; omega)
    exact Or.inl ⟨hC', hM', p', rfl, by rw [g1, cb_some, if_pos rfl], f1, g2, FC.trans (fkC_fe f2), FM.trans (fkM_fe g3)⟩
  · obtain ⟨hM', p', q', R', S', h1, h2, -, -, h3⟩ := yT rfl
    obtain ⟨f', -, g2⟩ := h3 FU (by unfold FU; omega)
    obtain ⟨⟨-, -⟩, P', r3, r4, r5, r6, r7, r8, ⟨r9, r10⟩, r11, r12⟩ := R'
    have eM : m_X9_takesE_L22 FU (nI (8 * l + kk)) 1 (si (si (si hM 1 25 0) 1 26 0) 11 (8 * l + kk) (nI (100 * l + q))) = some (1, si hM' 12 (8 * l + kk) (nI (100 * l + q'))) := by
      rw [g2]
      unfold eEnd
      rw [ck_true _ (inb_nI (by omega) (by decide)), nI_clamp (by omega), r5, hb_eq, gi_si_ne (show 1 ≠ 12 by decide), S'.1, if_pos (show nI ([] : List Nat).length = 0 from rfl)]
    refine Or.inr ⟨hC', si hM' 12 (8 * l + kk) (nI (100 * l + q')), p', q', rfl, by rw [eM, cb_some, if_neg (by decide)], ?_, r10, r4, by rw [gi_si_ne (by decide)]; exact r5, r3, by have : q' + 0 ≤ p' := h1; omega, ?_, ⟨q, q' - q, ?_, ?_, by omega, Or.inr ⟨?_, ?_, ?_, ?_, ?_, ?_⟩⟩, FC.trans (fkC_fe r11), (FM.trans (fkM_fe r12)).trans (fkM_si _ _ (by omega))⟩
    · obtain ⟨a1, a2, a3, a4, a5, a6, a7⟩ := P'
      exact ⟨a1, a2, a3, by rw [gi_si_ne (by decide)]; exact a4, a5, by rw [gi_si_ne (by decide)]; exact a6, fun i => by rw [gi_si_ne (by decide)]; exact a7 i⟩
    · refine Sh.fr (fun j h1 h2 => ?_) (fun a h1 h2 => ?_)
      · rw [r11.1 _ _ (by omega), bgC_o (by omega)]
      · rw [gi_si_ne (by omega), r12.1 _ _ (by omega), gi_si_ne (by omega), gi_si_ne (by omega), gi_si_ne (by omega)]
    · rw [r11.1 _ _ (by omega)]; exact c3
    · rw [r6]; congr 1; omega
    · rw [r11.1 _ _ (by omega), c1, gi_si_ne (by decide), r12.1 _ _ (by omega), gi_si_ne (by decide), gi_si_ne (by decide), gi_si_ne (by decide), hw]; exact W
    · rw [gi_si_ne (by decide), r12.1 _ _ (by omega), gi_si]
    · rw [gi_si]; congr 1; omega
    · intro i hi
      rw [gi_si_ne (by decide)]
      have := r7 (q + i) (by omega) (by omega)
      rwa [show 100 * l + (q + i) = 100 * l + q + i by omega] at this
    · rw [show gi (si hM' 12 (8 * l + kk) (nI (100 * l + q'))) 18 = gi hM' 18 from gi_si_na (by decide)]; exact r8
    · rw [r11.1 _ _ (by omega), r11.1 _ _ (by omega), c1, c2, gi_si_ne (by decide), r12.1 _ _ (by omega), gi_si_ne (by decide), gi_si_ne (by decide), gi_si_ne (by decide)]; exact hk
