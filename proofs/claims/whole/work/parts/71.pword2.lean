/-! ===== pure: a clause's word, by both ===== -/
theorem tgt_ok (c0 c1 : Nat) : tgtW c0 c1 < 9 ∧ (c0 = wch (tgtW c0 c1) 0 ∨ firW c0 = false) ∧ (c0 = wch (tgtW c0 c1) 0 → (c1 = wch (tgtW c0 c1) 1 ∨ secW (tgtW c0 c1) c1 = false)) := by
  unfold tgtW
  by_cases h98 : c0 = 98
  · rw [if_pos h98]
    by_cases h1 : c1 = 105
    · rw [if_pos h1]; exact ⟨by decide, Or.inl h98, fun _ => Or.inl h1⟩
    rw [if_neg h1]
    by_cases h2 : c1 = 97
    · rw [if_pos h2]; exact ⟨by decide, Or.inl h98, fun _ => Or.inl h2⟩
    rw [if_neg h2]
    refine ⟨by decide, Or.inl h98, fun _ => ?_⟩
    by_cases h3 : c1 = 111
    · exact Or.inl h3
    · exact Or.inr (by simp [secW, h1, h2, h3])
  rw [if_neg h98]
  by_cases h102 : c0 = 102
  · rw [if_pos h102]; exact ⟨by decide, Or.inl h102, fun _ => Or.inr (by simp [secW])⟩
  rw [if_neg h102]
  by_cases h108 : c0 = 108
  · rw [if_pos h108]
    by_cases h1 : c1 = 101
    · rw [if_pos h1]; exact ⟨by decide, Or.inl h108, fun _ => Or.inl h1⟩
    rw [if_neg h1]
    refine ⟨by decide, Or.inl h108, fun _ => ?_⟩
    by_cases h3 : c1 = 111
    · exact Or.inl h3
    · exact Or.inr (by simp [secW, h1, h3])
  rw [if_neg h108]
  by_cases h111 : c0 = 111
  · rw [if_pos h111]
    by_cases h1 : c1 = 118
    · rw [if_pos h1]; exact ⟨by decide, Or.inl h111, fun _ => Or.inl h1⟩
    rw [if_neg h1]
    refine ⟨by decide, Or.inl h111, fun _ => ?_⟩
    by_cases h3 : c1 = 97
    · exact Or.inl h3
    · exact Or.inr (by simp [secW, h1, h3])
  rw [if_neg h111]
  refine ⟨by decide, ?_, fun _ => Or.inr (by simp [secW])⟩
  by_cases h114 : c0 = 114
  · exact Or.inl h114
  · exact Or.inr (by simp [firW, h98, h102, h108, h111, h114])
theorem mkW_0 : ∀ w, w < 9 → ∀ k, k < 6 → mkW w k ≠ 0 := by decide
theorem wco_dec : ∀ w, w < 9 → ∀ k, k < wlen w → 96 + (((nI (wco w)) >>> ((5 * nI (wlen w - 1 - k)) &&& 31)) &&& 31) = nI (wch w k) := by decide +kernel
theorem PT.t_le {nf p : Nat} {t : Nat → Nat} {hC hM : Hp} (P : PT nf t p hC hM) (i : Nat) : t i < 129 := by
  rcases P.2.2.2.2.2.2 i with ⟨h, -⟩ | ⟨h, -⟩ <;> omega
theorem finW_next (k6 : Int32 → Int32 → Hp → Option (Int32 × Hp)) {k p : Nat} {m : Int32} {h : Hp} (hm : m ≠ 0) (e : gi h 9 2 = nI p) : finW k6 k (m, -1) h = k6 m (nI (k + 1)) (si h 9 2 (nI (p + 1))) := by
  show (if m = 0 then some (-1, h) else hb (si h 9 2 ((gi h 9 2) + 1)) fun h3 => if (-1 : Int32) < 0 then vb (nI k + 1) fun v5 => k6 m v5 h3 else some (-1, h3)) = _
  rw [if_neg hm, hb_eq, e, nI_1, if_pos (by decide), vb_eq, nI_1]
theorem finW_end (k6 : Int32 → Int32 → Hp → Option (Int32 × Hp)) {k p w : Nat} {m : Int32} {h : Hp} (hm : m ≠ 0) (hw : w < 9) (e : gi h 9 2 = nI p) : finW k6 k (m, nI w) h = some (nI w, si h 9 2 (nI (p + 1))) := by
  show (if m = 0 then some (-1, h) else hb (si h 9 2 ((gi h 9 2) + 1)) fun h3 => if nI w < 0 then vb (nI k + 1) fun v5 => k6 m v5 h3 else some (nI w, h3)) = _
  rw [if_neg hm, hb_eq, e, nI_1, if_neg (nI_pos (by omega)), nI_1]
theorem word_run {w nf p0 : Nat} {t : Nat → Nat} (hw : w < 9) (H0 : okW w 0 (t p0) = true) (H1 : t p0 = wch w 0 → okW w 1 (t (p0 + 1)) = true) : ∀ rem k n m hC hM, k + rem = wlen w → 1 ≤ rem → rem < n → rem < m → (∀ j, j < k → t (p0 + j) = wch w j) → PT nf t (p0 + k) hC hM →
    (∃ hC' hM' p', m_X4_readWord_L6 n (mkW w k) (nI k) hC = some (-1, hC') ∧ m_X9_takesWord_L4 m (nI (wco w)) (nI (rem - 1)) hM = some (0, hM') ∧ PT nf t p' hC' hM' ∧ AdvC hC hC' ∧ AdvM hM hM' ∧ p0 + k ≤ p') ∨
    (∃ hC' hM', m_X4_readWord_L6 n (mkW w k) (nI k) hC = some (nI w, hC') ∧ m_X9_takesWord_L4 m (nI (wco w)) (nI (rem - 1)) hM = (cb (m_X9_takes 32 hM') fun v2 h3 => ck (isb v2) (some (v2, h3))) ∧ PT nf t (p0 + wlen w) hC' hM' ∧ AdvC hC hC' ∧ AdvM hM hM') := by
  have wl := wlen_le w hw
  intro rem
  induction rem with
  | zero => intro k n m hC hM _ h; omega
  | succ rem ih =>
    intro k n m hC hM h1 h2 h3 h4 hj P
    obtain ⟨n, rfl⟩ := Nat.exists_eq_succ_of_ne_zero (by omega : n ≠ 0)
    obtain ⟨m, rfl⟩ := Nat.exists_eq_succ_of_ne_zero (by omega : m ≠ 0)
    have hok : okW w k (t (p0 + k)) = true := by
      by_cases k0 : k = 0
      · subst k0; exact H0
      · by_cases k1 : k = 1
        · subst k1; exact H1 (hj 0 (by decide))
        · exact okW2 w hw k (by omega) (by omega) _ (P.t_le _)
    unfold okW at hok
    have hin := eq_of_beq hok
    have c128 := wch_lt w hw k (by omega)
    have hC6 : m_X4_readWord_L6 (n + 1) (mkW w k) (nI k) hC = finW (m_X4_readWord_L6 n) k (if t (p0 + k) = wch w k then (mkW w (k + 1), if k + 1 = wlen w then nI w else -1) else (0, -1)) hC := by
      rw [← hin]
      unfold m_X4_readWord_L6
      rw [if_neg (show ¬ (5 : Int32) ≤ nI k from nI_ge (a := k) (b := 5) (by omega) (by decide))]
      exact C_inner P (m_X4_readWord_L6 n) (by omega) 9 0 FU (mkW w k) (-1) rfl (by unfold FU; omega)
    have hM4 : m_X9_takesWord_L4 (m + 1) (nI (wco w)) (nI (rem + 1 - 1)) hM = (cb (if t (p0 + k) = wch w k then some ((1 : Int32), si hM 1 9 (nI (p0 + k + 1))) else some (0, hM)) fun v5 h6 => if v5 = 0 then some (0, h6) else vb (nI rem + (-1)) fun v8 => m_X9_takesWord_L4 m (nI (wco w)) v8 h6) := by
      conv => lhs; unfold m_X9_takesWord_L4
      have e := wco_dec w hw k (by omega)
      rw [show wlen w - 1 - k = rem by omega] at e
      rw [show rem + 1 - 1 = rem by omega, if_neg (nI_pos (by omega)), e, M_takes P c128 rfl]
    rw [hC6, hM4]
    by_cases hc : t (p0 + k) = wch w k
    · have P1 := P.one (P.lt (by omega))
      rw [if_pos hc, if_pos hc, cb_some, if_neg (show ¬ (1 : Int32) = 0 by decide), vb_eq]
      have A1 := advC_si hC (nI (p0 + k + 1))
      have A2 := advM_si hM 9 (nI (p0 + k + 1)) (Or.inl rfl)
      have mz := mkW_0 w hw (k + 1) (by omega)
      by_cases hr : rem = 0
      · subst hr
        have ek : k + 1 = wlen w := by omega
        obtain ⟨m, rfl⟩ := Nat.exists_eq_succ_of_ne_zero (by omega : m ≠ 0)
        right
        refine ⟨_, _, ?_, ?_, by rw [← ek]; exact P1, A1, A2⟩
        · rw [if_pos ek]; exact finW_end _ mz hw P.2.2.2.2.1
        · unfold m_X9_takesWord_L4
          rw [if_pos (by decide)]
      · have ek : ¬ k + 1 = wlen w := by omega
        have e3 : nI rem + (-1) = nI (rem - 1) := by
          rw [show nI rem + (-1) = nI rem - 1 by rw [Int32.sub_eq_add_neg]]; exact nI_sub1 (by omega)
        rw [e3, if_neg ek, finW_next _ mz P.2.2.2.2.1]
        rcases ih (k + 1) n m _ _ (by omega) (by omega) (by omega) (by omega) (fun j hj' => by
          by_cases e : j = k
          · subst e; exact hc
          · exact hj j (by omega)) P1 with ⟨hC', hM', p', q1, q2, q3, q4, q5, q6⟩ | ⟨hC', hM', q1, q2, q3, q4, q5⟩
        · exact Or.inl ⟨hC', hM', p', q1, q2, q3, A1.trans q4, A2.trans q5, by omega⟩
        · exact Or.inr ⟨hC', hM', q1, q2, q3, A1.trans q4, A2.trans q5⟩
    · rw [if_neg hc, if_neg hc, cb_some, if_pos rfl]
      exact Or.inl ⟨hC, hM, _, by unfold finW; rw [if_pos rfl], rfl, P, AdvC.rfl' _, AdvM.rfl' _, Nat.le_refl _⟩
/-- a word and the blank behind it -/
theorem word_full {nf p : Nat} {t : Nat → Nat} {hC hM : Hp} (P : PT nf t p hC hM) {w : Nat} (hw : w = tgtW (t p) (t (p + 1))) : ∃ hC' hM' p', PT nf t p' hC' hM' ∧ AdvC hC hC' ∧ AdvM hM hM' ∧ p ≤ p' ∧
    ((m_X9_takesWord (nI (wco w)) (nI (wlen w)) hM = some (0, hM') ∧ (m_X4_readWord hC = some (-1, hC') ∨ (m_X4_readWord hC = some (nI w, hC') ∧ m_X4_pass 32 hC' = some (0, hC')))) ∨
     (m_X9_takesWord (nI (wco w)) (nI (wlen w)) hM = some (1, hM') ∧ p + 4 ≤ p' ∧ ∃ hCm, m_X4_readWord hC = some (nI w, hCm) ∧ m_X4_pass 32 hCm = some (1, hC'))) := by
  obtain ⟨w9, f0, f1⟩ := tgt_ok (t p) (t (p + 1))
  rw [← hw] at w9 f0 f1
  have wl := wlen_le w w9
  have H0 := okW0 w w9 (t p) (P.t_le _) f0
  have H1 : t p = wch w 0 → okW w 1 (t (p + 1)) = true := fun e => okW1 w w9 _ (P.t_le _) (f1 e)
  have eM : m_X9_takesWord (nI (wco w)) (nI (wlen w)) hM = m_X9_takesWord_L4 FU (nI (wco w)) (nI (wlen w - 1)) hM := by
    unfold m_X9_takesWord
    rw [vb_eq, nI_sub1 (by omega)]
  have eC : m_X4_readWord hC = m_X4_readWord_L6 FU (mkW w 0) (nI 0) hC := rfl
  rw [eM, eC]
  rcases word_run w9 H0 H1 (wlen w) 0 FU FU hC hM (by omega) (by omega) (by unfold FU; omega) (by unfold FU; omega) (fun j hj => absurd hj (Nat.not_lt_zero _)) P with ⟨hC', hM', p', q1, q2, q3, q4, q5, q6⟩ | ⟨hC', hM', q1, q2, q3, q4, q5⟩
  · exact ⟨hC', hM', p', q3, q4, q5, by omega, Or.inl ⟨q2, Or.inl q1⟩⟩
  · rw [q2, M_takes q3 (show 32 < 128 by decide) (X := 32) rfl]
    by_cases h32 : t (p + wlen w) = 32
    · rw [if_pos h32, cb_some, ck_true _ isb_1]
      have P1 := q3.one (q3.lt (by omega))
      refine ⟨_, _, p + wlen w + 1, P1, q4.trans (advC_si _ _), q5.trans (advM_si _ 9 _ (Or.inl rfl)), by omega, Or.inr ⟨rfl, by omega, hC', q1, ?_⟩⟩
      rw [C_pass q3 (show 32 < 128 by decide) (X := 32) rfl, if_pos h32]
    · rw [if_neg h32, cb_some, ck_true _ isb_0]
      refine ⟨hC', hM', p + wlen w, q3, q4, q5, by omega, Or.inl ⟨rfl, Or.inr ⟨q1, ?_⟩⟩⟩
      rw [C_pass q3 (show 32 < 128 by decide) (X := 32) rfl, if_neg h32]
