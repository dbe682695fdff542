/-! ===== pure: clauses, laws ===== -/
theorem wrapY {l nf kk q : Nat} {t : Nat → Nat} {hC hM : Hp} {X Y : Option (Int32 × Hp)} (R : CLr l nf kk q t hC hM X Y) : CLr l nf kk q t hC hM X (cb Y fun v h => ck (isb v) (some (v, h))) := by
  rcases R with ⟨a, b, p', r1, r2, r⟩ | ⟨a, b, p', q', r1, r2, r⟩
  · exact Or.inl ⟨a, b, p', r1, by rw [r2, cb_some, ck_true _ isb_0], r⟩
  · exact Or.inr ⟨a, b, p', q', r1, by rw [r2, cb_some, ck_true _ isb_1], r⟩
def wvI (w : Nat) : Int32 := if w = 0 then 0 else if w = 1 then 1 else if w = 2 then 2 else if w = 3 then 3 else if w = 6 then 4 else if w = 7 then 5 else 6
/-- how a clause of the reference goes, by its word -/
def clY (w l a : Nat) (hM : Hp) : Option (Int32 × Hp) :=
  if w = 4 then cb (m_X9_takesLose (nI l) 0 (si hM 9 a 6)) fun v h => ck (isb v) (some (v, h))
  else if w = 5 then cb (m_X9_takesLose (nI l) 1 (si hM 9 a 6)) fun v h => ck (isb v) (some (v, h))
  else if w = 8 then cb (m_X9_takesLeast (nI l) (si hM 9 a 6)) fun v h => ck (isb v) (some (v, h))
  else if w = 2 then cb (m_X9_takesOath (nI a) (si hM 9 a 2)) fun v h => ck (isb v) (some (v, h))
  else cb (m_X9_takesWord (nI (wco w)) (nI (wlen w)) (si hM 9 a (wvI w))) fun v h => if v = 0 then some (0, h) else cb (m_X9_takesE (nI a) h) fun v1 h1 => if v1 = 0 then some (0, h1) else some (1, h1)
theorem M_clY {l nf kk q p : Nat} {t : Nat → Nat} {hC hM : Hp} (C : CS l nf kk q t p hC hM) : m_X9_takesClause (nI l) (nI (8 * l + kk)) hM = clY (tgtW (t p) (t (p + 1))) l (8 * l + kk) hM := by
  obtain ⟨⟨l6, k8⟩, P, -⟩ := C
  have ia : ∀ K : Option (Int32 × Hp), ck (inb (nI (8 * l + kk)) 48) K = K := fun K => ck_true K (inb_nI (by omega) (by decide))
  have ca : (nI (8 * l + kk)).toNatClampNeg = 8 * l + kk := nI_clamp (by omega)
  have c1 := P.2.2.2.2.2.2 (p + 1)
  have c0 := P.2.2.2.2.2.2 p
  have P6 : PT nf t p hC (si hM 9 (8 * l + kk) 6) := by
    obtain ⟨b1, b2, b3, b4, b5, b6, b7⟩ := P
    exact ⟨b1, b2, b3, by rw [gi_si_ne (by decide)]; exact b4, b5, by rw [gi_si_ne (by decide)]; exact b6, fun i => by rw [gi_si_ne (by decide)]; exact b7 i⟩
  have n6 := M_next P6
  rw [show gi (si hM 9 (8 * l + kk) 6) 7 p = gi hM 7 p from gi_si_ne (by decide)] at n6
  have key : ∀ s : Int32, s = (if p + 1 < nf then gi hM 7 (p + 1) else -1) → m_X9_takesClause_L28 (nI l) (nI (8 * l + kk)) s hM = clY (tgtW (t p) (t (p + 1))) l (8 * l + kk) hM := by
    intro s hs
    rw [← hs] at c1
    have d105 := c1.b (show 105 < 128 by decide)
    have d97 := c1.b (show 97 < 128 by decide)
    have d101 := c1.b (show 101 < 128 by decide)
    have d118 := c1.b (show 118 < 128 by decide)
    have e98 := c0.b (show 98 < 128 by decide)
    have e102 := c0.b (show 102 < 128 by decide)
    have e108 := c0.b (show 108 < 128 by decide)
    have e111 := c0.b (show 111 < 128 by decide)
    unfold m_X9_takesClause_L28
    rw [ia, ca, hb_eq, n6, cb_some]
    revert e98 e102 e108 e111
    generalize (if p < nf then gi hM 7 p else -1) = v
    intro e98 e102 e108 e111
    unfold tgtW
    by_cases h98 : t p = 98
    · rw [if_pos (show v = 98 from e98.mpr h98), if_pos h98]
      by_cases h1 : t (p + 1) = 105
      · rw [if_pos (show s = 105 from d105.mpr h1), if_pos h1]
        unfold m_X9_takesClause_L134 m_X9_takesClause_L150 m_X9_takesClause_L181
        rw [if_pos (show s = 105 from d105.mpr h1), ia, ca, hb_eq, si_si, if_pos (show s = 105 from d105.mpr h1)]; rfl
      rw [if_neg (show ¬ s = 105 from fun z => h1 (d105.mp z)), if_neg h1]
      by_cases h2 : t (p + 1) = 97
      · rw [if_pos (show s = 97 from d97.mpr h2), if_pos h2]
        unfold m_X9_takesClause_L134 m_X9_takesClause_L150 m_X9_takesClause_L181
        rw [if_neg (show ¬ s = 105 from fun z => h1 (d105.mp z)), ia, ca, hb_eq, si_si, if_neg (show ¬ s = 105 from fun z => h1 (d105.mp z))]; rfl
      rw [if_neg (show ¬ s = 97 from fun z => h2 (d97.mp z)), if_neg h2]; rfl
    rw [if_neg (show ¬ v = 98 from fun z => h98 (e98.mp z)), if_neg h98]
    by_cases h102 : t p = 102
    · rw [if_pos (show v = 102 from e102.mpr h102), if_pos h102, hb_eq, si_si]; rfl
    rw [if_neg (show ¬ v = 102 from fun z => h102 (e102.mp z)), if_neg h102]
    by_cases h108 : t p = 108
    · rw [if_pos (show v = 108 from e108.mpr h108), if_pos h108]
      by_cases h1 : t (p + 1) = 101
      · rw [if_pos (show s = 101 from d101.mpr h1), if_pos h1]; rfl
      · rw [if_neg (show ¬ s = 101 from fun z => h1 (d101.mp z)), if_neg h1]; rfl
    rw [if_neg (show ¬ v = 108 from fun z => h108 (e108.mp z)), if_neg h108]
    by_cases h111 : t p = 111
    · rw [if_pos (show v = 111 from e111.mpr h111), if_pos h111]
      unfold m_X9_takesClause_L211
      rw [ia, ca, hb_eq, si_si, ia, hb_eq, si_si]
      by_cases h1 : t (p + 1) = 118
      · rw [if_pos (show s = 118 from d118.mpr h1), if_pos h1, if_pos (show s = 118 from d118.mpr h1)]; rfl
      · rw [if_neg (show ¬ s = 118 from fun z => h1 (d118.mp z)), if_neg h1, if_neg (show ¬ s = 118 from fun z => h1 (d118.mp z))]; rfl
    rw [if_neg (show ¬ v = 111 from fun z => h111 (e111.mp z)), if_neg h111, hb_eq, si_si]; rfl
  unfold m_X9_takesClause
  rw [P.2.2.2.1, P.2.2.2.2.2.1, nI_1]
  have pn := P.2.1
  have n100 := P.1
  by_cases q : p + 1 < nf
  · rw [if_neg (nI_ge (by omega) (by omega)), ck_true _ (inb_nI (by omega) (by decide)), nI_clamp (by omega)]
    exact key _ (by rw [if_pos q])
  · rw [if_pos (nI_le (by omega) (by omega))]
    exact key _ (by rw [if_neg q])
def dpC (w : Nat) (h5 : Hp) : Option (Int32 × Hp) := if nI w = 4 then m_X4_readClause_L30 (nI w) h5 else if nI w = 5 then m_X4_readClause_L30 (nI w) h5 else if nI w = 8 then ck (kC 3 (gr h5 9 3)) (cb (m_X3_beginClause (gr h5 9 3) (nI w) 0 h5) fun _ h20 => ck (kC 3 (gr h20 9 3)) (cb (m_X4_readNumber h20) fun v22 h23 => hb (si h23 (gr h20 9 3) 11 v22) fun h24 => ck (kC 3 (gr h24 9 3)) (if (gi h24 (gr h24 9 3) 11) < 0 then some (0, h24) else some (1, h24)))) else if nI w = 2 then cb (m_X4_readOneOf 9 h5) fun v11 h12 => vb (1 + v11) fun v13 => if v13 = 0 then some (0, h12) else cb (m_X4_pass 32 h12) fun v15 h16 => if v15 = 0 then some (0, h16) else m_X4_readClause_L109 (nI w) v13 h16 else m_X4_readClause_L109 (nI w) 0 h5
theorem C_clause (h : Hp) : m_X4_readClause h = (cb (m_X4_readWord h) fun v1 h2 => if v1 < 0 then some (0, h2) else cb (m_X4_pass 32 h2) fun v4 h5 => if v4 = 0 then some (0, h5) else if v1 = 4 then m_X4_readClause_L30 v1 h5 else if v1 = 5 then m_X4_readClause_L30 v1 h5 else if v1 = 8 then ck (kC 3 (gr h5 9 3)) (cb (m_X3_beginClause (gr h5 9 3) v1 0 h5) fun _ h20 => ck (kC 3 (gr h20 9 3)) (cb (m_X4_readNumber h20) fun v22 h23 => hb (si h23 (gr h20 9 3) 11 v22) fun h24 => ck (kC 3 (gr h24 9 3)) (if (gi h24 (gr h24 9 3) 11) < 0 then some (0, h24) else some (1, h24)))) else if v1 = 2 then cb (m_X4_readOneOf 9 h5) fun v11 h12 => vb (1 + v11) fun v13 => if v13 = 0 then some (0, h12) else cb (m_X4_pass 32 h12) fun v15 h16 => if v15 = 0 then some (0, h16) else m_X4_readClause_L109 v1 v13 h16 else m_X4_readClause_L109 v1 0 h5) := rfl
theorem word_cl {l nf kk q p w : Nat} {t : Nat → Nat} {hC hM : Hp} (C : CS l nf kk q t p hC hM) (w9 : w < 9) (hw : w = tgtW (t p) (t (p + 1))) (Z : Int32 → Hp → Option (Int32 × Hp)) (H : ∀ p' c m, CS l nf kk q t p' c m → gi m 9 (8 * l + kk) = wvI w → CLr l nf kk q t c m (dpC w c) (Z 1 m)) (Z0 : ∀ h, Z 0 h = some (0, h)) : CLr l nf kk q t hC hM (m_X4_readClause hC) (cb (m_X9_takesWord (nI (wco w)) (nI (wlen w)) (si hM 9 (8 * l + kk) (wvI w))) Z) := by
  have C1 : CS l nf kk q t p hC (si hM 9 (8 * l + kk) (wvI w)) := C.wr _ (by decide)
  have F1 : FKm l kk q hM (si hM 9 (8 * l + kk) (wvI w)) := fkM_si _ _ (Or.inr (Or.inr ⟨by decide, by decide, by omega⟩))
  have wp : ¬ nI w < 0 := nI_pos (by omega)
  rw [C_clause]
  obtain ⟨hC', hM', p', P', Ac, Am, hp, ⟨y1, x1⟩ | ⟨y1, -, hCm, x1, x2⟩⟩ := word_full C1.2.1 hw
  · left
    refine ⟨hC', hM', p', ?_, by rw [y1, cb_some, Z0], P'.2.2.2.2.1, P'.2.2.2.2.2.1, fkC_adv Ac, F1.trans (fkM_adv Am)⟩
    rcases x1 with x1 | ⟨x1, x2⟩
    · rw [x1, cb_some, if_pos (by decide)]
    · rw [x1, cb_some, if_neg wp, x2, cb_some, if_pos rfl]
  · have C2 := C1.adv Ac Am P' hp
    have w2 : gi hM' 9 (8 * l + kk) = wvI w := by rw [Am.1 _ _ (by omega), gi_si]
    rw [x1, cb_some, if_neg wp, x2, cb_some, if_neg (by decide), y1, cb_some]
    exact (H p' hC' hM' C2 w2).tr (fkC_adv Ac) (F1.trans (fkM_adv Am))
theorem clause_both {l nf kk q p : Nat} {t : Nat → Nat} {hC hM : Hp} (C : CS l nf kk q t p hC hM) : CLr l nf kk q t hC hM (m_X4_readClause hC) (m_X9_takesClause (nI l) (nI (8 * l + kk)) hM) := by
  rw [M_clY C]
  have w9 := (tgt_ok (t p) (t (p + 1))).1
  generalize hw : tgtW (t p) (t (p + 1)) = w at w9
  have hw' := hw.symm
  have E : ∀ wv, WordR (nI w) wv → wv = wvI w → ¬ nI w = 2 → ¬ nI w = 4 → ¬ nI w = 5 → ¬ nI w = 8 → CLr l nf kk q t hC hM (m_X4_readClause hC) (cb (m_X9_takesWord (nI (wco w)) (nI (wlen w)) (si hM 9 (8 * l + kk) (wvI w))) fun v h => if v = 0 then some (0, h) else cb (m_X9_takesE (nI (8 * l + kk)) h) fun v1 h1 => if v1 = 0 then some (0, h1) else some (1, h1)) := by
    intro wv W e n2 n4 n5 n8
    refine word_cl C w9 hw' _ (fun p' c m C2 h9 => ?_) (fun h => by rw [if_pos rfl])
    unfold dpC
    rw [if_neg n4, if_neg n5, if_neg n8, if_neg n2, if_neg (show ¬ (1 : Int32) = 0 by decide)]
    exact E_both (wv := wv) C2 (by rw [e]; exact h9) W (by rw [if_neg n2])
  rcases cases9 w9 with rfl | rfl | rfl | rfl | rfl | rfl | rfl | rfl | rfl
  · exact E 0 wr0 rfl (by decide) (by decide) (by decide) (by decide)
  · exact E 1 wr1 rfl (by decide) (by decide) (by decide) (by decide)
  · show CLr l nf kk q t hC hM _ (cb (m_X9_takesOath (nI (8 * l + kk)) (si hM 9 (8 * l + kk) 2)) fun v h => ck (isb v) (some (v, h)))
    refine wrapY ?_
    unfold m_X9_takesOath
    exact word_cl C w9 hw' _ (fun p' c m C2 h9 => oath_both C2 h9) (fun h => rfl)
  · exact E 3 wr3 rfl (by decide) (by decide) (by decide) (by decide)
  · show CLr l nf kk q t hC hM _ (cb (m_X9_takesLose (nI l) 0 (si hM 9 (8 * l + kk) 6)) fun v h => ck (isb v) (some (v, h)))
    refine wrapY ?_
    exact word_cl C w9 hw' (fun v2 h3 => if v2 = 0 then some (0, h3) else m_X9_takesLose_L27 (nI l) 0 h3) (fun p' c m C2 h9 => S_both false C2 h9) (fun h => rfl)
  · show CLr l nf kk q t hC hM _ (cb (m_X9_takesLose (nI l) 1 (si hM 9 (8 * l + kk) 6)) fun v h => ck (isb v) (some (v, h)))
    refine wrapY ?_
    exact word_cl C w9 hw' (fun v2 h3 => if v2 = 0 then some (0, h3) else m_X9_takesLose_L27 (nI l) 1 h3) (fun p' c m C2 h9 => S_both true C2 h9) (fun h => rfl)
  · exact E 4 wr6 rfl (by decide) (by decide) (by decide) (by decide)
  · exact E 5 wr7 rfl (by decide) (by decide) (by decide) (by decide)
  · show CLr l nf kk q t hC hM _ (cb (m_X9_takesLeast (nI l) (si hM 9 (8 * l + kk) 6)) fun v h => ck (isb v) (some (v, h)))
    refine wrapY ?_
    exact word_cl C w9 hw' (fun v1 h2 => if v1 = 0 then some (0, h2) else cb (m_X9_takesNumber 0 h2) fun v4 h5 => if v4 = 0 then some (0, h5) else ck (inb (nI l) 6) (hb (si h5 17 (nI l).toNatClampNeg (gi h5 1 23)) fun h8 => some (1, h8))) (fun p' c m C2 h9 => least_both C2 h9) (fun h => rfl)
