def byB (x : Int32) (k : Nat) : Nat := x.toBitVec.toNat / 2 ^ (8 * k) % 256
theorem byC (x : Int32) (k : Nat) (hk : k < 4) : ((x.toUInt32 >>> ((8 * nI k : Int32).toUInt32 &&& Int32.toUInt32 31)).toInt32) &&& 255 = nI (byB x k) := by
  have key : ((8 * nI k : Int32).toUInt32 &&& Int32.toUInt32 31).toBitVec.toNat % 32 = 8 * k := by
    rcases (show k = 0 ∨ k = 1 ∨ k = 2 ∨ k = 3 by omega) with rfl | rfl | rfl | rfl <;> rfl
  rw [pk_and _ 8 (by decide), pk_ushr x (8 * nI k) (8 * k) (by rw [BitVec.toNat_umod]; exact key)]
  rfl
theorem byM (x : Int32) (k : Nat) (hk : k < 4) : (x >>> ((8 * nI k) &&& 31)).toInt8.toInt32 = (nI (byB x k)).toInt8.toInt32 := by
  congr 1
  apply Int8.toBitVec_inj.mp
  have e : ∀ i, i < 8 → (nI (byB x k)).toBitVec.getLsbD i = x.toBitVec.getLsbD (8 * k + i) := by
    intro i hi
    show (BitVec.ofNat 32 (byB x k)).getLsbD i = _
    rw [BitVec.getLsbD_ofNat, byB, show 256 = 2 ^ 8 from rfl, Nat.testBit_mod_two_pow, Nat.testBit_div_two_pow, BitVec.getLsbD]
    simp [hi, show i < 32 by omega, Nat.add_comm]
  apply BitVec.eq_of_getLsbD_eq
  intro i hi
  rw [Int32.toBitVec_toInt8, Int32.toBitVec_toInt8, BitVec.getLsbD_signExtend, BitVec.getLsbD_signExtend, if_pos (by omega), if_pos (by omega), e i hi]
  have sm : ((8 * nI k &&& 31 : Int32).toBitVec.smod 32) = BitVec.ofNat 32 (8 * k) := by
    rcases (show k = 0 ∨ k = 1 ∨ k = 2 ∨ k = 3 by omega) with rfl | rfl | rfl | rfl <;> rfl
  show (decide (i < 8) && (x.toBitVec.sshiftRight' ((8 * nI k &&& 31 : Int32).toBitVec.smod 32)).getLsbD i) = _
  rw [sm]
  show (decide (i < 8) && (x.toBitVec.sshiftRight (BitVec.ofNat 32 (8 * k)).toNat).getLsbD i) = _
  rw [BitVec.getLsbD_sshiftRight]
  have : (BitVec.ofNat 32 (8 * k)).toNat = 8 * k := by rw [BitVec.toNat_ofNat]; exact Nat.mod_eq_of_lt (by omega)
  rw [this]
  simp [show ¬ 32 ≤ i by omega, show 8 * k + i < 32 by omega]
theorem feed_loop {x : Int32} {ns nc nl : Nat} : ∀ j nf (hC hM : Hp) n m, j ≤ 4 → nf + j ≤ 100 → j < n → j < m → Inv ns nc nl nf hC hM → ∃ hC' hM', m_X8_feed_L33 n x (nI j - 1) hC = some (nI (nf + j), hC') ∧ m_X9_feed_L31 m x (nI j - 1) hM = some (nI (nf + j), hM') ∧ Inv ns nc nl (nf + j) hC' hM'
  | 0, nf, hC, hM, n + 1, m + 1, h1, h2, _, _, I => by
    have i1 := I.1
    refine ⟨hC, hM, ?_, ?_, I⟩
    · unfold m_X8_feed_L33
      rw [if_pos (by decide), i1.2.2.2.1]; rfl
    · unfold m_X9_feed_L31
      rw [if_pos (by decide), i1.2.2.2.2.1]; rfl
  | j + 1, nf, hC, hM, n + 1, m + 1, h1, h2, hn, hm, I => by
    obtain ⟨i1, i2, i3, i4, i5, i6, i7, i8, i9, i10⟩ := I
    obtain ⟨i11, i12, i13, i14, i15, i16⟩ := i1
    have n5 := i11.2.2
    have n24 := i12.2.2
    have n6 := i13.2.2
    have hb : byB x j < 256 := Nat.mod_lt _ (by decide)
    have J : Inv ns nc nl (nf + 1) (si (si hC 10 nf (nI (byB x j))) 9 1 (nI (nf + 1))) (si (si hM 7 nf ((nI (byB x j)).toInt8.toInt32)) 1 8 (nI (nf + 1))) := by
      refine ⟨⟨?A, ?B, ?C, ?D, ?E, by omega⟩, i2.fr ?_ ?_, i3.fr ?_ ?_ ?_ ?_, i4.fr ?_ ?_, i5.fr ?_ ?_ ?_ ?_ ?_ ?_ ?_, ?F, fun l hl => (i7 l hl).fr ?_ ?_ ?_, i8.fr ?_ ?_ ?_ ?_, i9.fr ?_ ?_ ?_ ?_ ?_, i10.fr ?_ ?_⟩
      case A => simpa [gi_si_if] using i11
      case B => simpa [gi_si_if] using i12
      case C => simpa [gi_si_if] using i13
      case D => simp [gi_si_if]
      case E => simp [gi_si_if]
      case F =>
        intro i hi
        by_cases h : i = nf
        · subst h
          exact ⟨byB x j, hb, by simp [gi_si_if], by simp [gi_si_if]⟩
        · obtain ⟨b, h1, h2, h3⟩ := i6 i (by omega)
          exact ⟨b, h1, by simpa [gi_si_if, h] using h2, by simpa [gi_si_if, h] using h3⟩
      all_goals first | rfl | (intros; rfl) | (intros; simp (disch := omega) only [gi_si_na]; done) | (simp (disch := omega) only [gi_si_na, gi_si_ne, gi_si_nk]; done)
    obtain ⟨hC', hM', p, q, K⟩ := feed_loop j (nf + 1) _ _ n m (by omega) (by omega) (by omega) (by omega) J
    have e : nI j + (-1) = nI j - 1 := by rw [Int32.sub_eq_add_neg]
    have ej : nI (j + 1) - 1 = nI j := nI_pred j
    have l100 : ¬ (100 : Int32) ≤ nI nf := nI_ge (a := nf) (b := 100) (by omega) (by decide)
    refine ⟨hC', hM', ?_, ?_, by rw [show nf + (j + 1) = nf + 1 + j by omega]; exact K⟩
    · unfold m_X8_feed_L33
      rw [ej, if_neg (nI_pos (by omega)), byC x j (by omega)]
      unfold m_X4_put
      rw [i14, if_neg l100, ck_true _ (inb_nI (by omega) (by decide)), nI_clamp (by omega)]
      simp only [hb_eq, vb_eq, cb_some, gi_si_ne (show 9 ≠ 10 by decide), i14, nI_1, e]
      rw [p, show nf + (j + 1) = nf + 1 + j by omega]
    · unfold m_X9_feed_L31
      rw [ej, if_neg (nI_pos (by omega)), byM x j (by omega), i15, ck_true _ (inb_nI (by omega) (by decide)), nI_clamp (by omega)]
      simp only [hb_eq, vb_eq, gi_si_ne (show 1 ≠ 7 by decide), i15, nI_1, e]
      rw [q, show nf + (j + 1) = nf + 1 + j by omega]
theorem b_feed (a1 a2 : Int32) : Both (m_X8_feed a1 a2) (m_X9_feed a1 a2) := by
  rintro hC hM ⟨ns, nc, nl, nf, I0⟩
  have I : InvE hC hM := ⟨ns, nc, nl, nf, I0⟩
  obtain ⟨e1, e2, e3⟩ := I0.1.2.2.2
  unfold m_X8_feed m_X9_feed
  rcases ix_cases a2 5 (by decide) (N := 5) (M := 4) rfl rfl with q | ⟨q0, q1, q2, q3, q4⟩ | ⟨j, hj, rfl, q0, q1, q2, q3, q4⟩
  · simp only [m_X9_in, q, if_pos, cb_some]; exact Inv.ok rfl I
  · simp only [m_X9_in, q0, q2, q4, if_pos, if_false, cb_some]; exact Inv.ok rfl I
  simp only [show m_X9_in (nI j) 0 4 hM = some (1, hM) by simp only [m_X9_in, q0, q2, if_false], q0, q4, if_pos, if_false, cb_some, if10, e1, e2, nI_add]
  by_cases h : nf + j ≤ 100
  · simp only [show nI (nf + j) ≤ 100 from nI_le (b := 100) h (by decide), if_pos, vb_eq]
    obtain ⟨hC', hM', p, q, K⟩ := feed_loop (x := a1) j nf hC hM FU FU (by omega) h (by unfold FU; omega) (by unfold FU; omega) I0
    exact ⟨_, _, p, _, _, q, rfl, ns, nc, nl, nf + j, K⟩
  · simp only [show ¬ nI (nf + j) ≤ 100 from nI_ge (a := 100) (by omega) (by omega), if_false]
    exact Inv.ok rfl I
