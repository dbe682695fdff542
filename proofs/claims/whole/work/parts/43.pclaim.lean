theorem nI_2 (a : Nat) : nI a + 2 = nI (a + 2) := nI_add a 2
theorem nI_4 (a : Nat) : nI a + 4 = nI (a + 4) := nI_add a 4
theorem tenI0 (c : Nat) : 10 * nI c = nI (10 * c) := by rw [show (10 : Int32) = nI 10 from rfl, pk_mul]
theorem M_claim_step {x y z : Int32} {nc k n : Nat} {h : Hp} (hn : nc < 24) (hk : k < 10) (e : gi h 1 1 = nI nc) : m_X9_claim_L59 (n + 1) x y z (nI k) h = m_X9_claim_L59 n x y z (nI (k + 1)) (si h 6 (10 * nc + k) 0) := by
  conv => lhs; unfold m_X9_claim_L59
  have q : ¬ (10 : Int32) ≤ nI k := nI_ge (b := 10) hk (by decide)
  rw [if_neg q, e, tenI nc k rfl, ck_true _ (inb_nI (by omega) (by decide)), nI_clamp (by omega)]
  simp only [hb_eq, vb_eq, nI_1]
theorem M_claim_end {x y z : Int32} {nc n : Nat} {h : Hp} (hn : nc < 24) (e : gi h 1 1 = nI nc) : m_X9_claim_L59 (n + 1) x y z (nI 10) h = some (nI nc, si (si (si (si (si h 6 (10 * nc) x) 6 (10 * nc + 1) y) 6 (10 * nc + 2) z) 6 (10 * nc + 4) 1) 1 1 (nI (nc + 1))) := by
  conv => lhs; unfold m_X9_claim_L59
  rw [if_pos (show (10 : Int32) ≤ nI 10 by decide)]
  have e' : ∀ (j : Nat) (v : Int32) (h' : Hp), gi (si h' 6 j v) 1 1 = gi h' 1 1 := fun j v h' => gi_si_ne (by decide)
  simp only [hb_eq, vb_eq, e', e, tenI0, nI_1, nI_2, nI_4, nI_clamp (show 10 * nc < 2 ^ 31 by omega), nI_clamp (show 10 * nc + 1 < 2 ^ 31 by omega), nI_clamp (show 10 * nc + 2 < 2 ^ 31 by omega), nI_clamp (show 10 * nc + 4 < 2 ^ 31 by omega), ck_true _ (inb_nI (j := 10 * nc) (N := 240) (by omega) (by decide)), ck_true _ (inb_nI (j := 10 * nc + 1) (N := 240) (by omega) (by decide)), ck_true _ (inb_nI (j := 10 * nc + 2) (N := 240) (by omega) (by decide)), ck_true _ (inb_nI (j := 10 * nc + 4) (N := 240) (by omega) (by decide)), gi_si, nI_1, nI_pred]
def z10 (h : Hp) (b : Nat) : Hp := si (si (si (si (si (si (si (si (si (si h 6 (b + 0) 0) 6 (b + 1) 0) 6 (b + 2) 0) 6 (b + 3) 0) 6 (b + 4) 0) 6 (b + 5) 0) 6 (b + 6) 0) 6 (b + 7) 0) 6 (b + 8) 0) 6 (b + 9) 0
def zc (h : Hp) (nc : Nat) (x y z v : Int32) : Hp := si (si (si (si (si (z10 h (10 * nc)) 6 (10 * nc) x) 6 (10 * nc + 1) y) 6 (10 * nc + 2) z) 6 (10 * nc + 4) 1) 1 1 v
theorem M_claim_loop {x y z : Int32} {nc : Nat} {h : Hp} (hn : nc < 24) (e : gi h 1 1 = nI nc) : m_X9_claim_L59 FU x y z 0 h = some (nI nc, zc h nc x y z (nI (nc + 1))) := by
  have e' : ∀ (j : Nat) (v : Int32) (h' : Hp), gi (si h' 6 j v) 1 1 = gi h' 1 1 := fun j v h' => gi_si_ne (by decide)
  show m_X9_claim_L59 (1189 + 1 + 1 + 1 + 1 + 1 + 1 + 1 + 1 + 1 + 1 + 1) x y z (nI 0) h = _
  rw [M_claim_step hn (by decide) e, M_claim_step hn (by decide) (by simp only [e', e]), M_claim_step hn (by decide) (by simp only [e', e]), M_claim_step hn (by decide) (by simp only [e', e]), M_claim_step hn (by decide) (by simp only [e', e]), M_claim_step hn (by decide) (by simp only [e', e]), M_claim_step hn (by decide) (by simp only [e', e]), M_claim_step hn (by decide) (by simp only [e', e]), M_claim_step hn (by decide) (by simp only [e', e]), M_claim_step hn (by decide) (by simp only [e', e]), M_claim_end hn (by simp only [e', e])]
  rfl
def b10 (h : Hp) (a : Nat) (x y z : Int32) : Hp := si (si (si (si (si (si (si (si (si (si h a 0 x) a 1 y) a 2 z) a 3 0) a 4 1) a 5 0) a 6 0) a 7 0) a 8 0) a 9 0
theorem C_begin (a : Nat) (x y z : Int32) (h : Hp) : m_X0_begin a x y z h = some ((), b10 h a x y z) := rfl
def w10 (x y z : Int32) (k : Nat) : Int32 := if k = 0 then x else if k = 1 then y else if k = 2 then z else if k = 4 then 1 else 0
theorem b10_at (h : Hp) (a : Nat) (x y z : Int32) (k : Nat) (hk : k < 10) : gi (b10 h a x y z) a k = w10 x y z k := by
  rcases (show k = 0 ∨ k = 1 ∨ k = 2 ∨ k = 3 ∨ k = 4 ∨ k = 5 ∨ k = 6 ∨ k = 7 ∨ k = 8 ∨ k = 9 by omega) with rfl | rfl | rfl | rfl | rfl | rfl | rfl | rfl | rfl | rfl <;> simp [b10, w10, gi_si_if]
theorem b10_na (h : Hp) (a : Nat) (x y z : Int32) (b : Nat) (hb : b ≠ a) : gi (b10 h a x y z) b = gi h b := by
  simp (disch := omega) only [b10, gi_si_na]
theorem z10_at (h : Hp) (nc : Nat) (x y z : Int32) (v : Int32) (k : Nat) (hk : k < 10) : gi (zc h nc x y z v) 6 (10 * nc + k) = w10 x y z k := by
  rcases (show k = 0 ∨ k = 1 ∨ k = 2 ∨ k = 3 ∨ k = 4 ∨ k = 5 ∨ k = 6 ∨ k = 7 ∨ k = 8 ∨ k = 9 by omega) with rfl | rfl | rfl | rfl | rfl | rfl | rfl | rfl | rfl | rfl <;> simp [zc, z10, w10, gi_si_if]
theorem z10_lo (h : Hp) (nc : Nat) (x y z : Int32) (v : Int32) (j : Nat) (hj : j < 10 * nc) : gi (zc h nc x y z v) 6 j = gi h 6 j := by
  simp (disch := omega) only [zc, z10, gi_si_nk, gi_si_ne]
theorem z10_na (h : Hp) (nc : Nat) (x y z : Int32) (v : Int32) (b : Nat) (hb : b ≠ 6) (hb1 : b ≠ 1) : gi (zc h nc x y z v) b = gi h b := by
  simp (disch := omega) only [zc, z10, gi_si_na]
theorem z10_o (h : Hp) (nc : Nat) (x y z : Int32) (v : Int32) (j : Nat) (hj : j ≠ 1) : gi (zc h nc x y z v) 1 j = gi h 1 j := by
  simp (disch := omega) only [zc, z10, gi_si_na, gi_si_nk]
theorem b_claim (a1 a2 a3 : Int32) : Both (m_X8_claim a1 a2 a3) (m_X9_claim a1 a2 a3) := by
  rintro hC hM ⟨ns, nc, nl, nf, I0⟩
  have I : InvE hC hM := ⟨ns, nc, nl, nf, I0⟩
  have cm := C_manyOf I0 a1
  have mm := M_manyOf I0 a1
  obtain ⟨i1, i2, i3, i4, i5, i6, i7, i8, i9, i10⟩ := I0
  unfold m_X8_claim m_X9_claim
  rcases isSuit_both i1 a1 with ⟨p1, p2⟩ | ⟨s, hs, rfl, p1, p2⟩
  · simp only [p1, p2, cb_some, if_pos]; exact Inv.ok rfl I
  have y1 : ∀ x : Int32, (x < 1 ∨ 99 < x) ∨ ∃ m : Nat, 1 ≤ m ∧ m ≤ 99 ∧ x = nI m ∧ ¬ x < 1 ∧ ¬ 99 < x := by
    intro x
    rcases ix_cases x 100 (by decide) (N := nI 100) (M := 99) rfl rfl with p | ⟨q0, q1, q2, q3, q4⟩ | ⟨j, hj, rfl, q0, q1, q2, q3, q4⟩
    · left; left; rw [Int32.lt_iff_toInt_lt] at *; exact Int.lt_trans p (by decide)
    · left; right; exact q2
    · by_cases h0 : j = 0
      · subst h0; left; left; decide
      · exact Or.inr ⟨j, by omega, by omega, rfl, nI_nlt (a := j) (b := 1) (by omega) (by omega), q2⟩
  rcases y1 a2 with q | ⟨m, hm1, hm2, rfl, q1, q2⟩
  · have : (if a2 < 1 then some ((-2 : Int32), hC) else if 99 < a2 then some ((-2), hC) else if a3 < 0 then some ((-2), hC) else if a3 ≤ 2 then if 24 ≤ (gi hC 1 12) then some ((-4), hC) else cb (m_X8_claimsOfSuit (nI s) hC) fun v9 h10 => if v9 < 6 then ck (inb (gi h10 1 12) 24) (cb (m_X0_begin (96 + 2 * (gi h10 1 12).toNatClampNeg) (nI s) a2 a3 h10) fun _ h14 => hb (si h14 1 12 ((gi h14 1 12) + 1)) fun h15 => some ((gi h15 1 12) - 1, h15)) else some ((-4), h10) else some ((-2), hC)) = some (-2, hC) := by
      rcases q with q | q
      · rw [if_pos q]
      · by_cases q0 : a2 < 1
        · rw [if_pos q0]
        · rw [if_neg q0, if_pos q]
    have m2 : m_X9_in a2 1 99 hM = some (0, hM) := by
      unfold m_X9_in
      rcases q with q | q
      · rw [if_pos q]
      · rw [if_pos q]; split <;> rfl
    simp only [p1, p2, cb_some, show ¬ (1 : Int32) = 0 by decide, if_false, this, m2, if_pos]
    exact Inv.ok rfl I
  have n1 : m_X9_in (nI m) 1 99 hM = some (1, hM) := by unfold m_X9_in; rw [if_neg q1, if_neg q2]
  rcases ix_cases a3 3 (by decide) (N := 3) (M := 2) rfl rfl with r | ⟨r0, r1, r2, r3, r4⟩ | ⟨z, hz, rfl, r0, r1, r2, r3, r4⟩
  · simp [p1, p2, cb_some, q1, q2, n1, r, m_X9_in]; exact Inv.ok rfl I
  · simp [p1, p2, cb_some, q1, q2, n1, r0, r2, r4, m_X9_in]; exact Inv.ok rfl I
  obtain ⟨i11, ⟨e1, e2, e3⟩, i13, i14, i15, i16⟩ := i1
  simp only [p1, p2, cb_some, show ¬ (1 : Int32) = 0 by decide, if_false, q1, q2, n1, r0, r2, r4, if_pos, m_X9_in, e1, e2, cm, mm]
  by_cases h24 : nc = 24
  · subst h24
    simp only [show (24 : Int32) ≤ nI 24 by decide, show nI 24 = (24 : Int32) from rfl, if_pos]
    exact Inv.ok rfl I
  have g1 : ¬ (24 : Int32) ≤ nI nc := nI_ge (a := nc) (b := 24) (by omega) (by decide)
  have g2 : ¬ nI nc = 24 := fun e => h24 ((nI_eq (b := 24) (by omega) (by decide)).mp e)
  simp only [g1, g2, if_false]
  have i42 := i4.2 (nI s)
  by_cases h6 : cntR (gi hM 6) (nI s) nc = 6
  · rw [h6]
    simp only [show ¬ nI 6 < (6 : Int32) by decide, show nI 6 = (6 : Int32) from rfl, if_false, if_pos]
    exact Inv.ok rfl I
  have g3 : nI (cntR (gi hM 6) (nI s) nc) < 6 := nI_lt (b := 6) (by omega) (by decide)
  have g4 : ¬ nI (cntR (gi hM 6) (nI s) nc) = 6 := fun e => h6 ((nI_eq (b := 6) (by omega) (by decide)).mp e)
  simp only [g3, g4, if_false, if_pos, ck_true _ (inb_nI (j := nc) (N := 24) (by omega) (by decide)), nI_clamp (show nc < 2 ^ 31 by omega), C_begin, cb_some, hb_eq, M_claim_loop (show nc < 24 by omega) e2, b10_na hC (96 + 2 * nc) (nI s) (nI m) (nI z) 1 (by omega), e1, gi_si, nI_addsub]
  refine Inv.ok rfl ⟨ns, nc + 1, nl, nf, ⟨?A1, ⟨?A2, ?A3, by omega⟩, ?A4, ?A5⟩, i2.fr ?_ ?_, i3.fr ?_ ?_ ?_ ?_, ?D, i5.fr ?_ ?_ ?_ ?_ ?_ ?_ ?_, i6.fr ?_ ?_, fun l hl => (i7 l hl).fr ?_ ?_ ?_, i8.fr ?_ ?_ ?_ ?_, i9.fr ?_ ?_ ?_ ?_ ?_, i10.fr ?_ ?_⟩
  case A1 => simpa (disch := omega) only [gi_si_nk, b10_na, z10_o] using i11
  case A2 => rw [gi_si, nI_1]
  case A3 => rw [zc, gi_si]
  case A4 => simpa (disch := omega) only [gi_si_nk, b10_na, z10_o] using i13
  case A5 => simpa (disch := omega) only [gi_si_na, gi_si_nk, b10_na, z10_o] using ⟨i14, i15, i16⟩
  case D =>
    refine ⟨fun c hc => ?_, fun x => ?_⟩
    · by_cases hcn : c = nc
      · subst hcn
        refine ⟨fun k hk => ?_, ⟨s, hs, ?_⟩, 0, m, 0, ?_, ?_, ?_, by omega, hm1, hm2, by omega⟩
        · rw [gi_si_ne (by omega), b10_at _ _ _ _ _ _ hk, z10_at _ _ _ _ _ _ _ hk]
        · show gi _ 6 (10 * c + 0) = _
          rw [z10_at _ _ _ _ _ _ _ (by decide)]; rfl
        · show gi _ 6 (10 * c + 3) = _
          rw [z10_at _ _ _ _ _ _ _ (by decide)]; rfl
        · show gi _ 6 (10 * c + 1) = _
          rw [z10_at _ _ _ _ _ _ _ (by decide)]; rfl
        · show gi _ 6 (10 * c + 9) = _
          rw [z10_at _ _ _ _ _ _ _ (by decide)]; rfl
      · have hc' : c < nc := by omega
        have hh := i4.1 c hc'
        refine ⟨fun k hk => ?_, ?_⟩
        · rw [gi_si_ne (by omega), b10_na _ _ _ _ _ _ (by omega), z10_lo _ _ _ _ _ _ _ (by omega)]
          exact hh.1 k hk
        · have e : ∀ k, k < 10 → gi (zc hM nc (nI s) (nI m) (nI z) (nI (nc + 1))) 6 (10 * c + k) = gi hM 6 (10 * c + k) := fun k hk => z10_lo _ _ _ _ _ _ _ (by omega)
          unfold RowOK
          simp only [e 0 (by decide), e 3 (by decide), e 1 (by decide), e 9 (by decide)]
          exact hh.2
    · rw [cntR, cntR_congr (g := gi hM 6) nc (fun c hc => z10_lo _ _ _ _ _ _ _ (by omega)), show gi (zc hM nc (nI s) (nI m) (nI z) (nI (nc + 1))) 6 (10 * nc) = _ from z10_at hM nc (nI s) (nI m) (nI z) (nI (nc + 1)) 0 (by decide)]
      show _ + (if nI s = x then 1 else 0) ≤ 6
      have := i4.2 x
      split
      · rename_i hx; subst hx; omega
      · omega
  all_goals first | rfl | (intros; rfl) | (intros; simp (disch := omega) only [gi_si_na, b10_na, z10_na]; done) | (simp (disch := omega) only [gi_si_na, gi_si_ne, gi_si_nk, b10_na, z10_na, z10_o]; done)
