theorem Inv.setRow {ns nc nl nf : Nat} {hC hM : Hp} (I : Inv ns nc nl nf hC hM) {c k : Nat} (hc : c < nc) (hk : k < 10) (hk0 : k ≠ 0) (v : Int32) (ok : RowOK ns (fun j => if j = k then v else gi hM 6 (10 * c + j))) : Inv ns nc nl nf (si hC (96 + 2 * c) k v) (si hM 6 (10 * c + k) v) := by
  obtain ⟨i1, i2, i3, i4, i5, i6, i7, i8, i9, i10⟩ := I
  have n5 := i1.1.2.2
  have n24 := i1.2.1.2.2
  have n6 := i1.2.2.1.2.2
  refine ⟨i1.fr ?_ ?_ ?_ ?_ ?_ ?_ ?_ ?_, i2.fr ?_ ?_, i3.fr ?_ ?_ ?_ ?_, ?D, i5.fr ?_ ?_ ?_ ?_ ?_ ?_ ?_, i6.fr ?_ ?_, fun l hl => (i7 l hl).fr ?_ ?_ ?_, i8.fr ?_ ?_ ?_ ?_, i9.fr ?_ ?_ ?_ ?_ ?_, i10.fr ?_ ?_⟩
  case D =>
    refine ⟨fun d hd => ?_, fun x => ?_⟩
    · have hh := i4.1 d hd
      by_cases hdc : d = c
      · subst hdc
        refine ⟨fun j hj => ?_, ?_⟩
        · by_cases hjk : j = k
          · subst hjk; rw [gi_si, gi_si]
          · rw [gi_si_nk hjk, gi_si_nk (by omega)]; exact hh.1 j hj
        · have e : (fun j => gi (si hM 6 (10 * d + k) v) 6 (10 * d + j)) = fun j => if j = k then v else gi hM 6 (10 * d + j) := by
            funext j
            rw [gi_si_if]
            by_cases hjk : j = k
            · simp [hjk]
            · rw [if_neg (by omega), if_neg hjk]
          rw [e]; exact ok
      · refine ⟨fun j hj => ?_, ?_⟩
        · rw [gi_si_ne (by omega), gi_si_nk (by omega)]; exact hh.1 j hj
        · have e : ∀ j, j < 10 → gi (si hM 6 (10 * c + k) v) 6 (10 * d + j) = gi hM 6 (10 * d + j) := fun j hj => gi_si_nk (by omega)
          unfold RowOK
          simp only [e 0 (by decide), e 3 (by decide), e 1 (by decide), e 9 (by decide)]
          exact hh.2
    · rw [cntR_congr (g := gi hM 6) nc (fun c hc => gi_si_nk (by omega))]
      exact i4.2 x
  all_goals first | rfl | (intros; rfl) | (intros; simp (disch := omega) only [gi_si_na]; done) | (simp (disch := omega) only [gi_si_na, gi_si_ne, gi_si_nk]; done)
theorem M_becomes {c k : Nat} (hc : c < 24) (hk : k < 10) {K : Int32} (hK : K = nI k) (v : Int32) (h : Hp) : m_X9_becomes (nI c) K v h = some (gi h 6 (10 * c + k), si h 6 (10 * c + k) v) := by
  unfold m_X9_becomes
  rw [tenI c k hK, ck_true _ (inb_nI (by omega) (by decide)), nI_clamp (by omega)]
  rfl
theorem EqM.comm {h : Hp} {a k j : Nat} (v w : Int32) (q : k ≠ j) : EqM (si (si h a k v) a j w) (si (si h a j w) a k v) := by
  refine ⟨fun b i _ _ => ?_, fun _ => rfl⟩
  simp only [gi_si_if]
  by_cases h1 : b = a ∧ i = k
  · rw [if_pos h1, if_neg (by omega), if_pos h1]
  · rw [if_neg h1, if_neg h1]
theorem b_answer (a1 a2 a3 : Int32) : Both (m_X8_answer a1 a2 a3) (m_X9_answer a1 a2 a3) := by
  rintro hC hM ⟨ns, nc, nl, nf, I0⟩
  have I : InvE hC hM := ⟨ns, nc, nl, nf, I0⟩
  have i1 := I0.1
  have n24 := i1.2.1.2.2
  have i4 := I0.2.2.2.1
  unfold m_X8_answer m_X9_answer
  rcases isClaim_both i1 a1 with ⟨p1, p2⟩ | ⟨c, hc, rfl, p1, p2⟩
  · simp only [p1, p2, cb_some, if_pos]; exact Inv.ok rfl I
  obtain ⟨⟨s, hs, r0⟩, a, n, w, r3, r1, r9, z1, z2, z3, z4⟩ := (i4.1 c hc).2
  have e1 : gi hC (96 + 2 * c) 1 = nI n := ((i4.1 c hc).1 1 (by decide)).trans r1
  have e3 := (i4.1 c hc).1 3 (by decide)
  simp only [p1, p2, cb_some, show ¬ (1 : Int32) = 0 by decide, if_false, ck_true _ (inb_nI (show c < 24 by omega) (by decide)), nI_clamp (show c < 2 ^ 31 by omega), M_g1 (show c < 24 by omega), e1, r1]
  rcases ix_cases a2 (n + 1) (by omega) (N := nI (n + 1)) (M := nI n) rfl (by rw [nI_toInt (by omega)]; omega) with q | ⟨q0, q1, q2, q3, q4⟩ | ⟨m, hm, rfl, q0, q1, q2, q3, q4⟩
  · simp only [m_X9_in, q, if_pos, cb_some]; exact Inv.ok rfl I
  · simp only [m_X9_in, q0, q2, q4, if_pos, if_false, cb_some]; exact Inv.ok rfl I
  have r1' : gi hM 6 (10 * c + 1) = nI n := r1
  simp only [m_X9_in, q0, r1', q2, q4, if_pos, if_false, cb_some, vb_eq, hb_eq, show ¬ (1 : Int32) = 0 by decide, m_X8_answer_L58, m_X9_answer_L47, tenI c 4 (K := 4) rfl, ck_true _ (inb_nI (show 10 * c + 4 < 240 by omega) (by decide)), nI_clamp (show 10 * c + 4 < 2 ^ 31 by omega), M_becomes (show c < 24 by omega) (show 3 < 10 by decide) (K := 3) rfl, gi_si_nk (show 10 * c + 3 ≠ 10 * c + 4 by omega)]
  have J : ∀ v, Inv ns nc nl nf (si (si hC (96 + 2 * c) 3 (nI m)) (96 + 2 * c) 4 v) (si (si hM 6 (10 * c + 3) (nI m)) 6 (10 * c + 4) v) := by
    intro v
    have J1 := I0.setRow hc (show 3 < 10 by decide) (by decide) (nI m) ⟨⟨s, hs, r0⟩, m, n, w, rfl, r1, r9, by omega, z2, z3, z4⟩
    refine J1.setRow hc (show 4 < 10 by decide) (by decide) v ⟨⟨s, hs, ?_⟩, m, n, w, ?_, ?_, ?_, by omega, z2, z3, z4⟩
    · show gi _ 6 (10 * c + 0) = _
      rw [gi_si_nk (by omega)]; exact r0
    · show gi _ 6 (10 * c + 3) = _
      rw [gi_si]
    · show gi _ 6 (10 * c + 1) = _
      rw [gi_si_nk (by omega)]; exact r1
    · show gi _ 6 (10 * c + 9) = _
      rw [gi_si_nk (by omega)]; exact r9
  have J2 : ∀ v, InvE (si (si hC (96 + 2 * c) 3 (nI m)) (96 + 2 * c) 4 v) (si (si hM 6 (10 * c + 4) v) 6 (10 * c + 3) (nI m)) := fun v => ⟨ns, nc, nl, nf, (J v).eq (EqC.rfl' _) (EqM.comm _ _ (by omega))⟩
  by_cases h3 : a3 = 0
  · simp only [h3, if_pos]
    exact Inv.ok e3 (J2 0)
  · simp only [h3, if_false]
    exact Inv.ok e3 (J2 1)
theorem C_told {a k : Nat} (hk : k < 10) {K : Int32} (hK : K = nI k) (h : Hp) : m_X0_told a K h = some (gi h a k, h) := by
  subst hK
  rcases (show k = 0 ∨ k = 1 ∨ k = 2 ∨ k = 3 ∨ k = 4 ∨ k = 5 ∨ k = 6 ∨ k = 7 ∨ k = 8 ∨ k = 9 by omega) with rfl | rfl | rfl | rfl | rfl | rfl | rfl | rfl | rfl | rfl <;> rfl
theorem b_truth (a1 a2 : Int32) : Both (m_X8_truth a1 a2) (m_X9_truth a1 a2) := by
  rintro hC hM ⟨ns, nc, nl, nf, I0⟩
  have I : InvE hC hM := ⟨ns, nc, nl, nf, I0⟩
  have i1 := I0.1
  have n24 := i1.2.1.2.2
  have i4 := I0.2.2.2.1
  unfold m_X8_truth m_X9_truth
  rcases isClaim_both i1 a1 with ⟨p1, p2⟩ | ⟨c, hc, rfl, p1, p2⟩
  · simp only [p1, p2, cb_some, if_pos]; exact Inv.ok rfl I
  obtain ⟨⟨s, hs, r0⟩, a, n, w, r3, r1, r9, z1, z2, z3, z4⟩ := (i4.1 c hc).2
  have e9 := (i4.1 c hc).1 9 (by decide)
  simp only [p1, p2, cb_some, show ¬ (1 : Int32) = 0 by decide, if_false]
  rcases ix_cases a2 100 (by decide) (N := nI 100) (M := 99) rfl rfl with q | ⟨q0, q1, q2, q3, q4⟩ | ⟨m, hm, rfl, q0, q1, q2, q3, q4⟩
  · simp only [m_X9_in, q, if_pos, cb_some]; exact Inv.ok rfl I
  · simp only [m_X9_in, q0, q2, q4, if_pos, if_false, cb_some]; exact Inv.ok rfl I
  simp only [m_X9_in, q0, q2, q4, if_pos, if_false, cb_some, vb_eq, hb_eq, show ¬ (1 : Int32) = 0 by decide, ck_true _ (inb_nI (show c < 24 by omega) (by decide)), nI_clamp (show c < 2 ^ 31 by omega), M_becomes (show c < 24 by omega) (show 9 < 10 by decide) (K := 9) rfl]
  exact Inv.ok e9 ⟨ns, nc, nl, nf, I0.setRow hc (show 9 < 10 by decide) (by decide) (nI m) ⟨⟨s, hs, r0⟩, a, n, m, r3, r1, rfl, z1, z2, z3, by omega⟩⟩
theorem b_of (a1 a2 : Int32) : Both (m_X8_of a1 a2) (m_X9_of a1 a2) := by
  rintro hC hM ⟨ns, nc, nl, nf, I0⟩
  have I : InvE hC hM := ⟨ns, nc, nl, nf, I0⟩
  have i1 := I0.1
  have n24 := i1.2.1.2.2
  have i4 := I0.2.2.2.1
  unfold m_X8_of m_X9_of
  rcases isClaim_both i1 a1 with ⟨p1, p2⟩ | ⟨c, hc, rfl, p1, p2⟩
  · simp only [p1, p2, cb_some, if_pos]; exact Inv.ok rfl I
  simp only [p1, p2, cb_some, show ¬ (1 : Int32) = 0 by decide, if_false, ck_true _ (inb_nI (show c < 24 by omega) (by decide)), nI_clamp (show c < 2 ^ 31 by omega)]
  rcases ix_cases a2 10 (by decide) (N := nI 10) (M := 9) rfl rfl with q | ⟨q0, q1, q2, q3, q4⟩ | ⟨k, hk, rfl, q0, q1, q2, q3, q4⟩
  · have : m_X0_told (96 + 2 * c) a2 hC = some (-1, hC) := by
      unfold m_X0_told
      have : ∀ j, j < 10 → ¬ a2 = nI j := fun j hj e => nI_pos (n := j) (by omega) (e ▸ q)
      simp only [show ¬ a2 = 0 from this 0 (by decide), show ¬ a2 = 1 from this 1 (by decide), show ¬ a2 = 2 from this 2 (by decide), show ¬ a2 = 3 from this 3 (by decide), show ¬ a2 = 4 from this 4 (by decide), show ¬ a2 = 5 from this 5 (by decide), show ¬ a2 = 6 from this 6 (by decide), show ¬ a2 = 7 from this 7 (by decide), show ¬ a2 = 8 from this 8 (by decide), show ¬ a2 = 9 from this 9 (by decide), if_false]
    simp only [m_X9_in, q, if_pos, cb_some, this]; exact Inv.ok rfl I
  · have : m_X0_told (96 + 2 * c) a2 hC = some (-1, hC) := by
      unfold m_X0_told
      have : ∀ j, j < 10 → ¬ a2 = nI j := fun j hj e => nI_ge (a := j) (b := 10) hj (by decide) (e ▸ q1)
      simp only [show ¬ a2 = 0 from this 0 (by decide), show ¬ a2 = 1 from this 1 (by decide), show ¬ a2 = 2 from this 2 (by decide), show ¬ a2 = 3 from this 3 (by decide), show ¬ a2 = 4 from this 4 (by decide), show ¬ a2 = 5 from this 5 (by decide), show ¬ a2 = 6 from this 6 (by decide), show ¬ a2 = 7 from this 7 (by decide), show ¬ a2 = 8 from this 8 (by decide), show ¬ a2 = 9 from this 9 (by decide), if_false]
    simp only [m_X9_in, q0, q2, if_pos, if_false, cb_some, this]; exact Inv.ok rfl I
  · simp only [m_X9_in, q0, q2, if_false, cb_some, C_told hk rfl, M_get (show c < 24 by omega) hk rfl, show ¬ (1 : Int32) = 0 by decide]
    exact Inv.ok ((i4.1 c hc).1 k hk) I
theorem b_proof (a1 a2 a3 : Int32) : Both (m_X8_proof a1 a2 a3) (m_X9_proof a1 a2 a3) := by
  rintro hC hM ⟨ns, nc, nl, nf, I0⟩
  have I : InvE hC hM := ⟨ns, nc, nl, nf, I0⟩
  have i1 := I0.1
  have n24 := i1.2.1.2.2
  have i4 := I0.2.2.2.1
  unfold m_X8_proof m_X9_proof
  rcases isClaim_both i1 a1 with ⟨p1, p2⟩ | ⟨c, hc, rfl, p1, p2⟩
  · simp only [p1, p2, cb_some, if_pos]; exact Inv.ok rfl I
  obtain ⟨⟨s, hs, r0⟩, a, n, w, r3, r1, r9, z1, z2, z3, z4⟩ := (i4.1 c hc).2
  simp only [p1, p2, cb_some, show ¬ (1 : Int32) = 0 by decide, if_false]
  rcases ix_cases a2 4 (by decide) (N := nI 4) (M := 3) rfl rfl with q | ⟨q0, q1, q2, q3, q4⟩ | ⟨m, hm, rfl, q0, q1, q2, q3, q4⟩
  · simp only [m_X9_in, q, if_pos, cb_some]; exact Inv.ok rfl I
  · simp only [m_X9_in, q0, q2, q4, if_pos, if_false, cb_some]; exact Inv.ok rfl I
  simp only [show m_X9_in (nI m) 0 3 hM = some (1, hM) by simp only [m_X9_in, q0, q2, if_false], q0, q2, q4, if_pos, if_false, cb_some, show ¬ (1 : Int32) = 0 by decide]
  have key : ∀ (N : Nat) (t0 : Int32), N < 100 → t0.toInt = ((N + 1 : Nat) : Int) - 1 → Ok (m_X8_proof_L28 (nI c) (nI m) a3 t0 hC) fun v hC' => Ok (m_X9_proof_L32 (nI c) (nI m) a3 t0 0 a3 hM) fun w hM' => v = w ∧ InvE hC' hM' := by
    intro N t0 hN ht
    unfold m_X8_proof_L28 m_X9_proof_L32
    rcases ix_cases a3 (N + 1) (by omega) (N := nI (N + 1)) (M := t0) rfl ht with q | ⟨q0, q1, q2, q3, q4⟩ | ⟨v, hv, rfl, q0, q1, q2, q3, q4⟩
    · simp only [m_X9_in, q, if_pos, cb_some]; exact Inv.ok rfl I
    · simp only [m_X9_in, q0, q2, q4, if_pos, if_false, cb_some]; exact Inv.ok rfl I
    have J : ∀ k, k < 4 → InvE (si hC (96 + 2 * c) (5 + k) (nI v)) (si hM 6 (10 * c + (5 + k)) (nI v)) := fun k hk => ⟨ns, nc, nl, nf, I0.setRow hc (by omega) (by omega) (nI v) ⟨⟨s, hs, by
      show (if 0 = 5 + k then _ else _) = _
      rw [if_neg (by omega)]; exact r0⟩, a, n, w, by
      show (if 3 = 5 + k then _ else _) = _
      rw [if_neg (by omega)]; exact r3, by
      show (if 1 = 5 + k then _ else _) = _
      rw [if_neg (by omega)]; exact r1, by
      show (if 9 = 5 + k then _ else _) = _
      rw [if_neg (by omega)]; exact r9, z1, z2, z3, z4⟩⟩
    have e5 : (5 : Int32) + nI m = nI (5 + m) := nI_add 5 m
    simp only [m_X9_in, q0, q2, q4, if_pos, if_false, cb_some, show ¬ (1 : Int32) = 0 by decide, ck_true _ (inb_nI (show c < 24 by omega) (by decide)), nI_clamp (show c < 2 ^ 31 by omega), m_X0_prove, M_becomes (show c < 24 by omega) (show 5 + m < 10 by omega) e5, C_told (show 5 + m < 10 by omega) e5]
    have em := (i4.1 c hc).1 (5 + m) (by omega)
    rcases (show m = 0 ∨ m = 1 ∨ m = 2 ∨ m = 3 by omega) with rfl | rfl | rfl | rfl
    · exact Inv.ok em (J 0 (by decide))
    · exact Inv.ok em (J 1 (by decide))
    · exact Inv.ok em (J 2 (by decide))
    · exact Inv.ok em (J 3 (by decide))
  by_cases hm0 : nI m = 0
  · simp only [hm0, if_pos] at key ⊢; exact key 3 3 (by decide) rfl
  · simp only [hm0, if_false]; exact key 1 1 (by decide) rfl
theorem b_count (a1 : Int32) : Both (m_X8_count a1) (m_X9_count a1) := by
  rintro hC hM ⟨ns, nc, nl, nf, I0⟩
  have I : InvE hC hM := ⟨ns, nc, nl, nf, I0⟩
  obtain ⟨⟨i1, i2, i3, i4⟩, -, -, -, -, -, -, i8, -⟩ := I0
  unfold m_X8_count m_X9_count
  by_cases h0 : a1 = 0
  · simp only [h0, if_pos]; exact Inv.ok (i1.1.trans i1.2.1.symm) I
  by_cases h1 : a1 = 1
  · simp only [h0, h1, if_pos, if_false]; exact Inv.ok (i2.1.trans i2.2.1.symm) I
  by_cases h2 : a1 = 2
  · simp only [h0, h1, h2, if_pos, if_false]; exact Inv.ok (i3.1.trans i3.2.1.symm) I
  by_cases h3 : a1 = 3
  · simp only [h0, h1, h2, h3, if_pos, if_false]; exact Inv.ok (i4.1.trans i4.2.1.symm) I
  by_cases h4 : a1 = 4
  · simp only [h0, h1, h2, h3, h4, if_pos, if_false]; exact Inv.ok i8.1 I
  · simp only [h0, h1, h2, h3, h4, if_false]; exact Inv.ok rfl I
theorem b_trace (a1 : Int32) : Both (m_X8_trace a1) (m_X9_trace a1) := by
  rintro hC hM ⟨ns, nc, nl, nf, I0⟩
  have I : InvE hC hM := ⟨ns, nc, nl, nf, I0⟩
  obtain ⟨d1, d2⟩ := I0.2.2.2.2.2.2.2.1
  unfold m_X8_trace m_X1_bodyAt m_X9_trace
  rw [d1]
  rcases ix_cases a1 20 (by decide) (N := 20) (M := 19) rfl rfl with q | ⟨q0, q1, q2, q3, q4⟩ | ⟨k, hk, rfl, q0, q1, q2, q3, q4⟩
  · simp only [m_X9_in, q, if_pos, cb_some]; exact Inv.ok rfl I
  · simp only [m_X9_in, q0, q1, q2, if_pos, if_false, cb_some]
    have : (if gi hM 1 37 ≤ a1 then some ((-1 : Int32), hC) else some (-1, hC)) = some (-1, hC) := by split <;> rfl
    rw [this]; exact Inv.ok rfl I
  · simp only [m_X9_in, q0, q1, q2, if_false, cb_some, show ¬ (1 : Int32) = 0 by decide]
    by_cases hr : gi hM 1 37 ≤ nI k
    · simp only [hr, if_pos, cb_some]; exact Inv.ok rfl I
    · simp only [hr, if_false, ck_true _ (inb_nI hk (by decide)), cb_some, nI_clamp (show k < 2 ^ 31 by omega)]
      exact Inv.ok (d2 k hk) I
theorem cases7 : ∀ j, j < 7 → j = 0 ∨ j = 1 ∨ j = 2 ∨ j = 3 ∨ j = 4 ∨ j = 5 ∨ j = 6 := fun j h => by omega
def tkv (k j : Nat) : Int32 := if j = 0 ∨ k = j ∨ (j = 1 ∧ k = 2) ∨ (j = 3 ∧ k = 4) then nI k else -12
theorem C_taken (n j k : Nat) (hj : j < 7) (hk : k < 7) (h : Hp) : m_X8_taken_L25 (n + 8) (nI k) (nI j) (nI k) 0 h = some (tkv k j, h) := by
  rcases cases7 j hj with rfl | rfl | rfl | rfl | rfl | rfl | rfl <;> rcases cases7 k hk with rfl | rfl | rfl | rfl | rfl | rfl | rfl <;> rfl
theorem M_taken (j k : Nat) (hj : j < 7) (hk : k < 7) (h : Hp) : (if nI j = 0 then some (nI k, h) else if nI k = nI j then some (nI k, h) else if nI j = 1 then if nI k = 2 then some (nI k, h) else m_X9_taken_L47 (nI k) (nI j) h else m_X9_taken_L47 (nI k) (nI j) h) = some (tkv k j, h) := by
  rcases cases7 j hj with rfl | rfl | rfl | rfl | rfl | rfl | rfl <;> rcases cases7 k hk with rfl | rfl | rfl | rfl | rfl | rfl | rfl <;> rfl
theorem isKind_both (hC hM : Hp) (a : Int32) : (m_X8_isKind a hC = some (0, hC) ∧ m_X9_in a 0 6 hM = some (0, hM)) ∨ ∃ k, k < 7 ∧ a = nI k ∧ m_X8_isKind a hC = some (1, hC) ∧ m_X9_in a 0 6 hM = some (1, hM) := by
  rcases ix_cases a 7 (by decide) (N := 7) (M := 6) rfl rfl with q | ⟨q0, q1, q2, q3, q4⟩ | ⟨k, hk, rfl, q0, q1, q2, q3, q4⟩
  · exact Or.inl ⟨by simp only [m_X8_isKind, q, if_pos], by simp only [m_X9_in, q, if_pos]⟩
  · exact Or.inl ⟨by simp only [m_X8_isKind, q0, q1, if_pos, if_false], by simp only [m_X9_in, q0, q2, if_pos, if_false]⟩
  · exact Or.inr ⟨k, hk, rfl, by simp only [m_X8_isKind, q0, q1, if_false], by simp only [m_X9_in, q0, q2, if_false]⟩
theorem C_taken' {n : Nat} (hn : 8 ≤ n) (j k : Nat) (hj : j < 7) (hk : k < 7) (h : Hp) : m_X8_taken_L25 n (nI k) (nI j) (nI k) 0 h = some (tkv k j, h) := by
  obtain ⟨m, rfl⟩ := Nat.exists_eq_add_of_le' hn
  exact C_taken m j k hj hk h
theorem b_taken (a1 a2 : Int32) : Both (m_X8_taken a1 a2) (m_X9_taken a1 a2) := by
  intro hC hM I
  unfold m_X8_taken m_X9_taken
  rcases isKind_both hC hM a2 with ⟨p1, p2⟩ | ⟨j, hj, rfl, p1, p2⟩
  · simp only [p1, p2, cb_some, if00]; exact Inv.ok rfl I
  rcases isKind_both hC hM a1 with ⟨q1, q2⟩ | ⟨k, hk2, rfl, q1, q2⟩
  · simp only [p1, p2, q1, q2, cb_some, if00, if10]; exact Inv.ok rfl I
  simp only [p1, p2, q1, q2, cb_some, if10]
  rw [C_taken' (FU_8 (k := 8) (by decide)) j k hj hk2 hC, M_taken j k hj hk2]
  exact Inv.ok rfl I
