/-! ===== pure: wise, ways ===== -/
def wiR (T : Nat → Int64) : Nat → Nat → Nat → Int64 → Nat
  | 0, _, b, _ => b
  | n + 1, v, b, t => if t < T v then wiR T n (v + 1) v (T v) else wiR T n (v + 1) b t
def wyR (D : Nat → Bool) : Nat → Nat → Int32
  | 0, _ => -5
  | n + 1, v => if D v = true then nI v else wyR D n (v + 1)
theorem row_info {ns nc nl nf c : Nat} {hC hM : Hp} (I : Inv ns nc nl nf hC hM) (hc : c < nc) : ∃ adm n : Nat, adm ≤ n ∧ 1 ≤ n ∧ n ≤ 99 ∧ gi hM 6 (10 * c + 1) = nI n ∧ gi hM 6 (10 * c + 3) = nI adm ∧ ∀ k, k < 10 → gi hC (96 + 2 * c) k = rowS hM c k := by
  obtain ⟨e, -, a, n, w, r3, r1, r9, z1, z2, z3, z4⟩ := I.2.2.2.1.1 c hc
  exact ⟨a, n, z1, z2, z3, r1, r3, e⟩
theorem b_wise (a1 : Int32) : Both (m_X8_wise a1) (m_X9_wise a1) := by
  rintro hC hM ⟨ns, nc, nl, nf, I0⟩
  have I : InvE hC hM := ⟨ns, nc, nl, nf, I0⟩
  have G := I0.gm
  have n24 := G.1.2
  unfold m_X8_wise m_X9_wise
  rcases isClaim_both I0.1 a1 with ⟨p1, p2⟩ | ⟨c, hc, rfl, p1, p2⟩
  · simp only [p1, p2, cb_some, if00]; exact Inv.ok rfl I
  obtain ⟨s, l, hs, hl, s5, l6, c24, e1, e2, e3, e4, hm⟩ := claim_info I0 hc
  obtain ⟨adm, n, z1, z2, z3, r1, r3, hrow⟩ := row_info I0 hc
  obtain ⟨h', qd, qp, p, R, Br, F⟩ := C_hear (B := 11) I0 (Or.inl rfl) hs hl
  have C0 := R.2.2.2.2.2.2.1
  obtain ⟨e10, hL⟩ := R.len
  have len : ∀ v, LsS (xSm hM c adm v) (nI s) = LsS hM (nI s) := fun v => (cls_xSm c adm v C0).1.symm
  have TlN : ∀ v, 1 ≤ v → v ≤ 99 → ∃ m : Nat, m ≤ 12000000 ∧ sumL (truF (xSm hM c adm v) l) 0 (LsS hM (nI s)) = lN m := fun v v1 v2 => by
    have := tru_lN (x := nI s) (goM_xSm (adm := adm) G hc v1 v2) hl (by rw [len]; exact hL)
    rwa [len] at this
  have loopC : ∀ rem v b t m g1 h, v + rem = 100 → rem < m → 1 ≤ v → Hrd 11 l (nI s) qd qp g1 (LsS hM (nI s)) (saO 11) h → (g1 = hM ∨ ∃ w, g1 = xSm hM c adm w) → FrB 11 hC h → ∃ h', m_X8_wise_L48 m (nI c) (nI b) t (nI v) h = some (nI (wiR (fun v => sumL (truF (xSm hM c adm v) l) 0 (LsS hM (nI s))) rem v b t), h') ∧ FrB 11 hC h' := by
    intro rem
    induction rem with
    | zero =>
      intro v b t m g1 h h1 h2 v1 R hg F
      obtain ⟨m, rfl⟩ := Nat.exists_eq_succ_of_ne_zero (by omega : m ≠ 0)
      unfold m_X8_wise_L48
      rw [if_pos (show (99 : Int32) < nI v from nI_lt (a := 99) (b := v) (by omega) (by omega))]
      exact ⟨h, rfl, F⟩
    | succ rem ih =>
      intro v b t m g1 h h1 h2 v1 R hg F
      obtain ⟨m, rfl⟩ := Nat.exists_eq_succ_of_ne_zero (by omega : m ≠ 0)
      obtain ⟨k1, p1, R1, F1⟩ := C_sum (v := v) R hg C0 hm (LS_nodup _ _) (LS_lt G) (by omega) (by omega) (fun k hk => by rw [(F _ (by omega)).1]; exact hrow k hk) r3
      unfold m_X8_wise_L48
      have n99 : ¬ (99 : Int32) < nI v := by
        rw [Int32.lt_iff_toInt_lt, nI_toInt (by omega)]
        have : (99 : Int32).toInt = 99 := rfl
        omega
      rw [if_neg n99, ck_true _ (inb_nI c24 (by decide)), nI_clamp (by omega), p1, cb_some, C_truth R1, cb_some]
      unfold wiR
      simp only [vb_eq, nI_1]
      by_cases hlt : t < sumL (truF (xSm hM c adm v) l) 0 (LsS hM (nI s))
      · rw [if_neg (fun q => by rw [Int64.le_iff_toInt_le] at q; rw [Int64.lt_iff_toInt_lt] at hlt; omega), if_pos hlt]
        exact ih (v + 1) v _ m _ k1 (by omega) (by omega) (by omega) R1 (Or.inr ⟨v, rfl⟩) (F.trans F1)
      · rw [if_pos (by rw [Int64.le_iff_toInt_le]; rw [Int64.lt_iff_toInt_lt] at hlt; omega), if_neg hlt]
        exact ih (v + 1) b t m _ k1 (by omega) (by omega) (by omega) R1 (Or.inr ⟨v, rfl⟩) (F.trans F1)
  have one : ∀ (v : Nat) (z : Int32) (h : Hp), 1 ≤ v → v ≤ 99 → EqK z (xSm hM c adm v) h → ∃ h' z', (cb (m_X9_lawFor (nI c) h) fun v6 h7 => cb (m_X9_get (nI c) 0 h7) fun v8 h9 => m_X9_trulyPaid v6 v8 h9) = some (sumL (truF (xSm hM c adm v) l) 0 (LsS hM (nI s)), h') ∧ EqK z' (xSm hM c adm v) h' := by
    intro v z h v1 v2 e
    have x0 : gi h 6 (10 * c) = nI s := by
      rw [e.i _ (by decide) (by decide)]
      exact (xSm_k (k := 0) (by decide) (Or.inr ⟨by decide, by decide⟩)).trans e2
    have x5 : gi h 5 s = nI l := by
      rw [e.i _ (by decide) (by decide), xSm_o _ _ _ _ _ (by decide)]; exact e4
    rw [M_lawFor c24 s5 x0 x5, cb_some, M_g0 c24, cb_some, Nat.add_zero, x0]
    have := M_truth (x := nI s) (goM_xSm (adm := adm) G hc v1 v2) hl e
    rwa [len] at this
  have loopM : ∀ rem v b t m z h, v + rem = 100 → rem < m → 1 ≤ v → 1 ≤ b → b ≤ 99 → (∃ w, EqK z (xSm hM c adm w) h) → ∃ h' z', m_X9_wise_L33 m (nI c) (nI n) (nI adm) (nI b) t (nI v) h = some (nI (wiR (fun v => sumL (truF (xSm hM c adm v) l) 0 (LsS hM (nI s))) rem v b t), h') ∧ EqK z' (xSm hM c adm n) h' := by
    intro rem
    induction rem with
    | zero =>
      rintro v b t m z h h1 h2 v1 b1 b2 ⟨w, e⟩
      obtain ⟨m, rfl⟩ := Nat.exists_eq_succ_of_ne_zero (by omega : m ≠ 0)
      unfold m_X9_wise_L33
      rw [if_pos (show (100 : Int32) ≤ nI v from nI_le (a := 100) (b := v) (by omega) (by omega)), M_sums c24 z3 (by omega), cb_some]
      exact ⟨_, z, rfl, eqK_xSm n e⟩
    | succ rem ih =>
      rintro v b t m z h h1 h2 v1 b1 b2 ⟨w, e⟩
      obtain ⟨m, rfl⟩ := Nat.exists_eq_succ_of_ne_zero (by omega : m ≠ 0)
      obtain ⟨k1, z1', q1, e1'⟩ := one v z _ v1 (by omega) (eqK_xSm v e)
      unfold m_X9_wise_L33 m_X9_wise_L81
      rw [if_neg (show ¬ (100 : Int32) ≤ nI v from nI_ge (a := v) (b := 100) (by omega) (by decide)), M_sums c24 (by omega) (by omega), cb_some]
      have q2 : ∀ K : Int64 → Hp → Option (Int32 × Hp), (cb (m_X9_lawFor (nI c) (xSm h c adm v)) fun v6 h7 => cb (m_X9_get (nI c) 0 h7) fun v8 h9 => cb (m_X9_trulyPaid v6 v8 h9) K) = cb (cb (m_X9_lawFor (nI c) (xSm h c adm v)) fun v6 h7 => cb (m_X9_get (nI c) 0 h7) fun v8 h9 => m_X9_trulyPaid v6 v8 h9) K := fun K => by
        cases m_X9_lawFor (nI c) (xSm h c adm v) with
        | none => rfl
        | some q =>
          show (cb (m_X9_get (nI c) 0 q.2) fun v8 h9 => cb (m_X9_trulyPaid q.1 v8 h9) K) = cb (cb (m_X9_get (nI c) 0 q.2) fun v8 h9 => m_X9_trulyPaid q.1 v8 h9) K
          cases m_X9_get (nI c) 0 q.2 with
          | none => rfl
          | some q => rfl
      rw [q2, q1, cb_some, if_neg (show ¬ nI b ≤ 0 from nI_ge (b := b) (a := 0) (by omega) (by omega))]
      unfold wiR
      simp only [vb_eq, nI_1]
      by_cases hlt : t < sumL (truF (xSm hM c adm v) l) 0 (LsS hM (nI s))
      · rw [if_pos hlt, if_pos hlt]
        exact ih (v + 1) v _ m _ k1 (by omega) (by omega) (by omega) v1 (by omega) ⟨v, e1'⟩
      · rw [if_neg hlt, if_neg hlt]
        exact ih (v + 1) b t m _ k1 (by omega) (by omega) (by omega) b1 b2 ⟨v, e1'⟩
  obtain ⟨h2, q, F2⟩ := loopC 99 1 1 (-1) FU hM h' rfl (by unfold FU; omega) (Nat.le_refl _) R (Or.inl rfl) F
  obtain ⟨k1, zz, q1, e1'⟩ := one 1 (gi hM 1 28) (xSm hM c adm 1) (by decide) (by decide) (eqK_xSm0 1 (EqK.of (EqM.rfl' hM)))
  obtain ⟨k2, zz', q2, e2'⟩ := loopM 98 2 1 (sumL (truF (xSm hM c adm 1) l) 0 (LsS hM (nI s))) 1199 zz k1 rfl (by decide) (by decide) (by decide) (by decide) ⟨1, e1'⟩
  have T1 : (-1 : Int64) < sumL (truF (xSm hM c adm 1) l) 0 (LsS hM (nI s)) := by
    obtain ⟨m, hm, e⟩ := TlN 1 (by decide) (by decide)
    rw [e, Int64.lt_iff_toInt_lt, pk_lT (by omega)]
    have : (-1 : Int64).toInt = -1 := rfl
    omega
  have ew : wiR (fun v => sumL (truF (xSm hM c adm v) l) 0 (LsS hM (nI s))) 99 1 1 (-1) = wiR (fun v => sumL (truF (xSm hM c adm v) l) 0 (LsS hM (nI s))) 98 2 1 (sumL (truF (xSm hM c adm 1) l) 0 (LsS hM (nI s))) := by
    conv => lhs; unfold wiR
    rw [if_pos T1]
  have Eq2 : EqM hM k2 := EqK.back r1 r3 z1 e2'
  refine fin2 (v := nI (wiR (fun v => sumL (truF (xSm hM c adm v) l) 0 (LsS hM (nI s))) 99 1 1 (-1))) (w := nI (wiR (fun v => sumL (truF (xSm hM c adm v) l) 0 (LsS hM (nI s))) 99 1 1 (-1))) (hC := h2) (hM := k2) ?_ ?_ rfl (I.eq (F2.eqC (Or.inl rfl)) Eq2)
  · rw [p1, cb_some, if10, ck_true _ (inb_nI c24 (by decide)), nI_clamp (by omega), vb_eq, e1, ck_true _ (inb_nI s5 (by decide)), nI_clamp (by omega), Nat.one_mul, e3, p, cb_some]
    exact q
  · rw [p2, cb_some, if10, M_g1 c24, cb_some, M_g3 c24, cb_some, r1, r3, ew]
    show m_X9_wise_L33 (1199 + 1) (nI c) (nI n) (nI adm) 0 0 1 hM = _
    unfold m_X9_wise_L33 m_X9_wise_L81
    rw [if_neg (by decide), show (1 : Int32) = nI 1 from rfl, M_sums c24 (by decide) (by omega), cb_some]
    have q3 : ∀ K : Int64 → Hp → Option (Int32 × Hp), (cb (m_X9_lawFor (nI c) (xSm hM c adm 1)) fun v6 h7 => cb (m_X9_get (nI c) 0 h7) fun v8 h9 => cb (m_X9_trulyPaid v6 v8 h9) K) = cb (cb (m_X9_lawFor (nI c) (xSm hM c adm 1)) fun v6 h7 => cb (m_X9_get (nI c) 0 h7) fun v8 h9 => m_X9_trulyPaid v6 v8 h9) K := fun K => by
      cases m_X9_lawFor (nI c) (xSm hM c adm 1) with
      | none => rfl
      | some q =>
        show (cb (m_X9_get (nI c) 0 q.2) fun v8 h9 => cb (m_X9_trulyPaid q.1 v8 h9) K) = cb (cb (m_X9_get (nI c) 0 q.2) fun v8 h9 => m_X9_trulyPaid q.1 v8 h9) K
        cases m_X9_get (nI c) 0 q.2 with
        | none => rfl
        | some q => rfl
    rw [q3, q1, cb_some, if_pos (by decide), vb_eq]
    exact q2
theorem b_ways (a1 a2 a3 : Int32) : Both (m_X8_ways a1 a2 a3) (m_X9_ways a1 a2 a3) := by
  rintro hC hM ⟨ns, nc, nl, nf, I0⟩
  have I : InvE hC hM := ⟨ns, nc, nl, nf, I0⟩
  have G := I0.gm
  have n24 := G.1.2
  unfold m_X8_ways m_X9_ways
  rcases isClaim_both I0.1 a1 with ⟨p1, p2⟩ | ⟨c, hc, rfl, p1, p2⟩
  · simp only [p1, p2, cb_some, if00]; exact Inv.ok rfl I
  rcases isLaw_both I0.1 a2 with ⟨o1, o2⟩ | ⟨l, hl, rfl, o1, o2⟩
  · simp only [p1, p2, o1, o2, cb_some, if00, if10]; exact Inv.ok rfl I
  rcases isLaw_both I0.1 a3 with ⟨t1, t2⟩ | ⟨l', hl', rfl, t1, t2⟩
  · simp only [p1, p2, o1, o2, t1, t2, cb_some, if00, if10]; exact Inv.ok rfl I
  obtain ⟨s, l0, hs, hl0, s5, l6, c24, e1, e2, e3, e4, hm⟩ := claim_info I0 hc
  obtain ⟨adm, n, z1, z2, z3, r1, r3, hrow⟩ := row_info I0 hc
  obtain ⟨h1, qd, qp, p, R, Br, F⟩ := C_hear (B := 11) I0 (Or.inl rfl) hs hl
  have I1 : Inv ns nc nl nf h1 hM := I0.eq (F.eqC (Or.inl rfl)) (EqM.rfl' hM)
  obtain ⟨h2, qd', qp', p', R', Br', F'⟩ := C_hear (B := 50) I1 (Or.inr rfl) hs hl'
  have R1 := R.fr F' (Or.inl ⟨rfl, rfl⟩)
  have C0 := R.2.2.2.2.2.2.1
  have C0' := R'.2.2.2.2.2.2.1
  have loopC : ∀ rem v m g1 h, v + rem = 100 → rem < m → 1 ≤ v → Hrd 11 l (nI s) qd qp g1 (LsS hM (nI s)) (saO 11) h → Hrd 50 l' (nI s) qd' qp' g1 (LsS hM (nI s)) (saO 50) h → (g1 = hM ∨ ∃ w, g1 = xSm hM c adm w) → EqC hC h → ∃ h', m_X8_ways_L65 m (nI c) (nI v) h = some (wyR (fun v => !decide (comesS (xSm hM c adm v) l c = comesS (xSm hM c adm v) l' c)) rem v, h') ∧ EqC hC h' := by
    intro rem
    induction rem with
    | zero =>
      intro v m g1 h h1 h2 v1 R R' hg F
      obtain ⟨m, rfl⟩ := Nat.exists_eq_succ_of_ne_zero (by omega : m ≠ 0)
      unfold m_X8_ways_L65
      rw [if_pos (show (99 : Int32) < nI v from nI_lt (a := 99) (b := v) (by omega) (by omega))]
      exact ⟨h, rfl, F⟩
    | succ rem ih =>
      intro v m g1 h h1 h2 v1 R R' hg F
      obtain ⟨m, rfl⟩ := Nat.exists_eq_succ_of_ne_zero (by omega : m ≠ 0)
      obtain ⟨k1, p1, R1, F1⟩ := C_sum (v := v) R hg C0 hm (LS_nodup _ _) (LS_lt G) (by omega) (by omega) (fun k hk => by rw [(F _ (by omega)).1]; exact hrow k hk) r3
      obtain ⟨k2, p2, R2, F2⟩ := C_sum (v := v) (R'.fr F1 (Or.inr ⟨rfl, rfl⟩)) hg C0' hm (LS_nodup _ _) (LS_lt G) (by omega) (by omega) (fun k hk => by rw [(F1 _ (by omega)).1, (F _ (by omega)).1]; exact hrow k hk) r3
      have R1' := R1.fr F2 (Or.inl ⟨rfl, rfl⟩)
      unfold m_X8_ways_L65
      have n99 : ¬ (99 : Int32) < nI v := by
        rw [Int32.lt_iff_toInt_lt, nI_toInt (by omega)]
        have : (99 : Int32).toInt = 99 := rfl
        omega
      rw [if_neg n99, ck_true _ (inb_nI c24 (by decide)), nI_clamp (by omega), p1, cb_some, p2, cb_some, C_comesOf R1' (LS_nodup _ _) hm (LS_lt G), cb_some, C_comesOf R2 (LS_nodup _ _) hm (LS_lt G), cb_some]
      unfold wyR
      have FF : EqC hC k2 := (F.trans (F1.eqC (Or.inl rfl))).trans (F2.eqC (Or.inr rfl))
      by_cases he : comesS (xSm hM c adm v) l c = comesS (xSm hM c adm v) l' c
      · rw [if_pos he, decide_eq_true he, if_neg (by decide), vb_eq, nI_1]
        exact ih (v + 1) m _ k2 (by omega) (by omega) (by omega) R1' R2 (Or.inr ⟨v, rfl⟩) FF
      · rw [if_neg he, decide_eq_false he, if_pos (by decide)]
        exact ⟨k2, rfl, FF⟩
  have loopM : ∀ rem v m z h, v + rem = 100 → rem < m → 1 ≤ v → (EqK z hM h ∨ ∃ w, EqK z (xSm hM c adm w) h) → ∃ h' z', m_X9_ways_L49 (m + 1) (nI c) (nI l) (nI l') (nI n) (nI adm) (-5) (nI v) h = some (wyR (fun v => !decide (comesS (xSm hM c adm v) l c = comesS (xSm hM c adm v) l' c)) rem v, h') ∧ EqK z' (xSm hM c adm n) h' := by
    intro rem
    induction rem with
    | zero =>
      rintro v m z h h1 h2 v1 e
      have e' : EqK z (xSm hM c adm n) (xSm h c adm n) := by
        rcases e with e | ⟨w, e⟩
        · exact eqK_xSm0 n e
        · exact eqK_xSm n e
      unfold m_X9_ways_L49 m_X9_ways_L95
      rw [if_pos (show (100 : Int32) ≤ nI v from nI_le (a := 100) (b := v) (by omega) (by omega)), M_sums c24 z3 (by omega), cb_some]
      exact ⟨_, z, rfl, e'⟩
    | succ rem ih =>
      rintro v m z h h1 h2 v1 e
      obtain ⟨m, rfl⟩ := Nat.exists_eq_succ_of_ne_zero (by omega : m ≠ 0)
      have e' : EqK z (xSm hM c adm v) (xSm h c adm v) := by
        rcases e with e | ⟨w, e⟩
        · exact eqK_xSm0 v e
        · exact eqK_xSm v e
      have G' := goM_xSm (adm := adm) G hc v1 (show v ≤ 99 by omega)
      obtain ⟨k1, q1, w1⟩ := M_comes G' hc hl e'
      obtain ⟨k2, q2, w2⟩ := M_comes G' hc hl' w1
      unfold m_X9_ways_L49
      rw [if_neg (show ¬ (100 : Int32) ≤ nI v from nI_ge (a := v) (b := 100) (by omega) (by decide)), if_neg (by decide), M_sums c24 (by omega) (by omega), cb_some, q1, cb_some, q2, cb_some]
      unfold wyR
      by_cases he : comesS (xSm hM c adm v) l c = comesS (xSm hM c adm v) l' c
      · rw [if_pos he, decide_eq_true he, if_neg (by decide), vb_eq, nI_1]
        exact ih (v + 1) m _ k2 (by omega) (by omega) (by omega) (Or.inr ⟨v, w2⟩)
      · rw [if_neg he, decide_eq_false he, if_pos (by decide), vb_eq, nI_1]
        unfold m_X9_ways_L49 m_X9_ways_L95
        rw [if_pos (show 0 ≤ nI v from nI_pos' (by omega)), M_sums c24 z3 (by omega), cb_some]
        refine ⟨xSm k2 c adm n, z, ?_, eqK_xSm n w2⟩
        split <;> rfl
  obtain ⟨h3, q, F3⟩ := loopC 99 1 FU hM h2 rfl (by unfold FU; omega) (Nat.le_refl _) R1 R' (Or.inl rfl) ((F.eqC (Or.inl rfl)).trans (F'.eqC (Or.inr rfl)))
  obtain ⟨k1, z, q', e'⟩ := loopM 99 1 1199 _ hM rfl (by decide) (Nat.le_refl _) (Or.inl (EqK.of (EqM.rfl' hM)))
  have Eq2 : EqM hM k1 := EqK.back r1 r3 z1 e'
  refine fin2 (v := wyR (fun v => !decide (comesS (xSm hM c adm v) l c = comesS (xSm hM c adm v) l' c)) 99 1) (w := wyR (fun v => !decide (comesS (xSm hM c adm v) l c = comesS (xSm hM c adm v) l' c)) 99 1) (hC := h3) (hM := k1) ?_ ?_ rfl (I.eq F3 Eq2)
  · rw [p1, cb_some, if10, o1, cb_some, if10, t1, cb_some, if10, ck_true _ (inb_nI c24 (by decide)), nI_clamp (by omega), e1, p, cb_some, (F (96 + 2 * c) (by omega)).1, e1, p', cb_some]
    exact q
  · rw [p2, cb_some, if10, o2, cb_some, if10, t2, cb_some, if10, M_g1 c24, cb_some, M_g3 c24, cb_some, r1, r3]
    exact q'
