/-! ===== pure: paid, all, ends, off, judge ===== -/
theorem isPart_both (hC hM : Hp) (a : Int32) : (m_X8_isPart a hC = some (0, hC) ∧ m_X9_in a 0 1 hM = some (0, hM)) ∨ (m_X8_isPart a hC = some (1, hC) ∧ m_X9_in a 0 1 hM = some (1, hM)) := by
  rcases ix_cases a 2 (by decide) (N := nI 2) (M := 1) rfl rfl with q | ⟨q0, q1, q2, q3, q4⟩ | ⟨m, hm, rfl, q0, q1, q2, q3, q4⟩
  · refine Or.inl ⟨?_, by simp only [m_X9_in, q, if_pos]⟩
    unfold m_X8_isPart
    rw [if_neg (fun e => by rw [e] at q; exact absurd q (by decide)), if_neg (fun e => by rw [e] at q; exact absurd q (by decide))]
  · refine Or.inl ⟨?_, by simp only [m_X9_in, q0, q2, if_pos, if_false]⟩
    unfold m_X8_isPart
    rw [if_neg (fun e => by rw [e] at q1; exact absurd q1 (by decide)), if_neg (fun e => by rw [e] at q1; exact absurd q1 (by decide))]
  · refine Or.inr ⟨?_, by simp only [m_X9_in, q0, q2, if_false]⟩
    unfold m_X8_isPart
    rcases (show m = 0 ∨ m = 1 by omega) with rfl | rfl <;> rfl
theorem b_paid (a1 a2 a3 : Int32) : Both (m_X8_paid a1 a2 a3) (m_X9_paid a1 a2 a3) := by
  rintro hC hM ⟨ns, nc, nl, nf, I0⟩
  have I : InvE hC hM := ⟨ns, nc, nl, nf, I0⟩
  have G := I0.gm
  unfold m_X8_paid m_X9_paid
  rcases isClaim_both I0.1 a1 with ⟨p1, p2⟩ | ⟨c, hc, rfl, p1, p2⟩
  · simp only [p1, p2, cb_some, if00]; exact Inv.ok rfl I
  rcases isPart_both hC hM a3 with ⟨r1, r2⟩ | ⟨r1, r2⟩
  · simp only [p1, p2, r1, r2, cb_some, if00, if10]; exact Inv.ok rfl I
  obtain ⟨s, l, hs, hl, s5, l6, c24, e1, e2, e3, e4, hm⟩ := claim_info I0 hc
  obtain ⟨h', qd, qp, p, R, Br, F⟩ := C_hear (B := 11) I0 (Or.inl rfl) hs hl
  obtain ⟨k, hk, ek, st⟩ := C_standing R (LS_nodup _ _) hm (LS_lt G)
  obtain ⟨b1, b2, b3, b4, b5, b6, c1, c2, c3, c0⟩ := R.comes hk
  obtain ⟨ln, ln1, ln2, el⟩ := line_lN G hl
  have main : ∀ mode : Int32, (mode = 2 ∨ mode = 1 ∨ mode = 0) → mode ≠ 2 → (!decide (a2 = 0)) = decide (mode = 1) → Ok (m_X8_paid (nI c) a2 a3 hC) fun v hC' => Ok (m_X9_paid_L39 (nI c) a3 mode (nI c) (nI l) hM) fun w hM' => v = w ∧ InvE hC' hM' := by
    intro mode h3 h2 hsw
    obtain ⟨k1, z, q, w, -⟩ := M_paid (mode := mode) G hc hl (EqK.of (EqM.rfl' hM)) h3
    unfold swM thM at q
    rw [if_neg h2, if_neg h2] at q
    obtain ⟨v, hv, ev⟩ := paid_lN G hl hc (decide (mode = 1)) true
    obtain ⟨x, x1, x2⟩ := low_lN (m := v) (b := ln) (part := a3) (by omega) ln1 (by omega) h' k1
    refine fin2 (v := x) (w := x) (hC := h') (hM := k1) ?_ ?_ rfl (I.eq (F.eqC (Or.inl rfl)) w.1)
    · unfold m_X8_paid
      rw [p1, cb_some, if10, r1, cb_some, if10, ck_true _ (inb_nI c24 (by decide)), nI_clamp (by omega), vb_eq, e1, ck_true _ (inb_nI s5 (by decide)), nI_clamp (by omega), Nat.one_mul, e3, p, cb_some, st, cb_some, if_neg c0, ck_true _ b3, C_paidWhen R hk, cb_some, C_below R, cb_some, ek, hsw, show (!decide ((1 : Int32) = 0)) = true from rfl, ev, el, x1, cb_some]
    · unfold m_X9_paid_L39
      rw [q, cb_some, M_lawFor c24 s5 (by rw [w.i _ (by decide) (by decide)]; exact e2) (by rw [w.i _ (by decide) (by decide)]; exact e4), cb_some, M_line G hl w, cb_some, ev, el, x2, cb_some]
  have e : m_X9_paid (nI c) a2 a3 hM = if a2 = 0 then m_X9_paid_L39 (nI c) a3 0 (nI c) (nI l) hM else m_X9_paid_L39 (nI c) a3 1 (nI c) (nI l) hM := by
    unfold m_X9_paid
    rw [p2, cb_some, if10, r2, cb_some, if10, M_lawFor c24 s5 e2 e4, cb_some]
  show Ok (m_X8_paid (nI c) a2 a3 hC) fun v hC' => Ok (m_X9_paid (nI c) a2 a3 hM) fun w hM' => v = w ∧ InvE hC' hM'
  rw [e]
  by_cases h0 : a2 = 0
  · rw [if_pos h0]; exact main 0 (Or.inr (Or.inr rfl)) (by decide) (by rw [decide_eq_true h0]; rfl)
  · rw [if_neg h0]; exact main 1 (Or.inr (Or.inl rfl)) (by decide) (by rw [decide_eq_false h0]; rfl)
def sumI (f : Nat → Nat → Int64) : Nat → Int64 → List Nat → Int64
  | _, a, [] => a
  | k, a, c :: L => sumI f (k + 1) (a + f k c) L
theorem sumI_lN {f : Nat → Nat → Int64} : ∀ (L : List Nat) (k a : Nat), (∀ k, ∀ c ∈ L, ∃ n : Nat, n ≤ 2000000 ∧ f k c = lN n) → ∃ m : Nat, m ≤ a + 2000000 * L.length ∧ sumI f k (lN a) L = lN m
  | [], k, a, _ => ⟨a, by simp, rfl⟩
  | c :: L, k, a, h => by
    obtain ⟨n, hn, e⟩ := h k c (by simp)
    obtain ⟨m, hm, e'⟩ := sumI_lN L (k + 1) (a + n) (fun k d hd => h k d (by simp [hd]))
    refine ⟨m, ?_, ?_⟩
    · rw [List.length_cons]; omega
    · show sumI f (k + 1) (lN a + f k c) L = _
      rw [e, lN_add]; exact e'
def chF (g : Hp) (l : Nat) (x : Int32) (k c : Nat) : Int64 := paidS g l c (decide ((x >>> (nI k &&& 31)) &&& 1 = 1)) true
theorem C_paidBy {B l : Nat} {x qd qp : Int32} {g h : Hp} {L : List Nat} {sa : Nat → Nat} (R : Hrd B l x qd qp g L sa h) (y : Int32) : m_X2_paidBy B y h = some (sumI (chF g l y) 0 0 L, h) := by
  obtain ⟨e10, hL⟩ := R.len
  have key : ∀ n k a, k ≤ L.length → L.length - k < n → m_X2_paidBy_L5 n B y a (nI k) h = some (sumI (chF g l y) k a (L.drop k), h) := by
    intro n
    induction n with
    | zero => intro k a _ h2; omega
    | succ n ih =>
      intro k a h1 h2
      unfold m_X2_paidBy_L5
      rw [e10]
      by_cases hk : k = L.length
      · subst hk
        rw [if_pos (nI_le (Nat.le_refl _) (by omega)), List.drop_eq_nil_of_le (Nat.le_refl _)]; rfl
      · have hk' : k < L.length := by omega
        obtain ⟨b1, b2, b3, b4, b5, b6, -⟩ := R.comes hk'
        rw [if_neg (nI_ge (by omega) (by omega)), ck_true _ (inb_nI (by omega) (by decide)), nI_clamp (by omega), b2, ck_true _ b3, dropc hk']
        unfold m_X2_paidBy_L38
        rw [C_paidWhen R hk', C_paidWhen R hk', cb_some, cb_some]
        simp only [vb_eq, nI_1, sumI]
        have ih' := fun a => ih (k + 1) a (by omega) (by omega)
        by_cases hb : (y >>> (nI k &&& 31)) &&& 1 = 1
        · rw [if_pos hb, ih']; unfold chF; rw [decide_eq_true hb]; rfl
        · rw [if_neg hb, ih']; unfold chF; rw [decide_eq_false hb]; rfl
  unfold m_X2_paidBy
  exact key FU 0 0 (by omega) (by unfold FU; omega)
def allEnd (s : Nat) (a3 : Int32) (t : Int64) (h : Hp) : Option (Int64 × Hp) := ck (inb (nI s) 5) (cb (m_X9_lineOf (gi h 5 (nI s).toNatClampNeg) h) fun v3 h4 => cb (m_X9_lowest t v3 a3 h4) fun v5 h6 => some (v5, h6))
theorem M_allC {ns nc nl l s : Nat} {a2 a3 : Int32} {g : Hp} (G : GoM ns nc nl g) (hl : l < nl) (s5 : s < 5) (e5 : gi g 5 s = nI l) : ∀ n rem c k a z (h : Hp), c + rem = nc → rem < n → EqK z g h → ∃ h' z', m_X9_all_L49 n (nI s) a2 a3 a (nI k) (nI c) h = allEnd s a3 (sumI (chF g l a2) k a (clF g (nI s) rem c)) h' ∧ EqK z' g h' := by
  obtain ⟨e1, n24⟩ := G.1
  intro n
  induction n with
  | zero => intro rem c k a z h _ h2; omega
  | succ n ih =>
    intro rem c k a z h h1 h2 eq
    unfold m_X9_all_L49
    rw [eq.o (by decide), e1]
    cases rem with
    | zero =>
      rw [if_pos (nI_le (by omega) (by omega))]
      exact ⟨h, z, rfl, eq⟩
    | succ rem =>
      rw [if_neg (nI_ge (by omega) (by omega)), M_g0 (by omega), cb_some, eq.i _ (by decide) (by decide)]
      simp only [Nat.add_zero]
      by_cases hq : gi g 6 (10 * c) = nI s
      · rw [if_pos hq, clF_t hq, ck_true _ (inb_nI s5 (by decide)), show (nI s).toNatClampNeg = s from nI_clamp (by omega), eq.i _ (by decide) (by decide), e5]
        have hm : ((a2 >>> (nI k &&& 31)) &&& 1) = 2 ∨ ((a2 >>> (nI k &&& 31)) &&& 1) = 1 ∨ ((a2 >>> (nI k &&& 31)) &&& 1) = 0 := by
          obtain ⟨j, hj, e⟩ := pk_andE (a2 >>> (nI k &&& 31)) (m := 1) 1 rfl
          rw [e]
          rcases (show j = 0 ∨ j = 1 by omega) with rfl | rfl
          · exact Or.inr (Or.inr rfl)
          · exact Or.inr (Or.inl rfl)
        have h2' : ¬ ((a2 >>> (nI k &&& 31)) &&& 1) = 2 := by
          obtain ⟨j, hj, e⟩ := pk_andE (a2 >>> (nI k &&& 31)) (m := 1) 1 rfl
          rw [e]
          rcases (show j = 0 ∨ j = 1 by omega) with rfl | rfl <;> decide
        obtain ⟨k1, z', q, w, -⟩ := M_paid (mode := ((a2 >>> (nI k &&& 31)) &&& 1)) G (show c < nc by omega) hl eq hm
        unfold swM thM at q
        rw [if_neg h2', if_neg h2'] at q
        rw [q, cb_some]
        simp only [vb_eq, nI_1, sumI]
        exact ih rem (c + 1) (k + 1) _ _ k1 (by omega) (by omega) w
      · rw [if_neg hq, clF_f hq, vb_eq, nI_1]
        exact ih rem (c + 1) k _ _ h (by omega) (by omega) eq
theorem shl_m : ∀ m, m < 7 → (1 <<< (nI m &&& 31) : Int32) = nI (2 ^ m) ∧ 2 ^ m ≤ 64 := by
  intro m hm
  rcases (show m = 0 ∨ m = 1 ∨ m = 2 ∨ m = 3 ∨ m = 4 ∨ m = 5 ∨ m = 6 by omega) with rfl | rfl | rfl | rfl | rfl | rfl | rfl <;> exact ⟨rfl, by decide⟩
theorem b_all (a1 a2 a3 : Int32) : Both (m_X8_all a1 a2 a3) (m_X9_all a1 a2 a3) := by
  rintro hC hM ⟨ns, nc, nl, nf, I0⟩
  have I : InvE hC hM := ⟨ns, nc, nl, nf, I0⟩
  have G := I0.gm
  have n24 := G.1.2
  unfold m_X8_all m_X9_all
  rcases isSuit_both I0.1 a1 with ⟨p1, p2⟩ | ⟨s, hs, rfl, p1, p2⟩
  · simp only [p1, p2, cb_some, if00]; exact Inv.ok rfl I
  have m1 := C_manyOf I0 (nI s)
  have m2 := M_manyOf I0 (nI s)
  have m6 := I0.2.2.2.1.2 (nI s)
  obtain ⟨sh, sh2⟩ := shl_m _ (show cntR (gi hM 6) (nI s) nc < 7 by omega)
  rw [p1, p2, cb_some, cb_some, if10, if10, m2, cb_some, sh]
  have ix := ix_cases a2 (2 ^ cntR (gi hM 6) (nI s) nc) (by omega) (N := nI (2 ^ cntR (gi hM 6) (nI s) nc)) (M := nI (2 ^ cntR (gi hM 6) (nI s) nc) - 1) rfl (nIm1 (by omega))
  rcases isPart_both hC hM a3 with ⟨r1, r2⟩ | ⟨r1, r2⟩
  · rw [r1, cb_some, if00]
    rcases ix with q | ⟨q0, q1, q2, q3, q4⟩ | ⟨m, hm, rfl, q0, q1, q2, q3, q4⟩
    · simp only [m_X9_in, q, if_pos, cb_some]; exact Inv.ok rfl I
    · simp only [m_X9_in, q0, q2, if_pos, if_false, cb_some]; exact Inv.ok rfl I
    · rw [show m_X9_in (nI m) 0 (nI (2 ^ cntR (gi hM 6) (nI s) nc) - 1) hM = some (1, hM) by simp only [m_X9_in, q0, q2, if_false], cb_some, if10, r2, cb_some, if00]; exact Inv.ok rfl I
  rw [r1, cb_some, if10, m1, cb_some, sh]
  rcases ix with q | ⟨q0, q1, q2, q3, q4⟩ | ⟨m, hm, rfl, q0, q1, q2, q3, q4⟩
  · simp only [m_X9_in, q, if_pos, cb_some]; exact Inv.ok rfl I
  · simp only [m_X9_in, q0, q2, q3, if_pos, if_false, cb_some]; exact Inv.ok rfl I
  obtain ⟨l, hl, s5, l6, e3, e4⟩ := suit_info I0 hs
  obtain ⟨h', qd, qp, p, R, Br, F⟩ := C_hear (B := 11) I0 (Or.inl rfl) hs hl
  obtain ⟨k1, z, q, w⟩ := M_allC (a2 := nI m) (a3 := a3) G hl s5 e4 FU nc 0 0 0 _ hM (by omega) (by unfold FU; omega) (EqK.of (EqM.rfl' hM))
  obtain ⟨ln, ln1, ln2, el⟩ := line_lN G hl
  obtain ⟨e10, hL⟩ := R.len
  rw [← LS_nc G] at q
  obtain ⟨v, hv, ev⟩ := sumI_lN (f := chF hM l (nI m)) (LsS hM (nI s)) 0 0 (fun k c hc => paid_lN G hl ((LS_mem G).mp hc).1 _ _)
  obtain ⟨x, x1, x2⟩ := low_lN (m := v) (b := ln) (part := a3) (by omega) ln1 (by omega) h' k1
  refine fin2 (v := x) (w := x) (hC := h') (hM := k1) ?_ ?_ rfl (I.eq (F.eqC (Or.inl rfl)) w.1)
  · rw [if_neg q0, if_pos q3, ck_true _ (inb_nI s5 (by decide)), nI_clamp (by omega), Nat.one_mul, e3, p, cb_some, C_paidBy R, cb_some, C_below R, cb_some, show (0 : Int64) = lN 0 from rfl, ev, el, x1, cb_some]
  · have q' : m_X9_all_L49 FU (nI s) (nI m) a3 0 0 0 hM = allEnd s a3 (sumI (chF hM l (nI m)) 0 (lN 0) (LsS hM (nI s))) k1 := q
    rw [show m_X9_in (nI m) 0 (nI (2 ^ cntR (gi hM 6) (nI s) nc) - 1) hM = some (1, hM) by simp only [m_X9_in, q0, q2, if_false], cb_some, if10, r2, cb_some, if10, q']
    unfold allEnd
    rw [ck_true _ (inb_nI s5 (by decide)), nI_clamp (by omega), w.i _ (by decide) (by decide), e4, M_line G hl w, cb_some, ev, el, x2, cb_some]
def endF (most : Bool) (g : Hp) (l c : Nat) : Int64 := if paidS g l c false true < paidS g l c true true then (if most = true then paidS g l c true true else paidS g l c false true) else (if most = true then paidS g l c false true else paidS g l c true true)
theorem C_end {B l : Nat} {x qd qp : Int32} {g h : Hp} {L : List Nat} {sa : Nat → Nat} (R : Hrd B l x qd qp g L sa h) (most : Bool) : m_X2_paidAtEnd B (bI most) h = some (sumL (endF most g l) 0 L, h) := by
  obtain ⟨e10, hL⟩ := R.len
  have key : ∀ n k a, k ≤ L.length → L.length - k < n → m_X2_paidAtEnd_L5 n B (bI most) a (nI k) h = some (sumL (endF most g l) a (L.drop k), h) := by
    intro n
    induction n with
    | zero => intro k a _ h2; omega
    | succ n ih =>
      intro k a h1 h2
      unfold m_X2_paidAtEnd_L5
      rw [e10]
      by_cases hk : k = L.length
      · subst hk
        rw [if_pos (nI_le (Nat.le_refl _) (by omega)), List.drop_eq_nil_of_le (Nat.le_refl _)]; rfl
      · have hk' : k < L.length := by omega
        obtain ⟨b1, b2, b3, b4, b5, b6, -⟩ := R.comes hk'
        rw [if_neg (nI_ge (by omega) (by omega)), ck_true _ (inb_nI (by omega) (by decide)), nI_clamp (by omega), b2, ck_true _ b3, C_paidWhen R hk', cb_some, b2, ck_true _ b3, C_paidWhen R hk', cb_some, dropc hk']
        unfold m_X2_paidAtEnd_L66
        simp only [vb_eq, nI_1, sumL, show (!decide ((1 : Int32) = 0)) = true from rfl, show (!decide ((0 : Int32) = 0)) = false from rfl]
        have ih' := fun a => ih (k + 1) a (by omega) (by omega)
        unfold endF
        cases most
        · rw [if_pos (show bI false = 0 from rfl), ih']; rfl
        · rw [if_neg (show ¬ bI true = 0 by decide), ih']; rfl
  unfold m_X2_paidAtEnd
  exact key FU 0 0 (by omega) (by unfold FU; omega)
theorem M_mode {z : Int32} {ns nc nl l c : Nat} {g h : Hp} (G : GoM ns nc nl g) (hc : c < nc) (hl : l < nl) (eq : EqK z g h) : (∃ h' z', m_X9_paidOf (nI l) (nI c) 0 h = some (paidS g l c false true, h') ∧ EqK z' g h') ∧ ∃ h' z', m_X9_paidOf (nI l) (nI c) 1 h = some (paidS g l c true true, h') ∧ EqK z' g h' := by
  constructor
  · obtain ⟨h', z', p, e, -⟩ := M_paid (mode := 0) G hc hl eq (Or.inr (Or.inr rfl))
    exact ⟨h', z', p, e⟩
  · obtain ⟨h', z', p, e, -⟩ := M_paid (mode := 1) G hc hl eq (Or.inr (Or.inl rfl))
    exact ⟨h', z', p, e⟩
theorem M_endsC {ns nc nl l s : Nat} {a3 : Int32} {g : Hp} {most : Bool} (G : GoM ns nc nl g) (hl : l < nl) : ∀ n rem c a z (h : Hp), c + rem = nc → rem < n → EqK z g h → ∃ h' z', m_X9_ends_L46 n (nI s) (bI most) a3 (nI l) a (nI c) h = m_X9_ends_L139 (nI s) (bI most) a3 (nI l) (sumL (endF most g l) a (clF g (nI s) rem c)) h' ∧ EqK z' g h' := by
  obtain ⟨e1, n24⟩ := G.1
  intro n
  induction n with
  | zero => intro rem c a z h _ h2; omega
  | succ n ih =>
    intro rem c a z h h1 h2 eq
    unfold m_X9_ends_L46
    rw [eq.o (by decide), e1]
    cases rem with
    | zero =>
      rw [if_pos (nI_le (by omega) (by omega))]
      exact ⟨h, z, rfl, eq⟩
    | succ rem =>
      rw [if_neg (nI_ge (by omega) (by omega)), if_neg (show ¬ (2 : Int32) ≤ bI most by cases most <;> decide), M_g0 (by omega), cb_some, eq.i _ (by decide) (by decide)]
      simp only [Nat.add_zero]
      by_cases hq : gi g 6 (10 * c) = nI s
      · rw [if_pos hq, clF_t hq]
        obtain ⟨⟨k1, z1, q1, w1⟩, -⟩ := M_mode G (show c < nc by omega) hl eq
        obtain ⟨-, k2, z2, q2, w2⟩ := M_mode G (show c < nc by omega) hl w1
        rw [q1, cb_some, q2, cb_some]
        unfold m_X9_ends_L111 m_X9_ends_L120
        simp only [vb_eq, nI_1, sumL]
        have ih' := fun a => ih rem (c + 1) a _ k2 (by omega) (by omega) w2
        unfold endF at ih' ⊢
        by_cases hlt : paidS g l c false true < paidS g l c true true
        · have hle : ¬ paidS g l c true true ≤ paidS g l c false true := fun q => by
            rw [Int64.le_iff_toInt_le] at q; rw [Int64.lt_iff_toInt_lt] at hlt; omega
          rw [if_neg hle, if_pos hlt]
          cases most
          · exact ih' _
          · exact ih' _
        · have hle : paidS g l c true true ≤ paidS g l c false true := by
            rw [Int64.le_iff_toInt_le]; rw [Int64.lt_iff_toInt_lt] at hlt; omega
          rw [if_pos hle, if_neg hlt]
          cases most
          · exact ih' _
          · exact ih' _
      · rw [if_neg hq, clF_f hq, vb_eq, nI_1]
        exact ih rem (c + 1) _ _ h (by omega) (by omega) eq
theorem b_ends (a1 a2 a3 : Int32) : Both (m_X8_ends a1 a2 a3) (m_X9_ends a1 a2 a3) := by
  rintro hC hM ⟨ns, nc, nl, nf, I0⟩
  have I : InvE hC hM := ⟨ns, nc, nl, nf, I0⟩
  have G := I0.gm
  have n24 := G.1.2
  unfold m_X8_ends m_X9_ends
  rcases isSuit_both I0.1 a1 with ⟨p1, p2⟩ | ⟨s, hs, rfl, p1, p2⟩
  · simp only [p1, p2, cb_some, if00]; exact Inv.ok rfl I
  rcases ix_cases a2 3 (by decide) (N := nI 3) (M := 2) rfl rfl with q | ⟨q0, q1, q2, q3, q4⟩ | ⟨m, hm, rfl, q0, q1, q2, q3, q4⟩
  · simp only [p1, p2, m_X9_in, q, if_pos, cb_some, if10]; exact Inv.ok rfl I
  · simp only [p1, p2, m_X9_in, q0, q2, q4, if_pos, if_false, cb_some, if10]; exact Inv.ok rfl I
  rcases isPart_both hC hM a3 with ⟨r1, r2⟩ | ⟨r1, r2⟩
  · rw [p1, p2, cb_some, cb_some, if10, if10, show m_X9_in (nI m) 0 2 hM = some (1, hM) by simp only [m_X9_in, q0, q2, if_false], cb_some, if10, if_neg q0, if_neg q2, r1, r2, cb_some, cb_some, if00, if00]; exact Inv.ok rfl I
  obtain ⟨l, hl, s5, l6, e3, e4⟩ := suit_info I0 hs
  obtain ⟨h', qd, qp, p, R, Br, F⟩ := C_hear (B := 11) I0 (Or.inl rfl) hs hl
  obtain ⟨ln, ln1, ln2, el⟩ := line_lN G hl
  obtain ⟨e10, hL⟩ := R.len
  rw [p1, p2, cb_some, cb_some, if10, if10, show m_X9_in (nI m) 0 2 hM = some (1, hM) by simp only [m_X9_in, q0, q2, if_false], cb_some, if10, if_neg q0, if_neg q2, r1, r2, cb_some, cb_some, if10, if10, ck_true _ (inb_nI s5 (by decide)), ck_true _ (inb_nI s5 (by decide)), nI_clamp (show s < 2 ^ 31 by omega), vb_eq, Nat.one_mul, e3, e4, p, cb_some]
  have last : ∀ (t : Int64) (v : Nat) (z : Int32) (k1 : Hp), v ≤ 12000000 → t = lN v → EqK z hM k1 → Ok (m_X8_ends_L78 a3 t h') fun v hC' => Ok (m_X9_ends_L157 a3 (nI l) t k1) fun w hM' => v = w ∧ InvE hC' hM' := by
    intro t v z k1 hv ev w
    obtain ⟨x, x1, x2⟩ := low_lN (m := v) (b := ln) (part := a3) (by omega) ln1 (by omega) h' k1
    refine fin2 (v := x) (w := x) (hC := h') (hM := k1) ?_ ?_ rfl (I.eq (F.eqC (Or.inl rfl)) w.1)
    · unfold m_X8_ends_L78
      rw [C_below R, cb_some, ev, el, x1, cb_some]
    · unfold m_X9_ends_L157
      rw [M_line G hl w, cb_some, ev, el, x2, cb_some]
  have two : ∀ most : Bool, Ok (m_X8_ends_L75 a3 (bI most) 11 h') fun v hC' => Ok (m_X9_ends_L46 FU (nI s) (bI most) a3 (nI l) 0 0 hM) fun w hM' => v = w ∧ InvE hC' hM' := by
    intro most
    obtain ⟨k1, z, q, w⟩ := M_endsC (most := most) (a3 := a3) (s := s) G hl FU nc 0 0 _ hM (by omega) (by unfold FU; omega) (EqK.of (EqM.rfl' hM))
    rw [← LS_nc G] at q
    have q' : m_X9_ends_L46 FU (nI s) (bI most) a3 (nI l) 0 0 hM = m_X9_ends_L139 (nI s) (bI most) a3 (nI l) (sumL (endF most hM l) (lN 0) (LsS hM (nI s))) k1 := q
    obtain ⟨v, hv, ev⟩ := sum_lN (f := endF most hM l) (LsS hM (nI s)) 0 (fun c hc => by
      unfold endF
      have a1 := paid_lN G hl ((LS_mem G).mp hc).1 true true
      have a2 := paid_lN G hl ((LS_mem G).mp hc).1 false true
      cases most <;> split <;> first | exact a1 | exact a2)
    unfold m_X8_ends_L75
    rw [C_end R, cb_some, q']
    unfold m_X9_ends_L139
    rw [if_neg (show ¬ bI most = 2 by cases most <;> decide), show (0 : Int64) = lN 0 from rfl]
    exact last _ v z k1 (by omega) ev w
  rcases (show m = 0 ∨ m = 1 ∨ m = 2 by omega) with rfl | rfl | rfl
  · rw [if_neg (show ¬ nI 0 = 2 by decide), if_neg (show ¬ nI 0 = 1 by decide)]
    exact two false
  · rw [if_neg (show ¬ nI 1 = 2 by decide), if_pos (show nI 1 = 1 from rfl)]
    exact two true
  · rw [if_pos (show nI 2 = 2 from rfl), C_truth R, cb_some]
    have e : m_X9_ends_L46 FU (nI s) (nI 2) a3 (nI l) 0 0 hM = m_X9_ends_L139 (nI s) (nI 2) a3 (nI l) 0 hM := by
      show m_X9_ends_L46 (1199 + 1) (nI s) (nI 2) a3 (nI l) 0 0 hM = _
      unfold m_X9_ends_L46
      rw [if_pos (show (2 : Int32) ≤ nI 2 by decide)]
      split <;> rfl
    obtain ⟨k1, z, q, w⟩ := M_truth (x := nI s) G hl (EqK.of (EqM.rfl' hM))
    obtain ⟨v, hv, ev⟩ := tru_lN (x := nI s) G hl hL
    rw [e]
    unfold m_X9_ends_L139
    rw [if_pos (show nI 2 = 2 from rfl), q, cb_some]
    exact last _ v z k1 hv ev w
