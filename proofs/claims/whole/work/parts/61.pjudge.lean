/-! ===== pure: off, judge ===== -/
theorem suit_two {ns nc nl nf s : Nat} {hC hM : Hp} (I : Inv ns nc nl nf hC hM) (hs : s < ns) : gi hC (91 + s) 0 = gi hM 3 s ∧ gi hC (91 + s) 1 = gi hM 4 s := by
  obtain ⟨p, d, l, -, -, hl, ⟨c0, c1, -⟩, m3, m4, -⟩ := I.2.2.1 s hs
  exact ⟨c0.trans m3.symm, c1.trans m4.symm⟩
theorem b_off (a1 a2 a3 : Int32) : Both (m_X8_off a1 a2 a3) (m_X9_off a1 a2 a3) := by
  rintro hC hM ⟨ns, nc, nl, nf, I0⟩
  have I : InvE hC hM := ⟨ns, nc, nl, nf, I0⟩
  have G := I0.gm
  have n24 := G.1.2
  unfold m_X8_off m_X9_off
  rcases isSuit_both I0.1 a1 with ⟨p1, p2⟩ | ⟨s, hs, rfl, p1, p2⟩
  · simp only [p1, p2, cb_some, if00]; exact Inv.ok rfl I
  rcases isSuit_both I0.1 a2 with ⟨o1, o2⟩ | ⟨u, hu, rfl, o1, o2⟩
  · simp only [p1, p2, o1, o2, cb_some, if00, if10]; exact Inv.ok rfl I
  rcases isPart_both hC hM a3 with ⟨r1, r2⟩ | ⟨r1, r2⟩
  · simp only [p1, p2, o1, o2, r1, r2, cb_some, if00, if10]; exact Inv.ok rfl I
  obtain ⟨l, hl, s5, l6, e3, e4⟩ := suit_info I0 hs
  obtain ⟨l', hl', u5, l6', e3', e4'⟩ := suit_info I0 hu
  obtain ⟨t0, t1⟩ := suit_two I0 hs
  obtain ⟨v0, v1⟩ := suit_two I0 hu
  rw [p1, p2, cb_some, cb_some, if10, if10, o1, o2, cb_some, cb_some, if10, if10, r1, r2, cb_some, cb_some, if10, if10, ck_true _ (inb_nI s5 (by decide)), ck_true _ (inb_nI u5 (by decide)), ck_true _ (inb_nI s5 (by decide)), ck_true _ (inb_nI u5 (by decide)), nI_clamp (show s < 2 ^ 31 by omega), nI_clamp (show u < 2 ^ 31 by omega), Nat.one_mul, Nat.one_mul, t0, t1, v0, v1]
  by_cases c1 : gi hM 3 s = gi hM 4 u
  case neg => rw [if_neg c1, if_neg c1]; exact Inv.ok rfl I
  rw [if_pos c1, if_pos c1]
  by_cases c2 : gi hM 4 s = gi hM 3 u
  case neg => rw [if_neg c2, if_neg c2]; exact Inv.ok rfl I
  rw [if_pos c2, if_pos c2, e3]
  obtain ⟨h1, qd, qp, p, R, Br, F⟩ := C_hear (B := 11) I0 (Or.inl rfl) hs hl
  have I1 : Inv ns nc nl nf h1 hM := I0.eq (F.eqC (Or.inl rfl)) (EqM.rfl' hM)
  obtain ⟨h2, qd', qp', p', R', Br', F'⟩ := C_hear (B := 50) I1 (Or.inr rfl) hu hl'
  have R1 := R.fr F' (Or.inl ⟨rfl, rfl⟩)
  obtain ⟨x, x1, x2, ex⟩ := line_lN G hl
  obtain ⟨y, y1, y2, ey⟩ := line_lN G hl'
  obtain ⟨k1, z, q, w⟩ := M_truth (x := nI s) G hl (EqK.of (EqM.rfl' hM))
  obtain ⟨k2, z', q', w'⟩ := M_truth (x := nI u) G hl' w
  obtain ⟨m, m1, em⟩ := tru_lN (x := nI s) G hl R.len.2
  obtain ⟨n, n1, en⟩ := tru_lN (x := nI u) G hl' R'.len.2
  have my : m * y ≤ 12000000 * 9801 := Nat.mul_le_mul m1 y2
  have nx : n * x ≤ 12000000 * 9801 := Nat.mul_le_mul n1 x2
  have xy : x * y ≤ 9801 * 9801 := Nat.mul_le_mul x2 y2
  have xy1 : 1 ≤ x * y := Nat.mul_pos x1 y1
  have d : (lN (m * y) - lN (n * x)).toInt = (m * y : Nat) - (n * x : Nat) := by
    rw [l_sub (by rw [pk_lT (by omega), pk_lT (by omega)]; omega) (by rw [pk_lT (by omega), pk_lT (by omega)]; omega), pk_lT (by omega), pk_lT (by omega)]
  obtain ⟨v, j1, j2⟩ := low_both (a := lN (m * y) - lN (n * x)) (b := x * y) (part := a3) xy1 (by omega) (by rw [d]; omega) (by rw [d]; omega) h2 k2
  refine fin2 (v := v) (w := v) (hC := h2) (hM := k2) ?_ ?_ rfl ((I.eq (F.eqC (Or.inl rfl)) (EqM.rfl' hM)).eq (F'.eqC (Or.inr rfl)) w'.1)
  · rw [p, cb_some, (F (91 + u) (by omega)).1, e3', p', cb_some, C_truth R1, cb_some, C_below R', cb_some, C_truth R', cb_some, C_below R1, cb_some, vb_eq, C_below R1, cb_some, C_below R', cb_some, em, en, ex, ey, lN_mul, lN_mul, lN_mul, j1, cb_some]
  · rw [e4, M_line G hl (EqK.of (EqM.rfl' hM)), cb_some, e4', M_line G hl' (EqK.of (EqM.rfl' hM)), cb_some, e4, q, cb_some, w.i _ (by decide) (by decide), e4', q', cb_some, em, en, ex, ey, lN_mul, lN_mul, lN_mul, j2, cb_some]
def judF (g : Hp) (l i n t k c : Nat) : Option Int32 := if i + k < n then (if gl g 28 (60 * t + (i + k)) = (comesS g l c).toInt64 then none else some (nI k)) else some (100 + nI k)
def judR (f : Nat → Nat → Option Int32) : Nat → List Nat → Int32
  | _, [] => -5
  | k, c :: L => match f k c with | some v => v | none => judR f (k + 1) L
theorem judR_n {f : Nat → Nat → Option Int32} {k c : Nat} {L : List Nat} (h : f k c = none) : judR f k (c :: L) = judR f (k + 1) L := by
  conv => lhs; unfold judR
  rw [h]
theorem judR_s {f : Nat → Nat → Option Int32} {k c : Nat} {L : List Nat} {v : Int32} (h : f k c = some v) : judR f k (c :: L) = v := by
  unfold judR
  rw [h]
theorem judF1 {g : Hp} {l i n t k c : Nat} (h : i + k < n) (e : gl g 28 (60 * t + (i + k)) = (comesS g l c).toInt64) : judF g l i n t k c = none := by
  unfold judF; rw [if_pos h, if_pos e]
theorem judF2 {g : Hp} {l i n t k c : Nat} (h : i + k < n) (e : ¬ gl g 28 (60 * t + (i + k)) = (comesS g l c).toInt64) : judF g l i n t k c = some (nI k) := by
  unfold judF; rw [if_pos h, if_neg e]
theorem judF3 {g : Hp} {l i n t k c : Nat} (h : ¬ i + k < n) : judF g l i n t k c = some (100 + nI k) := by
  unfold judF; rw [if_neg h]
theorem C_judge {l i n t : Nat} {x qd qp : Int32} {g h : Hp} {L : List Nat} {sa : Nat → Nat} (R : Hrd 11 l x qd qp g L sa h) (hi : i < 2 ^ 31) (ht : t < 6) (hn : n ≤ 60) (e2 : gi h (180 + 2 * t) 2 = nI n) (ei : ∀ j, j < 60 → gl h (180 + 2 * t + 1) j = gl g 28 (60 * t + j)) : ∀ m k, k ≤ L.length → L.length - k < m → m_X8_judge_L66 m (nI i) (180 + 2 * t) (nI k) h = some (judR (judF g l i n t) k (L.drop k), h) := by
  obtain ⟨e10, hL⟩ := R.len
  intro m
  induction m with
  | zero => intro k _ h2; omega
  | succ m ih =>
    intro k h1 h2
    unfold m_X8_judge_L66
    rw [e10]
    by_cases hk : k = L.length
    · subst hk
      rw [if_pos (nI_le (Nat.le_refl _) (by omega)), List.drop_eq_nil_of_le (Nat.le_refl _)]; rfl
    · have hk' : k < L.length := by omega
      obtain ⟨b1, b2, b3, b4, b5, b6, -⟩ := R.comes hk'
      rw [if_neg (nI_ge (by omega) (by omega)), vb_eq, nI_l (show i < 2 ^ 31 by omega), nI_l (show k < 2 ^ 31 by omega), lN_add, C_place hn e2 (lN (i + k)) ((i + k : Nat) : Int) (pk_lT (by omega)), cb_some, dropc hk']
      by_cases hlt : i + k < n
      · rw [if_pos (show (0 : Int) ≤ ((i + k : Nat) : Int) ∧ ((i + k : Nat) : Int) < (n : Int) by omega), if10, lN_i, ck_true _ (inb_nI (by omega) (by decide)), ck_true _ (inb_nI (by omega) (by decide)), nI_clamp (by omega), nI_clamp (by omega), b2, ck_true _ b3, b5.1, ei _ (by omega)]
        by_cases he : gl g 28 (60 * t + (i + k)) = (comesS g l (L.getD k 0)).toInt64
        · rw [if_pos he, judR_n (judF1 hlt he), vb_eq, nI_1]
          exact ih (k + 1) (by omega) (by omega)
        · rw [if_neg he, judR_s (judF2 hlt he)]
      · rw [if_neg (show ¬ ((0 : Int) ≤ ((i + k : Nat) : Int) ∧ ((i + k : Nat) : Int) < (n : Int)) by omega), if00, judR_s (judF3 hlt)]
theorem M_judge {ns nc nl l s i n t : Nat} {g : Hp} (G : GoM ns nc nl g) (hl : l < nl) (s5 : s < 5) (e5 : gi g 5 s = nI l) (hi : i < 2 ^ 31) (ht : t < 6) (hn : n ≤ 60) (e27 : gi g 27 t = nI n) (e26 : gi g 26 t < 0 → n = 0) (hL : (LsS g (nI s)).length ≤ 6) : ∀ m rem c k z (h : Hp), c + rem = nc → rem < m → k + (clF g (nI s) rem c).length ≤ 6 → EqK z g h → ∃ h' z', m_X9_judge_L36 m (nI t) (nI i) (nI s) (nI k) (nI c) h = some (judR (judF g l i n t) k (clF g (nI s) rem c), h') ∧ EqK z' g h' := by
  obtain ⟨e1, n24⟩ := G.1
  intro m
  induction m with
  | zero => intro rem c k z h _ h2; omega
  | succ m ih =>
    intro rem c k z h h1 h2 h6 eq
    unfold m_X9_judge_L36
    rw [eq.o (by decide), e1]
    cases rem with
    | zero =>
      rw [if_pos (nI_le (by omega) (by omega))]
      exact ⟨h, z, rfl, eq⟩
    | succ rem =>
      rw [if_neg (nI_ge (by omega) (by omega)), M_g0 (by omega), cb_some, eq.i _ (by decide) (by decide)]
      simp only [Nat.add_zero]
      by_cases hq : gi g 6 (10 * c) = nI s
      · rw [clF_t hq, List.length_cons] at h6
        rw [if_pos hq, clF_t hq, ck_true _ (inb_nI ht (by decide)), nI_clamp (show t < 2 ^ 31 by omega), eq.i _ (by decide) (by decide), eq.i _ (by decide) (by decide), e27]
        have le : nI i ≤ (nI n - nI k) - 1 ↔ i + k < n := by
          have d := pk_sub_toInt (a := n) (b := k) (by omega) (by omega)
          rw [Int32.le_iff_toInt_le, i_sub (by rw [d, show (1 : Int32).toInt = 1 from rfl]; omega) (by rw [d, show (1 : Int32).toInt = 1 from rfl]; omega), d, nI_toInt hi, show (1 : Int32).toInt = 1 from rfl]
          omega
        by_cases h26 : gi g 26 t < 0
        · have n0 := e26 h26
          rw [if_pos h26, judR_s (judF3 (by omega))]
          exact ⟨h, z, rfl, eq⟩
        rw [if_neg h26, if_neg (nI_pos hi)]
        by_cases hlt : i + k < n
        · rw [if_pos (le.mpr hlt), show (60 : Int32) = nI 60 from rfl, pk_mul, nI_add, nI_add, show 60 * t + i + k = 60 * t + (i + k) by omega, ck_true _ (inb_nI (by omega) (by decide)), ck_true _ (inb_nI s5 (by decide)), nI_clamp (show s < 2 ^ 31 by omega), nI_clamp (by omega), eq.i _ (by decide) (by decide), e5]
          obtain ⟨k1, p1, w1⟩ := M_comes G (show c < nc by omega) hl eq
          rw [p1, cb_some, eq.1.2]
          by_cases he : gl g 28 (60 * t + (i + k)) = (comesS g l c).toInt64
          · rw [if_pos he, judR_n (judF1 hlt he), vb_eq, vb_eq, nI_1, nI_1]
            exact ih rem (c + 1) (k + 1) z k1 (by omega) (by omega) (by omega) w1
          · rw [if_neg he, judR_s (judF2 hlt he)]
            exact ⟨k1, z, rfl, w1⟩
        · rw [if_neg (fun q => hlt (le.mp q)), judR_s (judF3 hlt)]
          exact ⟨h, z, rfl, eq⟩
      · rw [clF_f hq] at h6
        rw [if_neg hq, clF_f hq, vb_eq, nI_1]
        exact ih rem (c + 1) k z h (by omega) (by omega) h6 eq
theorem M_judgeN {ns nc nl s t : Nat} {a2 : Int32} {g : Hp} (G : GoM ns nc nl g) (ht : t < 6) (ha : a2 < 0) : ∀ m rem c z (h : Hp), c + rem = nc → rem < m → EqK z g h → m_X9_judge_L36 m (nI t) a2 (nI s) (nI 0) (nI c) h = some (if clF g (nI s) rem c = [] then -5 else 100 + nI 0, h) := by
  obtain ⟨e1, n24⟩ := G.1
  intro m
  induction m with
  | zero => intro rem c z h _ h2; omega
  | succ m ih =>
    intro rem c z h h1 h2 eq
    unfold m_X9_judge_L36
    rw [eq.o (by decide), e1]
    cases rem with
    | zero =>
      rw [if_pos (nI_le (by omega) (by omega))]
      rfl
    | succ rem =>
      rw [if_neg (nI_ge (by omega) (by omega)), M_g0 (by omega), cb_some, eq.i _ (by decide) (by decide)]
      simp only [Nat.add_zero]
      by_cases hq : gi g 6 (10 * c) = nI s
      · rw [if_pos hq, clF_t hq, ck_true _ (inb_nI ht (by decide)), if_pos ha, if_neg (List.cons_ne_nil _ _)]
        split <;> rfl
      · rw [if_neg hq, clF_f hq, vb_eq, nI_1]
        exact ih rem (c + 1) z h (by omega) (by omega) eq
theorem b_judge (a1 a2 a3 : Int32) : Both (m_X8_judge a1 a2 a3) (m_X9_judge a1 a2 a3) := by
  rintro hC hM ⟨ns, nc, nl, nf, I0⟩
  have I : InvE hC hM := ⟨ns, nc, nl, nf, I0⟩
  have G := I0.gm
  have n24 := G.1.2
  unfold m_X8_judge m_X9_judge
  rcases isTape_both hC hM a1 with ⟨p1, p2⟩ | ⟨t, ht, rfl, p1, p2⟩
  · simp only [p1, p2, cb_some, if00]; exact Inv.ok rfl I
  rcases isSuit_both I0.1 a3 with ⟨o1, o2⟩ | ⟨s, hs, rfl, o1, o2⟩
  · simp only [p1, p2, o1, o2, cb_some, if00, if10]; exact Inv.ok rfl I
  obtain ⟨⟨n, hn, y1, y2, y3⟩, y4, y5, y6⟩ := I0.2.2.2.2.2.2.2.2.1 t ht
  rw [p1, p2, cb_some, cb_some, if10, if10, o1, o2, cb_some, cb_some, if10, if10, ck_true _ (inb_nI ht (by decide)), ck_true _ (inb_nI ht (by decide)), nI_clamp (show t < 2 ^ 31 by omega), y4]
  obtain ⟨l, hl, s5, l6, e3, e4⟩ := suit_info I0 hs
  obtain ⟨h', qd, qp, p, R, Br, F⟩ := C_hear (B := 11) I0 (Or.inl rfl) hs hl
  obtain ⟨e10, hL⟩ := R.len
  have main : (gi hM 26 t = -1 ∨ gi hM 26 t = 0) → Ok (m_X8_judge_L45 a2 (nI s) (180 + 2 * t) hC) fun v hC' => Ok (m_X9_judge_L36 FU (nI t) a2 (nI s) 0 0 hM) fun w hM' => v = w ∧ InvE hC' hM' := by
    intro hs26
    unfold m_X8_judge_L45
    rw [ck_true _ (inb_nI s5 (by decide)), nI_clamp (show s < 2 ^ 31 by omega), Nat.one_mul, e3, p, cb_some]
    by_cases ha : a2 < 0
    · have q := M_judgeN (s := s) G ht ha FU nc 0 _ hM (by omega) (by unfold FU; omega) (EqK.of (EqM.rfl' hM))
      rw [← LS_nc G] at q
      refine fin2 (v := if LsS hM (nI s) = [] then -5 else 100 + nI 0) (hC := h') ?_ q rfl (I.eq (F.eqC (Or.inl rfl)) (EqM.rfl' hM))
      show m_X8_judge_L66 (1199 + 1) a2 (180 + 2 * t) 0 h' = _
      unfold m_X8_judge_L66
      rw [e10]
      by_cases hz : LsS hM (nI s) = []
      · rw [hz, if_pos rfl]; rfl
      · have hlen : (LsS hM (nI s)).length ≠ 0 := fun e => hz (List.eq_nil_of_length_eq_zero e)
        rw [if_neg (show ¬ nI (LsS hM (nI s)).length ≤ 0 from nI_ge (b := (LsS hM (nI s)).length) (a := 0) (by omega) (by omega)), if_neg hz, vb_eq]
        have e2 : gi h' (180 + 2 * t) 2 = nI n := by rw [(F _ (by omega)).1]; exact y1
        have ei : (a2.toInt64 + (0 : Int32).toInt64).toInt = a2.toInt := by
          rw [show (0 : Int32).toInt64 = 0 from rfl, Int64.add_zero, Int32.toInt_toInt64]
        rw [C_place hn e2 _ a2.toInt ei, cb_some, if_neg (show ¬ (0 ≤ a2.toInt ∧ a2.toInt < (n : Int)) from fun q => by rw [Int32.lt_iff_toInt_lt] at ha; have : (0 : Int32).toInt = 0 := rfl; omega), if00]
        rfl
    · have hi : ∃ i : Nat, i < 2 ^ 31 ∧ a2 = nI i := by
        have lt := Int32.toInt_lt a2
        rw [Int32.lt_iff_toInt_lt] at ha
        have z : (0 : Int32).toInt = 0 := rfl
        refine ⟨a2.toInt.toNat, by omega, i_ext ?_⟩
        rw [nI_toInt (by omega)]; omega
      obtain ⟨i, hi, rfl⟩ := hi
      have c := C_judge R hi ht hn (by rw [(F _ (by omega)).1]; exact y1) (fun j hj => by rw [(F _ (by omega)).2.1]; exact y6 j hj) FU 0 (by omega) (by unfold FU; omega)
      have hL' := hL
      rw [LS_nc G] at hL'
      obtain ⟨k1, z, q, w⟩ := M_judge G hl s5 e4 hi ht hn y2 (fun h => y3 (hs26.resolve_right (fun e => by rw [e] at h; exact absurd h (by decide)))) hL FU nc 0 0 _ hM (by omega) (by unfold FU; omega) (by omega) (EqK.of (EqM.rfl' hM))
      rw [← LS_nc G] at q
      exact fin2 c q rfl (I.eq (F.eqC (Or.inl rfl)) w.1)
  rcases y5 with h | ⟨j, hj, h⟩
  · rw [h, if_pos rfl, if_pos (by decide)]; exact main (Or.inl h)
  · rw [h, if_neg (fun e => nI_pos (n := j) (by omega) (by rw [e]; decide))]
    by_cases hj0 : j = 0
    · subst hj0
      rw [if_pos (show nI 0 = 0 from rfl), if_pos (show nI 0 ≤ 0 by decide)]; exact main (Or.inr h)
    · rw [if_neg (show ¬ nI j = 0 from fun e => hj0 ((nI_eq (b := 0) (by omega) (by decide)).mp e)), if_neg (show ¬ nI j ≤ 0 from nI_ge (b := j) (a := 0) (by omega) (by omega))]
      exact Inv.ok rfl I
