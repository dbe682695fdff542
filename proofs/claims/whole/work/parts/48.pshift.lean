theorem C_run {hC : Hp} {a n : Nat} (hn : n ≤ 60) (e : gi hC a 2 = nI n) (x y : Int32) : m_X7_holdsRun a x y hC = some (if 0 ≤ x.toInt ∧ 0 ≤ y.toInt ∧ x.toInt + y.toInt ≤ n then 1 else 0, hC) := by
  unfold m_X7_holdsRun
  rw [e]
  have e1 : (0 : Int32).toInt = 0 := rfl
  have e3 : (nI n).toInt64.toInt = n := by rw [Int32.toInt_toInt64, nI_toInt (by omega)]
  have bx := Int32.toInt_lt x
  have bx' := Int32.le_toInt x
  have bz := Int32.toInt_lt y
  have bz' := Int32.le_toInt y
  have e4 : (x.toInt64 + y.toInt64).toInt = x.toInt + y.toInt := by
    rw [l_add (by rw [Int32.toInt_toInt64, Int32.toInt_toInt64]; omega) (by rw [Int32.toInt_toInt64, Int32.toInt_toInt64]; omega), Int32.toInt_toInt64, Int32.toInt_toInt64]
  simp only [Int32.lt_iff_toInt_lt, Int64.lt_iff_toInt_lt, e1, e3, e4]
  by_cases h1 : x.toInt < 0
  · rw [if_pos h1, if_neg (by omega)]
  · rw [if_neg h1]
    by_cases h2 : y.toInt < 0
    · rw [if_pos h2, if_neg (by omega)]
    · rw [if_neg h2]
      by_cases h3 : (n : Int) < x.toInt + y.toInt
      · rw [if_pos h3, if_neg (by omega)]
      · rw [if_neg h3, if_pos (by omega)]
theorem M_aside {t i n : Nat} (ht : t < 6) (hi : i + n ≤ 60) {a3 a4 : Int32} : ∀ m k (h : Hp), k ≤ n → n - k < m → ∃ h', m_X9_shift_L104 m (nI t) (nI i) a3 a4 (nI n) (nI k) h = m_X9_shift_L141 FU a3 a4 (nI n) 0 h' ∧ FrL 29 h h' ∧ ∀ j, gl h' 29 j = if k ≤ j ∧ j < n then gl h 28 (60 * t + i + j) else gl h 29 j
  | 0, k, h, _, h2 => by omega
  | m + 1, k, h, h1, h2 => by
    unfold m_X9_shift_L104
    by_cases hk : k = n
    · subst hk
      refine ⟨h, ?_, FrL.refl _ _, fun j => ?_⟩
      · rw [if_pos (nI_le (Nat.le_refl _) (by omega))]
      · rw [if_neg (by omega)]
    · obtain ⟨h', p, f, q⟩ := M_aside ht hi (a3 := a3) (a4 := a4) m (k + 1) (sl h 29 k (gl h 28 (60 * t + i + k))) (by omega) (by omega)
      refine ⟨h', ?_, f.sl, fun j => ?_⟩
      · rw [if_neg (nI_ge (by omega) (by omega)), nI_60, nI_add, ck_true _ (inb_nI (by omega) (by decide)), ck_true _ (inb_nI (by omega) (by decide)), nI_clamp (by omega), nI_clamp (by omega)]
        simp only [hb_eq, vb_eq, nI_1]; exact p
      · have E1 : ∀ x, gl (sl h 29 k (gl h 28 (60 * t + i + k))) 28 x = gl h 28 x := fun x => gl_sl_ne (by decide)
        rw [q j, E1]
        by_cases hj : j = k
        · subst hj
          rw [if_neg (by omega), gl_sl, if_pos (by omega)]
        · rw [gl_sl_nk hj]
          by_cases h3 : k + 1 ≤ j ∧ j < n
          · rw [if_pos h3, if_pos (by omega)]
          · rw [if_neg h3, if_neg (by omega)]
theorem M_back {o j n : Nat} (ho : o < 6) (hj : j + n ≤ 60) : ∀ m k (h : Hp), k ≤ n → n - k < m → ∃ h', m_X9_shift_L141 m (nI o) (nI j) (nI n) (nI k) h = some (nI n, h') ∧ FrL 28 h h' ∧ ∀ x, gl h' 28 x = if 60 * o + j + k ≤ x ∧ x < 60 * o + j + n then gl h 29 (x - (60 * o + j)) else gl h 28 x
  | 0, k, h, _, h2 => by omega
  | m + 1, k, h, h1, h2 => by
    unfold m_X9_shift_L141
    by_cases hk : k = n
    · subst hk
      refine ⟨h, ?_, FrL.refl _ _, fun j => ?_⟩
      · rw [if_pos (nI_le (Nat.le_refl _) (by omega))]
      · rw [if_neg (by omega)]
    · obtain ⟨h', p, f, q⟩ := M_back ho hj m (k + 1) (sl h 28 (60 * o + j + k) (gl h 29 k)) (by omega) (by omega)
      refine ⟨h', ?_, f.sl, fun x => ?_⟩
      · rw [if_neg (nI_ge (by omega) (by omega)), nI_60, nI_add, ck_true _ (inb_nI (by omega) (by decide)), ck_true _ (inb_nI (by omega) (by decide)), nI_clamp (by omega), nI_clamp (by omega)]
        simp only [hb_eq, vb_eq, nI_1]; exact p
      · have E1 : ∀ x, gl (sl h 28 (60 * o + j + k) (gl h 29 k)) 29 x = gl h 29 x := fun x => gl_sl_ne (by decide)
        rw [q x, E1]
        by_cases hx : x = 60 * o + j + k
        · subst hx
          rw [if_neg (by omega), gl_sl, if_pos (by omega), show 60 * o + j + k - (60 * o + j) = k by omega]
        · rw [gl_sl_nk hx]
          by_cases h3 : 60 * o + j + (k + 1) ≤ x ∧ x < 60 * o + j + n
          · rw [if_pos h3, if_pos (by omega)]
          · rw [if_neg h3, if_neg (by omega)]
theorem b_shift (a1 a2 a3 a4 a5 : Int32) : Both (m_X8_shift a1 a2 a3 a4 a5) (m_X9_shift a1 a2 a3 a4 a5) := by
  rintro hC hM ⟨ns, nc, nl, nf, I0⟩
  have I : InvE hC hM := ⟨ns, nc, nl, nf, I0⟩
  have i9 := I0.2.2.2.2.2.2.2.2.1
  unfold m_X8_shift m_X9_shift
  rcases isTape_both hC hM a1 with ⟨p1, p2⟩ | ⟨t, ht, rfl, p1, p2⟩
  · simp only [p1, p2, cb_some, if00]; exact Inv.ok rfl I
  simp only [p1, p2, cb_some, if10]
  rcases isTape_both hC hM a3 with ⟨p1, p2⟩ | ⟨o, ho, rfl, p1, p2⟩
  · simp only [p1, p2, cb_some, if00]; exact Inv.ok rfl I
  simp only [p1, p2, cb_some, if10]
  obtain ⟨⟨n, hn, s1, s2, s3⟩, s4, s5, s6⟩ := i9 t ht
  obtain ⟨⟨n', hn', s1', s2', s3'⟩, s4', s5', s6'⟩ := i9 o ho
  rw [ck_true _ (inb_nI ht (by decide)), ck_true _ (inb_nI ho (by decide)), ck_true _ (inb_nI ht (by decide)), ck_true _ (inb_nI ho (by decide)), nI_clamp (show t < 2 ^ 31 by omega), nI_clamp (show o < 2 ^ 31 by omega), s4, s4', s2, s2', C_run hn s1]
  rcases tape_split s5 with ⟨z1, z2, z3⟩ | ⟨z1, z2, z3, -⟩
  · rw [if_pos z1, if_pos z2]; exact Inv.ok rfl I
  rw [if_neg z1, if_neg z2]
  rcases tape_split s5' with ⟨y1, y2, y3⟩ | ⟨y1, y2, y3, -⟩
  · rw [if_pos y1, if_neg y3]; exact Inv.ok rfl I
  rw [if_neg y1, if_pos y3]
  by_cases hs : gi hM 26 t = gi hM 26 o
  case neg => rw [if_neg hs, if_neg hs]; exact Inv.ok rfl I
  rw [if_pos hs, if_pos hs]
  have e1 : (0 : Int32).toInt = 0 := rfl
  have q1 := Int32.toInt_lt a5
  have q1' := Int32.le_toInt a5
  by_cases good : 0 ≤ a2.toInt ∧ 0 ≤ a5.toInt ∧ a2.toInt + a5.toInt ≤ n ∧ 0 ≤ a4.toInt ∧ a4.toInt + a5.toInt ≤ n'
  · obtain ⟨g1, g2, g3, g4, g5⟩ := good
    obtain ⟨i, hi, rfl⟩ := nI_of (x := a2) (by rw [Int32.lt_iff_toInt_lt, e1]; omega)
    obtain ⟨j, hj, rfl⟩ := nI_of (x := a4) (by rw [Int32.lt_iff_toInt_lt, e1]; omega)
    obtain ⟨k, hk, rfl⟩ := nI_of (x := a5) (by rw [Int32.lt_iff_toInt_lt, e1]; omega)
    rw [nI_toInt hi, nI_toInt hk] at g3
    rw [nI_toInt hj, nI_toInt hk] at g5
    have ck1 : cpk (nI i) (nI j) (nI k) 60 60 = true := by
      unfold cpk
      rw [nI_clamp hi, nI_clamp hj, nI_clamp hk, decide_eq_true (nI_pos hi), decide_eq_true (nI_pos hj), decide_eq_true (nI_pos hk), decide_eq_true (show i + k ≤ 60 by omega), decide_eq_true (show j + k ≤ 60 by omega)]; rfl
    rw [if_pos (by rw [nI_toInt hi, nI_toInt hk]; omega)]
    simp only [cb_some, if10]
    rw [C_run hn' s1', if_pos (by rw [nI_toInt hj, nI_toInt hk]; omega)]
    simp only [cb_some, if10, ck_true _ ck1, hb_eq]
    rw [pk_sub (show k ≤ n by omega), pk_sub (show k ≤ n' by omega), if_neg (nI_pos hk), if_neg (nI_pos hi), if_neg (nI_pos hj), if_neg (nI_nlt (a := n - k) (b := i) (by omega) (by omega)), if_pos (nI_le (a := j) (b := n' - k) (by omega) (by omega)), nI_clamp hi, nI_clamp hj, nI_clamp hk]
    obtain ⟨h1, r1, f1, w1⟩ := M_aside ht (show i + k ≤ 60 by omega) (a3 := nI o) (a4 := nI j) FU 0 hM (by omega) (by unfold FU; omega)
    obtain ⟨h2, r2, f2, w2⟩ := M_back ho (show j + k ≤ 60 by omega) FU 0 h1 (by omega) (by unfold FU; omega)
    rw [show (0 : Int32) = nI 0 from rfl, r1, show (0 : Int32) = nI 0 from rfl, r2]
    refine Inv.ok rfl ⟨ns, nc, nl, nf, I0.tape ho hn' s5' s3' (fun a => ?_) (fun a => rfl) (fun a ha => ?_) (fun a => ?_) (fun u hu hut m hm => ?_) (fun m hm => ?_)⟩
    · rw [si_same (si hC (180 + 2 * o) 1 (gi hM 26 o)) (180 + 2 * o) 2 (nI n') (by rw [gi_si_nk (by decide)]; exact s1'), si_same hC _ _ _ s4']; rfl
    · funext m
      show (if a = 180 + 2 * o + 1 then _ else _) = _
      rw [if_neg ha]; rfl
    · rw [f2.1, f1.1, si_same (si hM 26 o (gi hM 26 o)) 27 o (nI n') (by rw [gi_si_ne (by decide)]; exact s2'), si_same hM _ _ _ rfl]
    · rw [w2, if_neg (by omega), f1.2.2 28 (by decide)]
    · have e : gl (cpL hC (180 + 2 * t + 1) i (180 + 2 * o + 1) j k) (180 + 2 * o + 1) m = va_cpy (gl hC (180 + 2 * t + 1)) (gl hC (180 + 2 * o + 1)) i j k m := by
        show (if 180 + 2 * o + 1 = 180 + 2 * o + 1 then _ else _) = _
        rw [if_pos rfl]; rfl
      rw [e, w2]
      by_cases hm2 : j ≤ m ∧ m < j + k
      · rw [pk_cpy_in hm2.1 hm2.2, if_pos (by omega), w1, if_pos (by omega), s6 _ (by omega)]
        congr 1; omega
      · rw [pk_cpy_out (by omega), if_neg (by omega), f1.2.2 28 (by decide)]
        exact s6' m hm
  · have cC : Ok (cb (some (if 0 ≤ a2.toInt ∧ 0 ≤ a5.toInt ∧ a2.toInt + a5.toInt ≤ ↑n then (1 : Int32) else 0, hC)) fun v12 h13 => if v12 = 0 then some ((-13 : Int32), h13) else cb (m_X7_holdsRun (180 + 2 * o) a4 a5 h13) fun v15 h16 => if v15 = 0 then some ((-13), h16) else ck (cpk a2 a4 a5 60 60) (hb (cpL h16 (180 + 2 * t + 1) a2.toNatClampNeg (180 + 2 * o + 1) a4.toNatClampNeg a5.toNatClampNeg) fun h19 => some (a5, h19))) fun v h => v = -13 ∧ h = hC := by
      by_cases c1 : 0 ≤ a2.toInt ∧ 0 ≤ a5.toInt ∧ a2.toInt + a5.toInt ≤ n
      · rw [if_pos c1]
        simp only [cb_some, if10]
        rw [C_run hn' s1', if_neg (by omega)]
        simp only [cb_some, if00]
        exact Ok.ret ⟨rfl, rfl⟩
      · rw [if_neg c1]
        simp only [cb_some, if00]
        exact Ok.ret ⟨rfl, rfl⟩
    obtain ⟨v, k, e, rfl, rfl⟩ := cC
    rw [e]
    have cM : (if a5 < 0 then some ((-13 : Int32), hM) else if a2 < 0 then some (-13, hM) else if a4 < 0 then some (-13, hM) else if nI n - a5 < a2 then some (-13, hM) else if a4 ≤ nI n' - a5 then m_X9_shift_L104 FU (nI t) a2 (nI o) a4 a5 0 hM else some (-13, hM)) = some (-13, hM) := by
      by_cases c1 : a5 < 0
      · rw [if_pos c1]
      · rw [if_neg c1]
        by_cases c2 : a2 < 0
        · rw [if_pos c2]
        · rw [if_neg c2]
          by_cases c3 : a4 < 0
          · rw [if_pos c3]
          · rw [if_neg c3]
            rw [Int32.lt_iff_toInt_lt, e1] at c1 c2 c3
            have t1 : (nI n - a5).toInt = n - a5.toInt := by rw [i_sub (by rw [nI_toInt (by omega)]; omega) (by rw [nI_toInt (by omega)]; omega), nI_toInt (by omega)]
            have t2 : (nI n' - a5).toInt = n' - a5.toInt := by rw [i_sub (by rw [nI_toInt (by omega)]; omega) (by rw [nI_toInt (by omega)]; omega), nI_toInt (by omega)]
            by_cases c4 : nI n - a5 < a2
            · rw [if_pos c4]
            · rw [if_neg c4]
              rw [Int32.lt_iff_toInt_lt, t1] at c4
              rw [if_neg (by rw [Int32.le_iff_toInt_le, t2]; omega)]
    rw [cM]
    exact Inv.ok rfl I
