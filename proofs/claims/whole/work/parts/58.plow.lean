/-! ===== pure: what is paid is a small number; lowest terms ===== -/
theorem GoM.law {ns nc nl l : Nat} {g : Hp} (G : GoM ns nc nl g) (hl : l < nl) : ∃ a b c d : Nat, a ≤ 99 ∧ 1 ≤ b ∧ b ≤ 99 ∧ c ≤ 99 ∧ 1 ≤ d ∧ d ≤ 99 ∧ gi g 13 l = nI a ∧ gi g 14 l = nI b ∧ gi g 15 l = nI c ∧ gi g 16 l = nI d := by
  obtain ⟨hC, L⟩ := G.2.2.2.2.2.2 l hl
  obtain ⟨-, a, b, c, d, e, a1, b1, b2, c1, d1, d2, e99, c7, c8, c9, c10, c11, m13, m14, m15, m16, m17⟩ := L
  exact ⟨a, b, c, d, a1, b1, b2, c1, d1, d2, m13, m14, m15, m16⟩
theorem line_lN {ns nc nl l : Nat} {g : Hp} (G : GoM ns nc nl g) (hl : l < nl) : ∃ n : Nat, 1 ≤ n ∧ n ≤ 9801 ∧ lineS g l = lN n := by
  obtain ⟨a, b, c, d, a1, b1, b2, c1, d1, d2, m13, m14, m15, m16⟩ := G.law hl
  refine ⟨b * d, Nat.mul_pos b1 d1, Nat.mul_le_mul b2 d2, ?_⟩
  unfold lineS
  rw [m14, m16, nI_l (by omega), nI_l (by omega), lN_mul]
theorem paid_lN {ns nc nl l c : Nat} {g : Hp} (G : GoM ns nc nl g) (hl : l < nl) (hc : c < nc) (sw th : Bool) : ∃ n : Nat, n ≤ 2000000 ∧ paidS g l c sw th = lN n := by
  obtain ⟨a, b, d, e, a1, b1, b2, c1, d1, d2, m13, m14, m15, m16⟩ := G.law hl
  obtain ⟨-, x, n, w, r3, r1, r9, z1, z2, z3, z4⟩ := G.2.2.2.1 c hc
  have p : ∀ u v w z : Nat, u ≤ 99 → v ≤ 99 → w ≤ 99 → u * v * w ≤ 970299 := fun u v w z h1 h2 h3 => Nat.mul_le_mul (Nat.mul_le_mul h1 h2) h3
  have p2 : ∀ u, u ≤ 99 → u * (b * e) ≤ 970299 := fun u hu => Nat.mul_le_mul hu (Nat.mul_le_mul b2 d2)
  have eo : rowS g c 1 - rowS g c 3 = nI (n - x) := by
    show gi g 6 (10 * c + 1) - gi g 6 (10 * c + 3) = _
    rw [show gi g 6 (10 * c + 1) = nI n from r1, show gi g 6 (10 * c + 3) = nI x from r3, pk_sub z1]
  have ea : rowS g c 3 = nI x := r3
  have X : ∃ m : Nat, m ≤ 970299 ∧ paidS g l c sw th = lN (x * (b * e)) + lN m := by
    unfold paidS paidF lineS
    rw [eo, ea, m13, m14, m15, m16, nI_l (show a < 2 ^ 31 by omega), nI_l (show b < 2 ^ 31 by omega), nI_l (show d < 2 ^ 31 by omega), nI_l (show e < 2 ^ 31 by omega), nI_l (show x < 2 ^ 31 by omega), nI_l (show n - x < 2 ^ 31 by omega)]
    simp only [lN_mul]
    have z : ∃ m : Nat, m ≤ 970299 ∧ lN (x * (b * e)) + 0 = lN (x * (b * e)) + lN m := ⟨0, by omega, rfl⟩
    have o : ∃ m : Nat, m ≤ 970299 ∧ lN (x * (b * e)) + lN ((n - x) * (b * e)) = lN (x * (b * e)) + lN m := ⟨_, p2 _ (by omega), rfl⟩
    split
    · exact o
    · split
      · split
        · exact ⟨_, p _ _ _ 0 (by omega) c1 b2, rfl⟩
        · split
          · split
            · exact o
            · exact z
          · split
            · exact z
            · split
              · split
                · exact o
                · exact z
              · exact ⟨_, p _ _ _ 0 (by omega) a1 d2, rfl⟩
      · exact z
  obtain ⟨m, hm, e⟩ := X
  refine ⟨_, ?_, e.trans (lN_add _ _)⟩
  have := p2 x (by omega)
  omega
theorem sum_lN {f : Nat → Int64} : ∀ (L : List Nat) (a : Nat), (∀ c ∈ L, ∃ n : Nat, n ≤ 2000000 ∧ f c = lN n) → ∃ m : Nat, m ≤ a + 2000000 * L.length ∧ sumL f (lN a) L = lN m
  | [], a, _ => ⟨a, by simp, rfl⟩
  | c :: L, a, h => by
    obtain ⟨n, hn, e⟩ := h c (by simp)
    obtain ⟨m, hm, e'⟩ := sum_lN L (a + n) (fun d hd => h d (by simp [hd]))
    refine ⟨m, ?_, ?_⟩
    · rw [List.length_cons]; omega
    · show sumL f (lN a + f c) L = _
      rw [e, lN_add]; exact e'
theorem tru_lN {ns nc nl l : Nat} {g : Hp} {x : Int32} (G : GoM ns nc nl g) (hl : l < nl) (hL : (LsS g x).length ≤ 6) : ∃ m : Nat, m ≤ 12000000 ∧ sumL (truF g l) 0 (LsS g x) = lN m := by
  obtain ⟨m, hm, e⟩ := sum_lN (f := truF g l) (LsS g x) 0 (fun c hc => paid_lN G hl ((LS_mem G).mp hc).1 _ _)
  exact ⟨m, by omega, e⟩
theorem C_eu {n p q k : Nat} {h : Hp} (hp : p < 2 ^ 62) (hq : q < 2 ^ 62) (hk : k < 1000) (q0 : q ≠ 0) : m_X8_commonDivisor_L9 (n + 1) (lN p) (lN q) (nI k) h = m_X8_commonDivisor_L9 n (lN q) (lN (p % q)) (nI (k + 1)) h := by
  have e : ¬ lN q = 0 := fun e => q0 ((pk_lEQ (b := 0) (by omega) (by decide)).mp e)
  conv => lhs; unfold m_X8_commonDivisor_L9
  rw [if_neg (show ¬ (1000 : Int32) ≤ nI k from nI_ge (a := k) (b := 1000) hk (by decide)), if_neg e, ck_true _ (decide_eq_true e), vb_eq, vb_eq, pk_lRem (by omega) (by omega) (by omega), nI_1]
theorem C_eu0 {n p k : Nat} {h : Hp} (hk : k < 1000) : m_X8_commonDivisor_L9 (n + 1) (lN p) (lN 0) (nI k) h = some (lN p, h) := by
  unfold m_X8_commonDivisor_L9
  rw [if_neg (show ¬ (1000 : Int32) ≤ nI k from nI_ge (a := k) (b := 1000) hk (by decide)), if_pos (show lN 0 = 0 from rfl)]
theorem M_eu {n p q : Nat} {h : Hp} (hp : p < 2 ^ 62) (hq : q < 2 ^ 62) (q0 : q ≠ 0) : m_X9_divisor_L17 (n + 1) (lN p) (lN q) h = m_X9_divisor_L17 n (lN q) (lN (p % q)) h := by
  have e : ¬ lN q = 0 := fun e => q0 ((pk_lEQ (b := 0) (by omega) (by decide)).mp e)
  conv => lhs; unfold m_X9_divisor_L17
  rw [if_neg e, ck_true _ (decide_eq_true e), vb_eq, pk_lRem (by omega) (by omega) (by omega)]
theorem M_eu0 {n p : Nat} {h : Hp} : m_X9_divisor_L17 (n + 1) (lN p) (lN 0) h = some (lN p, h) := by
  unfold m_X9_divisor_L17
  rw [if_pos (show lN 0 = 0 from rfl)]
theorem eu_both : ∀ m p q n n' k (h h' : Hp), q < 2 ^ m → p < 2 ^ 62 → q < 2 ^ 62 → 2 * m + 2 ≤ n → 2 * m + 2 ≤ n' → k + 2 * m + 2 ≤ 1000 → p ≠ 0 ∨ q ≠ 0 → ∃ d : Nat, d ≠ 0 ∧ d < 2 ^ 62 ∧ m_X8_commonDivisor_L9 n (lN p) (lN q) (nI k) h = some (lN d, h) ∧ m_X9_divisor_L17 n' (lN p) (lN q) h' = some (lN d, h') := by
  intro m
  induction m with
  | zero =>
    intro p q n n' k h h' h1 h2 h3 hn hn' hk hz
    have q0 : q = 0 := by omega
    subst q0
    obtain ⟨n, rfl⟩ := Nat.exists_eq_succ_of_ne_zero (by omega : n ≠ 0)
    obtain ⟨n', rfl⟩ := Nat.exists_eq_succ_of_ne_zero (by omega : n' ≠ 0)
    exact ⟨p, by omega, h2, C_eu0 (by omega), M_eu0⟩
  | succ m ih =>
    intro p q n n' k h h' h1 h2 h3 hn hn' hk hz
    obtain ⟨n, rfl⟩ : ∃ j, n = j + 1 + 1 := ⟨n - 2, by omega⟩
    obtain ⟨n', rfl⟩ : ∃ j, n' = j + 1 + 1 := ⟨n' - 2, by omega⟩
    by_cases q0 : q = 0
    · subst q0
      exact ⟨p, by omega, h2, C_eu0 (by omega), M_eu0⟩
    have r1 := Nat.mod_lt p (by omega : 0 < q)
    rw [C_eu h2 h3 (by omega) q0, M_eu h2 h3 q0]
    by_cases r0 : p % q = 0
    · rw [r0]
      exact ⟨q, q0, h3, C_eu0 (by omega), M_eu0⟩
    have r2 := Nat.mod_lt q (by omega : 0 < p % q)
    have r3 : q % (p % q) + p % q ≤ q := by
      have := Nat.mod_add_div q (p % q)
      have d1 : 1 ≤ q / (p % q) := Nat.div_pos (by omega) (by omega)
      have := Nat.mul_le_mul_left (p % q) d1
      omega
    have pw : 2 ^ (m + 1) = 2 * 2 ^ m := by rw [Nat.pow_succ, Nat.mul_comm]
    rw [C_eu h3 (by omega) (by omega) r0, M_eu h3 (by omega) r0]
    exact ih (p % q) (q % (p % q)) n n' (k + 1 + 1) h h' (by omega) (by omega) (by omega) (by omega) (by omega) (by omega) (Or.inl r0)
theorem low_both {a : Int64} {b : Nat} {part : Int32} (b1 : 1 ≤ b) (b2 : b < 2 ^ 40) (ha1 : -2 ^ 61 < a.toInt) (ha2 : a.toInt < 2 ^ 61) (h h' : Hp) : ∃ v, m_X8_lowest a (lN b) part h = some (v, h) ∧ m_X9_lowest a (lN b) part h' = some (v, h') := by
  have ab : ∃ p : Nat, p < 2 ^ 62 ∧ (if 0 < a then a else -a) = lN p ∧ m_X9_divisor a (lN b) h' = m_X9_divisor_L12 (lN b) (lN p) h' := by
    unfold m_X9_divisor
    by_cases h0 : 0 ≤ a
    · rw [if_pos h0]
      obtain ⟨p, hp, rfl⟩ := pk_lOf (x := a) (fun q => by rw [Int64.lt_iff_toInt_lt] at q; rw [Int64.le_iff_toInt_le] at h0; omega)
      rw [pk_lT hp] at ha2
      refine ⟨p, by omega, ?_, rfl⟩
      by_cases p0 : p = 0
      · subst p0; rfl
      · rw [if_pos (show 0 < lN p from (pk_lLT (a := 0) (by decide) hp).mpr (by omega))]
    · rw [if_neg h0, if_neg (fun q => h0 (by rw [Int64.lt_iff_toInt_lt] at q; rw [Int64.le_iff_toInt_le]; omega))]
      have hn : (-a).toInt = -a.toInt := by
        rw [Int64.toInt_neg]; exact Int.bmod_eq_of_le (by omega) (by omega)
      obtain ⟨p, hp, e⟩ := pk_lOf (x := -a) (fun q => by rw [Int64.lt_iff_toInt_lt, hn] at q; rw [Int64.le_iff_toInt_le] at h0; have : (0 : Int64).toInt = 0 := rfl; omega)
      refine ⟨p, ?_, e, by rw [e]⟩
      have := congrArg Int64.toInt e
      rw [hn, pk_lT hp] at this
      omega
  obtain ⟨p, hp, e1, e2⟩ := ab
  obtain ⟨d, d0, d1, c1, c2⟩ := eu_both 40 p b FU FU 0 h h' b2 hp (by omega) (by unfold FU; omega) (by unfold FU; omega) (by omega) (Or.inr (by omega))
  have dz : ¬ lN d = 0 := fun e => d0 ((pk_lEQ (b := 0) (by omega) (by decide)).mp e)
  unfold m_X8_lowest m_X9_lowest m_X8_commonDivisor
  rw [e1, e2]
  unfold m_X9_divisor_L12
  rw [show (0 : Int32) = nI 0 from rfl, c1, c2, cb_some, cb_some, if_neg dz]
  by_cases hp0 : part = nI 0
  · rw [if_pos hp0, if_pos hp0, ck_true _ (decide_eq_true dz), ck_true _ (decide_eq_true dz)]
    exact ⟨_, rfl, rfl⟩
  · rw [if_neg hp0, if_neg hp0, ck_true _ (decide_eq_true dz), ck_true _ (decide_eq_true dz)]
    exact ⟨_, rfl, rfl⟩
theorem low_lN {m b : Nat} {part : Int32} (hm : m < 2 ^ 40) (b1 : 1 ≤ b) (b2 : b < 2 ^ 40) (h h' : Hp) : ∃ v, m_X8_lowest (lN m) (lN b) part h = some (v, h) ∧ m_X9_lowest (lN m) (lN b) part h' = some (v, h') :=
  low_both b1 b2 (by rw [pk_lT (by omega)]; omega) (by rw [pk_lT (by omega)]; omega) h h'
