def FrL (A : Nat) (h h' : Hp) : Prop := (∀ a, gi h' a = gi h a) ∧ (∀ a, gr h' a = gr h a) ∧ ∀ a, a ≠ A → gl h' a = gl h a
theorem FrL.refl (A : Nat) (h : Hp) : FrL A h h := ⟨fun _ => rfl, fun _ => rfl, fun _ _ => rfl⟩
theorem FrL.sl {A k : Nat} {v : Int64} {h h' : Hp} (f : FrL A (sl h A k v) h') : FrL A h h' := ⟨fun a => f.1 a, fun a => f.2.1 a, fun a ha => (f.2.2 a ha).trans (gl_sl_na ha)⟩
theorem C_fill {A : Nat} {v : Int64} : ∀ n k (h : Hp), k ≤ 60 → 60 - k < n → ∃ h', m_J7_fill_d0a16_L6 n A v (nI k) 60 h = some ((), h') ∧ FrL A h h' ∧ ∀ j, gl h' A j = if k ≤ j ∧ j < 60 then v else gl h A j
  | 0, k, h, _, h2 => by omega
  | n + 1, k, h, h1, h2 => by
    unfold m_J7_fill_d0a16_L6
    by_cases hk : k = 60
    · subst hk
      refine ⟨h, ?_, FrL.refl _ _, fun j => ?_⟩
      · rw [if_pos (by decide)]
      · rw [if_neg (by omega)]
    · obtain ⟨h', p, f, q⟩ := C_fill n (k + 1) (sl h A k v) (by omega) (by omega)
      refine ⟨h', ?_, f.sl, fun j => ?_⟩
      · rw [if_neg (show ¬ (60 : Int32) ≤ nI k from nI_ge (a := k) (b := 60) (by omega) (by decide)), ck_true _ (inb_nI (by omega) (by decide)), nI_clamp (by omega)]
        simp only [hb_eq, vb_eq, nI_1]; exact p
      · rw [q j, gl_sl_if]
        by_cases hj : j = k
        · subst hj; simp [show ¬ (j + 1 ≤ j ∧ j < 60) by omega, show j < 60 by omega]
        · by_cases h3 : k + 1 ≤ j ∧ j < 60
          · rw [if_pos h3, if_pos (by omega)]
          · rw [if_neg h3, if_neg (by omega), if_neg (by omega)]
theorem nI_60 (t k : Nat) : 60 * nI t + nI k = nI (60 * t + k) := by
  rw [show (60 : Int32) = nI 60 from rfl, pk_mul, nI_add]
theorem M_fill {t : Nat} (ht : t < 6) : ∀ n k (h : Hp), k ≤ 60 → 60 - k < n → ∃ h', m_X9_tape_L69 n (nI t) (nI k) h = some (1, h') ∧ FrL 28 h h' ∧ ∀ j, gl h' 28 j = if 60 * t + k ≤ j ∧ j < 60 * t + 60 then 0 else gl h 28 j
  | 0, k, h, _, h2 => by omega
  | n + 1, k, h, h1, h2 => by
    unfold m_X9_tape_L69
    by_cases hk : k = 60
    · subst hk
      refine ⟨h, ?_, FrL.refl _ _, fun j => ?_⟩
      · rw [if_pos (by decide)]
      · rw [if_neg (by omega)]
    · obtain ⟨h', p, f, q⟩ := M_fill ht n (k + 1) (sl h 28 (60 * t + k) 0) (by omega) (by omega)
      refine ⟨h', ?_, f.sl, fun j => ?_⟩
      · rw [if_neg (show ¬ (60 : Int32) ≤ nI k from nI_ge (a := k) (b := 60) (by omega) (by decide)), nI_60, ck_true _ (inb_nI (by omega) (by decide)), nI_clamp (by omega)]
        simp only [hb_eq, vb_eq, nI_1]; exact p
      · rw [q j, gl_sl_if]
        by_cases hj : j = 60 * t + k
        · subst hj; simp [show ¬ (60 * t + (k + 1) ≤ 60 * t + k ∧ 60 * t + k < 60 * t + 60) by omega, show k < 60 by omega]
        · by_cases h3 : 60 * t + (k + 1) ≤ j ∧ j < 60 * t + 60
          · rw [if_pos h3, if_pos (by omega)]
          · rw [if_neg h3, if_neg (by omega), if_neg (by omega)]
theorem Inv.tape {ns nc nl nf : Nat} {hC hM kC kM : Hp} (I : Inv ns nc nl nf hC hM) {t n : Nat} {s : Int32} (ht : t < 6) (hn : n ≤ 60) (hs : s = -1 ∨ ∃ j : Nat, j ≤ 4 ∧ s = nI j) (hs0 : s = -1 → n = 0)
    (c1 : ∀ a, gi kC a = gi (si (si hC (180 + 2 * t) 1 s) (180 + 2 * t) 2 (nI n)) a) (c2 : ∀ a, gr kC a = gr hC a) (c3 : ∀ a, a ≠ 180 + 2 * t + 1 → gl kC a = gl hC a)
    (m1 : ∀ a, gi kM a = gi (si (si hM 26 t s) 27 t (nI n)) a) (m3 : ∀ u, u < 6 → u ≠ t → ∀ i, i < 60 → gl kM 28 (60 * u + i) = gl hM 28 (60 * u + i)) (e : ∀ i, i < 60 → gl kC (180 + 2 * t + 1) i = gl kM 28 (60 * t + i)) : Inv ns nc nl nf kC kM := by
  obtain ⟨i1, i2, i3, i4, i5, i6, i7, i8, i9, i10⟩ := I
  have n5 := i1.1.2.2
  have n24 := i1.2.1.2.2
  have n6 := i1.2.2.1.2.2
  refine ⟨i1.fr ?_ ?_ ?_ ?_ ?_ ?_ ?_ ?_, i2.fr ?_ ?_, i3.fr ?_ ?_ ?_ ?_, i4.fr ?_ ?_, i5.fr ?_ ?_ ?_ ?_ ?_ ?_ ?_, i6.fr ?_ ?_, fun l hl => (i7 l hl).fr ?_ ?_ ?_, i8.fr ?_ ?_ ?_ ?_, ?D, i10.fr (c2 _) (c2 _)⟩
  case D =>
    intro u hu
    obtain ⟨⟨n', h1, h2, h3, h4⟩, h5, h6, h7⟩ := i9 u hu
    rw [c1, m1 26, m1 27]
    by_cases hut : u = t
    · subst hut
      refine ⟨⟨n, hn, by simp [gi_si_if], by simp [gi_si_if], by simp [gi_si_if]; exact hs0⟩, by simp [gi_si_if], by simp [gi_si_if]; exact hs, e⟩
    · have e1 : gi (si (si hC (180 + 2 * t) 1 s) (180 + 2 * t) 2 (nI n)) (180 + 2 * u) = gi hC (180 + 2 * u) := by simp (disch := omega) only [gi_si_na]
      have e2 : gi (si (si hM 26 t s) 27 t (nI n)) 26 u = gi hM 26 u := by simp (disch := omega) only [gi_si_na, gi_si_nk]
      have e3 : gi (si (si hM 26 t s) 27 t (nI n)) 27 u = gi hM 27 u := by simp (disch := omega) only [gi_si_na, gi_si_nk]
      rw [e1, e2, e3]
      refine ⟨⟨n', h1, h2, h3, h4⟩, h5, h6, fun i hi => ?_⟩
      rw [c3 _ (by omega), m3 u hu hut i hi]
      exact h7 i hi
  all_goals first | (intros; simp (disch := omega) only [c1, m1, gi_si_na]; done) | (simp (disch := omega) only [c1, m1, gi_si_na, gi_si_ne, gi_si_nk]; done)
theorem sort_cases (x : Int32) : (x < -1) ∨ (¬ x < -1 ∧ ¬ x ≤ 4 ∧ 4 < x) ∨ x = -1 ∨ ∃ j, j < 5 ∧ x = nI j ∧ ¬ x < -1 ∧ x ≤ 4 ∧ ¬ 4 < x ∧ ¬ x = -1 ∧ ¬ x < 0 ∧ 0 ≤ x := by
  rcases ix_cases x 5 (by decide) (N := 5) (M := 4) rfl rfl with p | ⟨p0, p1, p2, p3, p4⟩ | ⟨j, hj, rfl, p0, p1, p2, p3, p4⟩
  · by_cases h : x = -1
    · exact Or.inr (Or.inr (Or.inl h))
    · left
      rw [Int32.lt_iff_toInt_lt] at *
      have : x.toInt ≠ -1 := fun e => h (i_ext (b := -1) (by rw [e]; rfl))
      have e1 : (0 : Int32).toInt = 0 := rfl
      have e2 : (-1 : Int32).toInt = -1 := rfl
      omega
  · right; left
    refine ⟨?_, p4, p2⟩
    intro h
    rw [Int32.lt_iff_toInt_lt] at *
    have e1 : (4 : Int32).toInt = 4 := rfl
    have e2 : (-1 : Int32).toInt = -1 := rfl
    omega
  · right; right; right
    refine ⟨j, hj, rfl, ?_, p4, p2, ?_, p0, nI_pos' (by omega)⟩
    · intro h
      rw [Int32.lt_iff_toInt_lt, nI_toInt (by omega)] at h
      have e2 : (-1 : Int32).toInt = -1 := rfl
      omega
    · intro h
      have := congrArg Int32.toInt h
      rw [nI_toInt (by omega)] at this
      have e2 : (-1 : Int32).toInt = -1 := rfl
      omega
theorem tape_do {ns nc nl nf : Nat} {hC hM : Hp} (I : Inv ns nc nl nf hC hM) {t n : Nat} {s : Int32} (ht : t < 6) (hn : n ≤ 60) (hs : s = -1 ∨ ∃ j : Nat, j ≤ 4 ∧ s = nI j) (hs0 : s = -1 → n = 0) : Ok (m_X8_tape_L65 (nI n) s (180 + 2 * t) hC) fun v hC' => Ok (m_X9_tape_L65 (nI t) (nI n) (nI t) 27 (si hM 26 t s)) fun w hM' => v = w ∧ InvE hC' hM' := by
  obtain ⟨kC, p, f, q⟩ := C_fill (A := 180 + 2 * t + 1) (v := 0) FU 0 (si (si hC (180 + 2 * t) 1 s) (180 + 2 * t) 2 (nI n)) (by decide) (by decide)
  obtain ⟨kM, p', f', q'⟩ := M_fill ht FU 0 (si (si hM 26 t s) 27 t (nI n)) (by decide) (by decide)
  refine ⟨1, kC, ?_, 1, kM, ?_, rfl, ns, nc, nl, nf, I.tape ht hn hs hs0 (fun a => f.1 a) (fun a => f.2.1 a) (fun a ha => f.2.2 a ha) (fun a => f'.1 a) (fun u hu hut i hi => ?_) (fun i hi => ?_)⟩
  · unfold m_X8_tape_L65 m_X7_become m_J7_fill_d0a16
    simp only [hb_eq]
    rw [show (0 : Int32) = nI 0 from rfl, p]; rfl
  · unfold m_X9_tape_L65
    rw [ck_true _ (inb_nI ht (by decide)), nI_clamp (by omega), hb_eq]
    exact p'
  · rw [q', if_neg (by omega)]; rfl
  · rw [q, q', if_pos (by omega), if_pos (by omega)]
theorem b_tape (a1 a2 a3 : Int32) : Both (m_X8_tape a1 a2 a3) (m_X9_tape a1 a2 a3) := by
  rintro hC hM ⟨ns, nc, nl, nf, I0⟩
  have I : InvE hC hM := ⟨ns, nc, nl, nf, I0⟩
  unfold m_X8_tape m_X9_tape
  rcases isTape_both hC hM a1 with ⟨p1, p2⟩ | ⟨t, ht, rfl, p1, p2⟩
  · simp only [p1, p2, cb_some, if00]; exact Inv.ok rfl I
  simp only [p1, p2, cb_some, if10]
  have cM : ∀ K : Option (Int32 × Hp), ck (inb (nI t) 6) K = K := fun K => ck_true K (inb_nI ht (by decide))
  have ct : (nI t).toNatClampNeg = t := nI_clamp (by omega)
  rcases sort_cases a2 with q | ⟨q0, q1, q2⟩ | rfl | ⟨j, hj, rfl, q0, q1, q2, q3, q4, q5⟩
  · simp only [m_X9_in, q, if_pos, cb_some, if00]; exact Inv.ok rfl I
  · simp only [m_X9_in, q0, q1, q2, if_pos, if_false, cb_some, if00]; exact Inv.ok rfl I
  · have T := tape_do I0 ht (show 0 ≤ 60 by decide) (s := -1) (Or.inl rfl) (fun _ => rfl)
    simp only [m_X9_in, show ¬ (-1 : Int32) < -1 by decide, show ¬ (4 : Int32) < -1 by decide, show (-1 : Int32) ≤ 4 by decide, show (-1 : Int32) < 0 by decide, show ¬ (0 : Int32) ≤ -1 by decide, if_false, if_pos, cb_some, if10, m_X8_tape_L36, m_X8_tape_L48, m_X9_tape_L33, m_X9_tape_L44, cM, hb_eq, ct]
    exact T
  · simp only [m_X9_in, q0, q1, q2, q3, q4, q5, if_false, if_pos, cb_some, if10, m_X8_tape_L36, m_X8_tape_L48, m_X9_tape_L33, m_X9_tape_L44, cM, hb_eq, ct]
    rcases ix_cases a3 61 (by decide) (N := 61) (M := 60) rfl rfl with r | ⟨r0, r1, r2, r3, r4⟩ | ⟨n, hn, rfl, r0, r1, r2, r3, r4⟩
    · have r1 : a3 ≤ 60 := by
        rw [Int32.lt_iff_toInt_lt] at r; rw [Int32.le_iff_toInt_le]
        have e1 : (0 : Int32).toInt = 0 := rfl
        have e2 : (60 : Int32).toInt = 60 := rfl
        omega
      have r2 : ¬ 0 ≤ a3 := by
        rw [Int32.lt_iff_toInt_lt] at r; rw [Int32.le_iff_toInt_le]
        omega
      simp only [r1, r2, if_false, if_pos]
      exact Inv.ok rfl I
    · simp only [r4, if_false]; exact Inv.ok rfl I
    · simp only [r4, if_pos, show 0 ≤ nI n from nI_pos' (by omega)]
      exact tape_do I0 ht (show n ≤ 60 by omega) (Or.inr ⟨j, by omega, rfl⟩) (fun e => absurd e q3)
theorem C_place {hC : Hp} {a n : Nat} (hn : n ≤ 60) (e : gi hC a 2 = nI n) (x : Int64) (i : Int) (hx : x.toInt = i) : m_X7_holdsPlace a x hC = some (if 0 ≤ i ∧ i < n then 1 else 0, hC) := by
  unfold m_X7_holdsPlace
  rw [e]
  have e1 : (0 : Int64).toInt = 0 := rfl
  have e2 : (60 : Int64).toInt = 60 := rfl
  have e3 : (nI n).toInt64.toInt = n := by rw [Int32.toInt_toInt64, nI_toInt (by omega)]
  simp only [Int64.lt_iff_toInt_lt, Int64.le_iff_toInt_le, e1, e2, e3, hx]
  by_cases h1 : i < 0
  · rw [if_pos h1, if_neg (by omega)]
  · rw [if_neg h1]
    by_cases h2 : (n : Int) ≤ i
    · rw [if_pos h2, if_neg (by omega)]
    · rw [if_neg h2, if_neg (by omega), if_pos (by omega)]
theorem tape_split {s : Int32} (h : s = -1 ∨ ∃ j : Nat, j ≤ 4 ∧ s = nI j) : (s = -1 ∧ s < 0 ∧ ¬ 0 ≤ s) ∨ (¬ s = -1 ∧ ¬ s < 0 ∧ 0 ≤ s ∧ ∃ j : Nat, j ≤ 4 ∧ s = nI j) := by
  rcases h with rfl | ⟨j, hj, rfl⟩
  · exact Or.inl ⟨rfl, by decide, by decide⟩
  · rcases (show j = 0 ∨ j = 1 ∨ j = 2 ∨ j = 3 ∨ j = 4 by omega) with rfl | rfl | rfl | rfl | rfl <;> exact Or.inr ⟨by decide, by decide, by decide, _, hj, rfl⟩
theorem in_size (x : Int32) (n : Nat) (hn : n ≤ 60) (h : Hp) : (m_X9_in x 0 (nI n - 1) h = some (0, h) ∧ ¬ (0 ≤ x.toInt ∧ x.toInt < (n : Int))) ∨ ∃ j, j < n ∧ x = nI j ∧ m_X9_in x 0 (nI n - 1) h = some (1, h) := by
  rcases in_0 x (nI n - 1) h n (by omega) (nIm1 (by omega)) with ⟨p, q⟩ | q
  · refine Or.inl ⟨p, ?_⟩
    rcases q with q | q
    · rw [Int32.lt_iff_toInt_lt] at q
      have e1 : (0 : Int32).toInt = 0 := rfl
      omega
    · rw [Int32.le_iff_toInt_le, nI_toInt (by omega)] at q
      omega
  · exact Or.inr q
theorem b_read (a1 a2 : Int32) : Both (m_X8_read a1 a2) (m_X9_read a1 a2) := by
  rintro hC hM ⟨ns, nc, nl, nf, I0⟩
  have I : InvE hC hM := ⟨ns, nc, nl, nf, I0⟩
  have i9 := I0.2.2.2.2.2.2.2.2.1
  unfold m_X8_read m_X9_read
  rcases isTape_both hC hM a1 with ⟨p1, p2⟩ | ⟨t, ht, rfl, p1, p2⟩
  · simp only [p1, p2, cb_some, if00]; exact Inv.ok rfl I
  simp only [p1, p2, cb_some, if10]
  obtain ⟨⟨n, hn, s1, s2, s3⟩, s4, s5, s6⟩ := i9 t ht
  rw [ck_true _ (inb_nI ht (by decide)), ck_true _ (inb_nI ht (by decide)), nI_clamp (by omega), C_place hn s1 a2.toInt64 a2.toInt (Int32.toInt_toInt64 _), s2]
  rcases tape_split s5 with ⟨z1, z2, z3⟩ | ⟨z1, z2, z3, j, hj, z4⟩
  · have : n = 0 := s3 z1
    subst this
    rw [if_pos z2, if_neg (by omega)]
    simp only [cb_some, if00]
    exact Inv.ok rfl I
  · rw [if_neg z2]
    rcases in_size a2 n hn hM with ⟨q1, q2⟩ | ⟨i, hi, rfl, q1⟩
    · rw [q1, if_neg q2]
      simp only [cb_some, if00]
      exact Inv.ok rfl I
    · rw [q1, nI_toInt (by omega), if_pos (by omega)]
      simp only [cb_some, if10, nI_60]
      rw [ck_true _ (inb_nI (by omega) (by decide)), ck_true _ (inb_nI (by omega) (by decide)), nI_clamp (by omega), nI_clamp (by omega)]
      exact Inv.ok (s6 i (by omega)) I
theorem cut_eq {hC hM : Hp} {a : Nat} {s : Int32} (e : gi hC a 1 = s) (v : Int64) : ∃ w, m_X7_cut a v hC = some (w, hC) ∧ m_X9_narrow s v hM = some (w, hM) := by
  unfold m_X7_cut m_X9_narrow
  rw [e]
  simp only [vb_eq]
  by_cases h0 : s = 0
  · simp only [h0, if_pos]; exact ⟨_, rfl, rfl⟩
  by_cases h1 : s = 1
  · simp only [h0, h1, if_pos, if_false]; exact ⟨_, rfl, rfl⟩
  by_cases h2 : s = 2
  · simp only [h0, h1, h2, if_pos, if_false]; exact ⟨_, rfl, rfl⟩
  by_cases h3 : s = 3
  · subst h3; simp; 
  by_cases h4 : s = 4
  · simp only [h0, h1, h2, h3, h4, if_pos, if_false]
    by_cases hv : v = 0
    · simp only [hv, if_pos]; exact ⟨_, rfl, rfl⟩
    · simp only [hv, if_false]; exact ⟨_, rfl, rfl⟩
  · simp only [h0, h1, h2, h3, h4, if_false]; exact ⟨_, rfl, rfl⟩
theorem si_same (h : Hp) (a k : Nat) (v : Int32) (e : gi h a k = v) : ∀ b, gi (si h a k v) b = gi h b := by
  intro b; funext j
  rw [gi_si_if]
  split
  · rename_i q; rw [q.1, q.2, e]
  · rfl
theorem b_item (a1 a2 : Int32) (v : Int64) : Both (m_X8_item a1 a2 v) (m_X9_item a1 a2 v) := by
  rintro hC hM ⟨ns, nc, nl, nf, I0⟩
  have I : InvE hC hM := ⟨ns, nc, nl, nf, I0⟩
  have i9 := I0.2.2.2.2.2.2.2.2.1
  unfold m_X8_item m_X9_item
  rcases isTape_both hC hM a1 with ⟨p1, p2⟩ | ⟨t, ht, rfl, p1, p2⟩
  · simp only [p1, p2, cb_some, if00]; exact Inv.ok rfl I
  simp only [p1, p2, cb_some, if10]
  obtain ⟨⟨n, hn, s1, s2, s3⟩, s4, s5, s6⟩ := i9 t ht
  rw [ck_true _ (inb_nI ht (by decide)), ck_true _ (inb_nI ht (by decide)), nI_clamp (by omega), C_place hn s1 a2.toInt64 a2.toInt (Int32.toInt_toInt64 _), s2, s4]
  rcases tape_split s5 with ⟨z1, z2, z3⟩ | ⟨z1, z2, z3, j, hj, z4⟩
  · rw [if_pos z1, if_neg z3]
    exact Inv.ok rfl I
  · rw [if_neg z1, if_pos z3]
    rcases in_size a2 n hn hM with ⟨q1, q2⟩ | ⟨i, hi, rfl, q1⟩
    · rw [q1, if_neg q2]
      simp only [cb_some, if00]
      exact Inv.ok rfl I
    · rw [q1, nI_toInt (by omega), if_pos (by omega)]
      simp only [cb_some, if10, nI_60]
      obtain ⟨w, w1, w2⟩ := cut_eq (hM := hM) s4 v
      rw [w1, w2]
      simp only [cb_some, hb_eq]
      rw [ck_true _ (inb_nI (by omega) (by decide)), ck_true _ (inb_nI (by omega) (by decide)), nI_clamp (by omega), nI_clamp (by omega)]
      refine Inv.ok rfl ⟨ns, nc, nl, nf, I0.tape ht hn s5 s3 (fun a => ?_) (fun a => rfl) (fun a ha => gl_sl_na ha) (fun a => ?_) (fun u hu hut k hk => ?_) (fun k hk => ?_)⟩
      · rw [si_same (si hC (180 + 2 * t) 1 (gi hM 26 t)) (180 + 2 * t) 2 (nI n) (by rw [gi_si_nk (by decide)]; exact s1), si_same hC _ _ _ s4]; rfl
      · rw [si_same (si hM 26 t (gi hM 26 t)) 27 t (nI n) (by rw [gi_si_ne (by decide)]; exact s2), si_same hM _ _ _ rfl]; rfl
      · rw [gl_sl_nk (by omega)]
      · rw [gl_sl_if, gl_sl_if]
        by_cases hk' : k = i
        · subst hk'; simp
        · rw [if_neg (by omega), if_neg (by omega)]; exact s6 k hk
