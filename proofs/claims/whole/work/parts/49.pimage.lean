theorem copy_ok (A B : Nat) (hAB : B ≠ A) (h : Hp) : ∃ h', m_X0_copy A B h = some ((), h') ∧ (∀ a, a ≠ A → gi h' a = gi h a) ∧ (∀ a, gl h' a = gl h a ∧ gr h' a = gr h a) ∧ (∀ k, k < 10 → gi h' A k = gi h B k) ∧ ∀ k, 10 ≤ k → gi h' A k = gi h A k := by
  unfold m_X0_copy
  simp only [hb_eq, gi_si_ne hAB]
  refine ⟨_, rfl, fun a ha => ?_, fun a => ⟨rfl, rfl⟩, fun k hk => ?_, fun k hk => ?_⟩
  · simp only [gi_si_na ha]
  · rcases (show k = 0 ∨ k = 1 ∨ k = 2 ∨ k = 3 ∨ k = 4 ∨ k = 5 ∨ k = 6 ∨ k = 7 ∨ k = 8 ∨ k = 9 by omega) with rfl | rfl | rfl | rfl | rfl | rfl | rfl | rfl | rfl | rfl <;> simp [gi_si_if]
  · simp (disch := omega) only [gi_si_nk]
theorem kC0 : ∀ k, k < 24 → kC 0 (96 + 2 * k) = true ∧ kC 0 (97 + 2 * k) = true := by decide +kernel
theorem C_copies {s d sb db nc : Nat} (hn : nc ≤ 24) (hsd : (sb = 96 ∧ db = 97) ∨ (sb = 97 ∧ db = 96)) : ∀ n k (h : Hp), k ≤ nc → nc - k < n → (∀ c, c < 24 → gr h s c = sb + 2 * c ∧ gr h d c = db + 2 * c) → ∃ h', m_X8_copyClaims_L2 n s d (nI nc) (nI k) h = some ((), h') ∧ (∀ a, (∀ c, k ≤ c → c < nc → a ≠ db + 2 * c) → gi h' a = gi h a) ∧ (∀ a, gl h' a = gl h a ∧ gr h' a = gr h a) ∧ ∀ c j, k ≤ c → c < nc → j < 10 → gi h' (db + 2 * c) j = gi h (sb + 2 * c) j
  | 0, k, h, h1, h2, _ => by omega
  | n + 1, k, h, h1, h2, hr => by
    unfold m_X8_copyClaims_L2
    by_cases hk : k = nc
    · subst hk
      rw [if_pos (nI_le (Nat.le_refl _) (by omega))]
      exact ⟨h, rfl, fun _ _ => rfl, fun _ => ⟨rfl, rfl⟩, fun c j h1 h2 => by omega⟩
    · obtain ⟨h1', p, f1, f2, f3, f4⟩ := copy_ok (db + 2 * k) (sb + 2 * k) (by omega) h
      obtain ⟨h2', q, g1, g2, g3⟩ := C_copies (s := s) (d := d) hn hsd n (k + 1) h1' (by omega) (by omega) (fun c hc => by rw [(f2 s).2, (f2 d).2]; exact hr c hc)
      have kk := kC0 k (by omega)
      refine ⟨h2', ?_, fun a ha => ?_, fun a => ⟨(g2 a).1.trans (f2 a).1, (g2 a).2.trans (f2 a).2⟩, fun c j hc1 hc2 hj => ?_⟩
      · rw [if_neg (nI_ge (by omega) (by omega)), if_neg (show ¬ (24 : Int32) ≤ nI k from nI_ge (a := k) (b := 24) (by omega) (by decide)), ck_true _ (inb_nI (by omega) (by decide)), nI_clamp (by omega), (hr k (by omega)).1, (hr k (by omega)).2]
        have kd : kC 0 (db + 2 * k) = true := by
          rcases hsd with ⟨-, rfl⟩ | ⟨-, rfl⟩
          · exact kk.2
          · exact kk.1
        have ks : kC 0 (sb + 2 * k) = true := by
          rcases hsd with ⟨rfl, -⟩ | ⟨rfl, -⟩
          · exact kk.1
          · exact kk.2
        rw [ck_true _ kd, ck_true _ ks, p]
        simp only [cb_some, vb_eq, nI_1]
        exact q
      · rw [g1 a (fun c hc1 hc2 => ha c (by omega) hc2), f1 a (ha k (Nat.le_refl _) (by omega))]
      · by_cases hck : c = k
        · subst hck
          rw [g1 _ (fun c' hc1 hc2 => by omega), f3 j hj]
        · rw [g3 c j (by omega) hc2 hj, f1 _ (by omega)]
def FrI (A : Nat) (h h' : Hp) : Prop := (∀ a, gl h' a = gl h a) ∧ (∀ a, gr h' a = gr h a) ∧ ∀ a, a ≠ A → gi h' a = gi h a
theorem FrI.refl (A : Nat) (h : Hp) : FrI A h h := ⟨fun _ => rfl, fun _ => rfl, fun _ _ => rfl⟩
theorem FrI.si {A k : Nat} {v : Int32} {h h' : Hp} (f : FrI A (si h A k v) h') : FrI A h h' := ⟨fun a => f.1 a, fun a => f.2.1 a, fun a ha => (f.2.2 a ha).trans (gi_si_na ha)⟩
theorem M_img1 : ∀ n k (h : Hp), k ≤ 240 → 240 - k < n → ∃ h', m_X9_image_L2 n (nI k) h = m_X9_image_L29 FU 0 h' ∧ FrI 23 h h' ∧ (∀ j, j < 240 → gi h' 23 j = if k ≤ j then gi h 6 j else gi h 23 j)
  | 0, k, h, h1, h2 => by omega
  | n + 1, k, h, h1, h2 => by
    unfold m_X9_image_L2
    by_cases hk : k = 240
    · subst hk
      rw [if_pos (by decide)]
      exact ⟨h, rfl, FrI.refl _ _, fun j hj => by rw [if_neg (by omega)]⟩
    · obtain ⟨h', p, f, q⟩ := M_img1 n (k + 1) (si h 23 k (gi h 6 k)) (by omega) (by omega)
      refine ⟨h', ?_, f.si, fun j hj => ?_⟩
      · rw [if_neg (show ¬ (240 : Int32) ≤ nI k from nI_ge (a := k) (b := 240) (by omega) (by decide)), ck_true _ (inb_nI (by omega) (by decide)), nI_clamp (by omega)]
        simp only [hb_eq, vb_eq, nI_1]; exact p
      · rw [q j hj, gi_si_ne (show 6 ≠ 23 by decide)]
        by_cases hjk : j = k
        · subst hjk
          rw [if_neg (by omega), gi_si, if_pos (by omega)]
        · rw [gi_si_nk hjk]
          by_cases h3 : k + 1 ≤ j
          · rw [if_pos h3, if_pos (by omega)]
          · rw [if_neg h3, if_neg (by omega)]
theorem M_img2 : ∀ n k (h : Hp), k ≤ 8 → 8 - k < n → ∃ h', m_X9_image_L29 n (nI k) h = some (gi h 1 1, si h' 1 36 (gi h 1 1)) ∧ FrI 24 h h' ∧ (∀ j, j < 8 → gi h' 24 j = if k ≤ j then gi h 2 j else gi h 24 j)
  | 0, k, h, h1, h2 => by omega
  | n + 1, k, h, h1, h2 => by
    unfold m_X9_image_L29
    by_cases hk : k = 8
    · subst hk
      rw [if_pos (by decide)]
      exact ⟨h, by simp only [hb_eq, gi_si_nk (show 1 ≠ 36 by decide)], FrI.refl _ _, fun j hj => by rw [if_neg (by omega)]⟩
    · obtain ⟨h', p, f, q⟩ := M_img2 n (k + 1) (si h 24 k (gi h 2 k)) (by omega) (by omega)
      rw [gi_si_ne (show 1 ≠ 24 by decide)] at p
      refine ⟨h', ?_, f.si, fun j hj => ?_⟩
      · rw [if_neg (show ¬ (8 : Int32) ≤ nI k from nI_ge (a := k) (b := 8) (by omega) (by decide)), ck_true _ (inb_nI (by omega) (by decide)), nI_clamp (by omega)]
        simp only [hb_eq, vb_eq, nI_1]; exact p
      · rw [q j hj, gi_si_ne (show 2 ≠ 24 by decide)]
        by_cases hjk : j = k
        · subst hjk
          rw [if_neg (by omega), gi_si, if_pos (by omega)]
        · rw [gi_si_nk hjk]
          by_cases h3 : k + 1 ≤ j
          · rw [if_pos h3, if_pos (by omega)]
          · rw [if_neg h3, if_neg (by omega)]
theorem M_und1 : ∀ n k (h : Hp), k ≤ 240 → 240 - k < n → ∃ h', m_X9_undo_L12 n (nI k) h = m_X9_undo_L39 FU 0 h' ∧ FrI 6 h h' ∧ (∀ j, j < 240 → gi h' 6 j = if k ≤ j then gi h 23 j else gi h 6 j)
  | 0, k, h, h1, h2 => by omega
  | n + 1, k, h, h1, h2 => by
    unfold m_X9_undo_L12
    by_cases hk : k = 240
    · subst hk
      rw [if_pos (by decide)]
      exact ⟨h, rfl, FrI.refl _ _, fun j hj => by rw [if_neg (by omega)]⟩
    · obtain ⟨h', p, f, q⟩ := M_und1 n (k + 1) (si h 6 k (gi h 23 k)) (by omega) (by omega)
      refine ⟨h', ?_, f.si, fun j hj => ?_⟩
      · rw [if_neg (show ¬ (240 : Int32) ≤ nI k from nI_ge (a := k) (b := 240) (by omega) (by decide)), ck_true _ (inb_nI (by omega) (by decide)), nI_clamp (by omega)]
        simp only [hb_eq, vb_eq, nI_1]; exact p
      · rw [q j hj, gi_si_ne (show 23 ≠ 6 by decide)]
        by_cases hjk : j = k
        · subst hjk
          rw [if_neg (by omega), gi_si, if_pos (by omega)]
        · rw [gi_si_nk hjk]
          by_cases h3 : k + 1 ≤ j
          · rw [if_pos h3, if_pos (by omega)]
          · rw [if_neg h3, if_neg (by omega)]
theorem M_und2 : ∀ n k (h : Hp), k ≤ 8 → 8 - k < n → ∃ h', m_X9_undo_L39 n (nI k) h = some (gi h 1 36, si h' 1 1 (gi h 1 36)) ∧ FrI 2 h h' ∧ (∀ j, j < 8 → gi h' 2 j = if k ≤ j then gi h 24 j else gi h 2 j)
  | 0, k, h, h1, h2 => by omega
  | n + 1, k, h, h1, h2 => by
    unfold m_X9_undo_L39
    by_cases hk : k = 8
    · subst hk
      rw [if_pos (by decide)]
      exact ⟨h, by simp only [hb_eq, gi_si], FrI.refl _ _, fun j hj => by rw [if_neg (by omega)]⟩
    · obtain ⟨h', p, f, q⟩ := M_und2 n (k + 1) (si h 2 k (gi h 24 k)) (by omega) (by omega)
      rw [gi_si_ne (show 1 ≠ 2 by decide)] at p
      refine ⟨h', ?_, f.si, fun j hj => ?_⟩
      · rw [if_neg (show ¬ (8 : Int32) ≤ nI k from nI_ge (a := k) (b := 8) (by omega) (by decide)), ck_true _ (inb_nI (by omega) (by decide)), nI_clamp (by omega)]
        simp only [hb_eq, vb_eq, nI_1]; exact p
      · rw [q j hj, gi_si_ne (show 24 ≠ 2 by decide)]
        by_cases hjk : j = k
        · subst hjk
          rw [if_neg (by omega), gi_si, if_pos (by omega)]
        · rw [gi_si_nk hjk]
          by_cases h3 : k + 1 ≤ j
          · rw [if_pos h3, if_pos (by omega)]
          · rw [if_neg h3, if_neg (by omega)]
theorem cpI_at (h : Hp) (a b : Nat) (j : Nat) (hj : j < 8) : gi (cpI h a (0 : Int32).toNatClampNeg b (0 : Int32).toNatClampNeg (8 : Int32).toNatClampNeg) b j = gi h a j := by
  show (if b = b then va_cpy (gi h a) (gi h b) 0 0 8 j else _) = _
  rw [if_pos rfl, pk_cpy_in (by omega) (by omega)]
  congr 1; omega
theorem cpI_na (h : Hp) (a b : Nat) (x y z : Nat) {c : Nat} (hc : c ≠ b) : gi (cpI h a x b y z) c = gi h c := by
  funext j
  show (if c = b then _ else _) = _
  rw [if_neg hc]; rfl
theorem RowOK.congr {ns : Nat} {f g : Nat → Int32} (h : RowOK ns f) (e : ∀ k, k < 10 → g k = f k) : RowOK ns g := by
  unfold RowOK
  rw [e 0 (by decide), e 3 (by decide), e 1 (by decide), e 9 (by decide)]
  exact h
theorem b_image : Both m_X8_image m_X9_image := by
  rintro hC hM ⟨ns, nc, nl, nf, i1, i2, i3, i4, i5, i6, i7, i8, i9, i10⟩
  have n5 := i1.1.2.2
  have n24 := i1.2.1.2.2
  have n6 := i1.2.2.1.2.2
  obtain ⟨h1, p, f1, f2, f3⟩ := C_copies (s := 5) (d := 6) (sb := 96) (db := 97) n24 (Or.inl ⟨rfl, rfl⟩) FU 0 hC (by omega) (by unfold FU; omega) (fun c hc => i10 c hc)
  obtain ⟨k1, q, g1, g2⟩ := M_img1 FU 0 hM (by decide) (by decide)
  obtain ⟨k2, r, g3, g4⟩ := M_img2 FU 0 k1 (by decide) (by decide)
  have e1 : gi k1 1 1 = nI nc := by rw [g1.2.2 1 (by decide)]; exact i1.2.1.2.1
  have e0 : gi h1 1 12 = nI nc := by rw [f1 1 (fun c _ _ => by omega)]; exact i1.2.1.1
  rw [e1] at r
  refine ⟨nI nc, si (si (cpI h1 2 (0 : Int32).toNatClampNeg 3 (0 : Int32).toNatClampNeg (8 : Int32).toNatClampNeg) 1 14 (nI nc)) 1 15 1, ?_, nI nc, si k2 1 36 (nI nc), ?_, rfl, ?_⟩
  · unfold m_X8_image m_X8_copyClaims
    rw [i1.2.1.1, show (0 : Int32) = nI 0 from rfl, p]
    simp only [cb_some]
    rw [ck_true _ (by decide)]
    simp only [hb_eq, gi_si_nk (show 12 ≠ 15 by decide), gi_si_nk (show 12 ≠ 14 by decide), cpI_na _ _ _ _ _ _ (show 1 ≠ 3 by decide), e0]
  · unfold m_X9_image
    rw [show (0 : Int32) = nI 0 from rfl, q, show (0 : Int32) = nI 0 from rfl, r]
  have cC : ∀ a, a ≠ 1 → a ≠ 3 → (∀ c, c < nc → a ≠ 97 + 2 * c) → gi (si (si (cpI h1 2 (0 : Int32).toNatClampNeg 3 (0 : Int32).toNatClampNeg (8 : Int32).toNatClampNeg) 1 14 (nI nc)) 1 15 1) a = gi hC a := fun a ha1 ha2 ha3 => by
    rw [gi_si_na ha1, gi_si_na ha1, cpI_na _ _ _ _ _ _ ha2, f1 a (fun c _ hc => ha3 c hc)]
  have c1 : ∀ j, j ≠ 14 → j ≠ 15 → gi (si (si (cpI h1 2 (0 : Int32).toNatClampNeg 3 (0 : Int32).toNatClampNeg (8 : Int32).toNatClampNeg) 1 14 (nI nc)) 1 15 1) 1 j = gi hC 1 j := fun j h1 h2 => by
    rw [gi_si_nk h2, gi_si_nk h1, cpI_na _ _ _ _ _ _ (by decide), f1 1 (fun c _ hc => by omega)]
  have cM : ∀ a, a ≠ 1 → a ≠ 23 → a ≠ 24 → gi (si k2 1 36 (nI nc)) a = gi hM a := fun a ha1 ha2 ha3 => by
    rw [gi_si_na ha1, g3.2.2 a ha3, g1.2.2 a ha2]
  have m1 : ∀ j, j ≠ 36 → gi (si k2 1 36 (nI nc)) 1 j = gi hM 1 j := fun j hj => by
    rw [gi_si_nk hj, g3.2.2 1 (by decide), g1.2.2 1 (by decide)]
  have m23 : ∀ j, j < 240 → gi (si k2 1 36 (nI nc)) 23 j = gi hM 6 j := fun j hj => by
    rw [gi_si_ne (by decide), g3.2.2 23 (by decide), g2 j hj, if_pos (by omega)]
  refine ⟨ns, nc, nl, nf, i1.fr ?_ ?_ ?_ ?_ ?_ ?_ ?_ ?_, i2.fr ?_ ?_, i3.fr ?_ ?_ ?_ ?_, i4.fr ?_ ?_, Or.inr ⟨nc, n24, ?A, ?B, ?C, ?D, ?E⟩, i6.fr ?_ ?_, fun l hl => (i7 l hl).fr ?_ ?_ ?_, i8.fr ?_ ?_ ?_ ?_, i9.fr ?_ ?_ ?_ ?_ ?_, i10.fr ?_ ?_⟩
  case A => rw [gi_si]
  case B => rw [gi_si_nk (by decide), gi_si]
  case C => rw [gi_si]
  case D =>
    refine ⟨fun c hc => ⟨fun k hk => ?_, ((i4.1 c hc).2).congr fun k hk => m23 _ (by omega)⟩, fun x => ?_⟩
    · rw [gi_si_ne (by omega), gi_si_ne (by omega), cpI_na _ _ _ _ _ _ (by omega), f3 c k (by omega) hc hk, m23 _ (by omega)]
      exact (i4.1 c hc).1 k hk
    · rw [cntR_congr (g := gi hM 6) nc (fun c hc => m23 _ (by omega))]
      exact i4.2 x
  case E =>
    intro p hp
    rw [gi_si_ne (by decide), gi_si_ne (by decide), cpI_at _ _ _ _ hp, f1 2 (fun c _ _ => by omega), gi_si_ne (by decide), g4 p hp, if_pos (by omega), g1.2.2 2 (by decide)]
    exact i2 p hp
  all_goals first | exact (f2 _).1 | exact (f2 _).2 | exact (g3.1 _).trans (g1.1 _) | exact c1 _ (by decide) (by decide) | exact m1 _ (by decide) | (intros; exact cC _ (by omega) (by omega) (fun c hc => by omega)) | (intros; exact cM _ (by omega) (by omega) (by omega)) | (intros; exact (f2 _).1) | exact congrFun (cC _ (by omega) (by omega) (fun c hc => by omega)) _
theorem b_undo : Both m_X8_undo m_X9_undo := by
  rintro hC hM ⟨ns, nc, nl, nf, I0⟩
  have I : InvE hC hM := ⟨ns, nc, nl, nf, I0⟩
  obtain ⟨i1, i2, i3, i4, i5, i6, i7, i8, i9, i10⟩ := I0
  have n5 := i1.1.2.2
  have n24 := i1.2.1.2.2
  have n6 := i1.2.2.1.2.2
  rcases i5 with ⟨t1, t2⟩ | ⟨ni, t1, t2, t3, t4, t5, t6⟩
  · unfold m_X8_undo m_X9_undo
    rw [if_pos t1, if_neg (by rw [Int32.le_iff_toInt_le]; rw [Int32.lt_iff_toInt_lt] at t2; omega)]
    exact Inv.ok rfl I
  obtain ⟨h1, p, f1, f2, f3⟩ := C_copies (s := 6) (d := 5) (sb := 97) (db := 96) t1 (Or.inr ⟨rfl, rfl⟩) FU 0 hC (by omega) (by unfold FU; omega) (fun c hc => ⟨(i10 c hc).2, (i10 c hc).1⟩)
  obtain ⟨k1, q, g1, g2⟩ := M_und1 FU 0 hM (by decide) (by decide)
  obtain ⟨k2, r, g3, g4⟩ := M_und2 FU 0 k1 (by decide) (by decide)
  have e1 : gi k1 1 36 = nI ni := by rw [g1.2.2 1 (by decide)]; exact t4
  have e0 : gi h1 1 14 = nI ni := by rw [f1 1 (fun c _ _ => by omega)]; exact t3
  rw [e1] at r
  refine ⟨nI ni, si (cpI h1 3 (0 : Int32).toNatClampNeg 2 (0 : Int32).toNatClampNeg (8 : Int32).toNatClampNeg) 1 12 (nI ni), ?_, nI ni, si k2 1 1 (nI ni), ?_, rfl, ?_⟩
  · unfold m_X8_undo m_X8_copyClaims
    rw [t2, if_neg (by decide), t3, show (0 : Int32) = nI 0 from rfl, p]
    simp only [cb_some]
    rw [ck_true _ (by decide)]
    simp only [hb_eq, cpI_na _ _ _ _ _ _ (show 1 ≠ 2 by decide), e0, gi_si]
  · unfold m_X9_undo
    rw [t4, if_pos (nI_pos' (by omega)), show (0 : Int32) = nI 0 from rfl, q, show (0 : Int32) = nI 0 from rfl, r]
  have cC : ∀ a, a ≠ 1 → a ≠ 2 → (∀ c, c < ni → a ≠ 96 + 2 * c) → gi (si (cpI h1 3 (0 : Int32).toNatClampNeg 2 (0 : Int32).toNatClampNeg (8 : Int32).toNatClampNeg) 1 12 (nI ni)) a = gi hC a := fun a ha1 ha2 ha3 => by
    rw [gi_si_na ha1, cpI_na _ _ _ _ _ _ ha2, f1 a (fun c _ hc => ha3 c hc)]
  have c1 : ∀ j, j ≠ 12 → gi (si (cpI h1 3 (0 : Int32).toNatClampNeg 2 (0 : Int32).toNatClampNeg (8 : Int32).toNatClampNeg) 1 12 (nI ni)) 1 j = gi hC 1 j := fun j h1 => by
    rw [gi_si_nk h1, cpI_na _ _ _ _ _ _ (by decide), f1 1 (fun c _ hc => by omega)]
  have cM : ∀ a, a ≠ 1 → a ≠ 6 → a ≠ 2 → gi (si k2 1 1 (nI ni)) a = gi hM a := fun a ha1 ha2 ha3 => by
    rw [gi_si_na ha1, g3.2.2 a ha3, g1.2.2 a ha2]
  have m1 : ∀ j, j ≠ 1 → gi (si k2 1 1 (nI ni)) 1 j = gi hM 1 j := fun j hj => by
    rw [gi_si_nk hj, g3.2.2 1 (by decide), g1.2.2 1 (by decide)]
  have m6 : ∀ j, j < 240 → gi (si k2 1 1 (nI ni)) 6 j = gi hM 23 j := fun j hj => by
    rw [gi_si_ne (by decide), g3.2.2 6 (by decide), g2 j hj, if_pos (by omega)]
  refine ⟨ns, ni, nl, nf, ⟨⟨?_, ?_, n5⟩, ⟨?A, ?B, t1⟩, ⟨?_, ?_, n6⟩, ?_, ?_, i1.2.2.2.2.2⟩, ?E, i3.fr ?_ ?_ ?_ ?_, ?D, ?F, i6.fr ?_ ?_, fun l hl => (i7 l hl).fr ?_ ?_ ?_, i8.fr ?_ ?_ ?_ ?_, i9.fr ?_ ?_ ?_ ?_ ?_, i10.fr ?_ ?_⟩
  case A => rw [gi_si]
  case B => rw [gi_si]
  case D =>
    refine ⟨fun c hc => ⟨fun k hk => ?_, ((t5.1 c hc).2).congr fun k hk => m6 _ (by omega)⟩, fun x => ?_⟩
    · rw [gi_si_ne (by omega), cpI_na _ _ _ _ _ _ (by omega), f3 c k (by omega) hc hk, m6 _ (by omega)]
      exact (t5.1 c hc).1 k hk
    · rw [cntR_congr (g := gi hM 23) ni (fun c hc => m6 _ (by omega))]
      exact t5.2 x
  case E =>
    intro p hp
    rw [gi_si_ne (by decide), cpI_at _ _ _ _ hp, f1 3 (fun c _ _ => by omega), gi_si_ne (by decide), g4 p hp, if_pos (by omega), g1.2.2 24 (by decide)]
    exact t6 p hp
  case F =>
    refine Or.inr ⟨ni, t1, (c1 15 (by decide)).trans t2, (c1 14 (by decide)).trans t3, (m1 36 (by decide)).trans t4, t5.fr (fun c hc => cC _ (by omega) (by omega) (fun c' hc' => by omega)) (cM 23 (by decide) (by decide) (by decide)), fun p hp => ?_⟩
    rw [cC 3 (by decide) (by decide) (fun c hc => by omega), cM 24 (by decide) (by decide) (by decide)]
    exact t6 p hp
  all_goals first | exact (f2 _).1 | exact (f2 _).2 | exact (g3.1 _).trans (g1.1 _) | exact c1 _ (by decide) | exact m1 _ (by decide) | (intros; exact cC _ (by omega) (by omega) (fun c hc => by omega)) | (intros; exact cM _ (by omega) (by omega) (by omega)) | (intros; exact (f2 _).1) | exact congrFun (cC _ (by omega) (by omega) (fun c hc => by omega)) _ | exact (c1 _ (by decide)).trans i1.1.1 | exact (m1 _ (by decide)).trans i1.1.2.1 | exact (c1 _ (by decide)).trans i1.2.2.1.1 | exact (m1 _ (by decide)).trans i1.2.2.1.2.1 | exact (congrFun (cC _ (by omega) (by omega) (fun c hc => by omega)) _).trans i1.2.2.2.1 | exact (m1 _ (by decide)).trans i1.2.2.2.2.1
