/-! ===== pure: what stands after a law was read ===== -/
theorem Inv.law {ns nc nl nf : Nat} {hC hM kC kM : Hp} (I : Inv ns nc nl nf hC hM) (Fc : FLc nl hC kC) (Fm : FLm nl hM kM) (nl' : Nat) (h0 : nl < 6) (h1 : nl ≤ nl') (h2 : nl' ≤ 6) (hl : ∀ l, nl ≤ l → l < nl' → LawI kC kM l) : Inv ns nc nl' 0 (si (si kC 9 1 0) 1 13 (nI nl')) (si (si kM 1 8 0) 1 7 (nI nl')) := by
  obtain ⟨i1, i2, i3, i4, i5, i6, i7, i8, i9, i10⟩ := I
  have n5 := i1.1.2.2
  have n24 := i1.2.1.2.2
  have n6 := i1.2.2.1.2.2
  have cC : ∀ a j, ¬ ((a = 9 ∧ j = 2) ∨ (144 + 6 * nl ≤ a ∧ a ≤ 144 + 6 * nl + 5)) → ¬ (a = 9 ∧ j = 1) → ¬ (a = 1 ∧ j = 13) → gi (si (si kC 9 1 0) 1 13 (nI nl')) a j = gi hC a j := fun a j e1 e2 e3 => by
    rw [gi_si_if, if_neg e3, gi_si_if, if_neg e2]; exact Fc.1 a j e1
  have cM : ∀ a j, ¬ ((a = 1 ∧ (j = 9 ∨ j = 22 ∨ j = 23 ∨ j = 25 ∨ j = 26)) ∨ a = 19 ∨ ((a = 8 ∨ (13 ≤ a ∧ a ≤ 17)) ∧ j = nl) ∨ (9 ≤ a ∧ a ≤ 12 ∧ 8 * nl ≤ j) ∨ (a = 18 ∧ 100 * nl ≤ j)) → ¬ (a = 1 ∧ (j = 7 ∨ j = 8)) → gi (si (si kM 1 8 0) 1 7 (nI nl')) a j = gi hM a j := fun a j e1 e2 => by
    rw [gi_si_if, if_neg (fun y => e2 ⟨y.1, Or.inl y.2⟩), gi_si_if, if_neg (fun y => e2 ⟨y.1, Or.inr y.2⟩)]; exact Fm.1 a j e1
  have fC : ∀ a, a ≠ 1 → a ≠ 9 → (a < 144 + 6 * nl ∨ 144 + 6 * nl + 5 < a) → gi (si (si kC 9 1 0) 1 13 (nI nl')) a = gi hC a := fun a h1 h2 h3 => funext fun j => cC a j (by omega) (by omega) (by omega)
  have fM : ∀ a, a ≠ 1 → (a < 8 ∨ 19 < a) → gi (si (si kM 1 8 0) 1 7 (nI nl')) a = gi hM a := fun a h1 h2 => funext fun j => cM a j (by omega) (by omega)
  refine ⟨⟨⟨?_, ?_, n5⟩, ⟨?_, ?_, n24⟩, ⟨gi_si _ _ _ _, gi_si _ _ _ _, h2⟩, ?_, ?_, by decide⟩, i2.fr (fC _ (by decide) (by decide) (by omega)) (fM _ (by decide) (by decide)), ?_, i4.fr (fun c hc => fC _ (by omega) (by omega) (by omega)) (fM _ (by decide) (by decide)), i5.fr (cC _ _ (by omega) (by decide) (by decide)) (cC _ _ (by omega) (by decide) (by decide)) (fC _ (by decide) (by decide) (by omega)) (fun c hc => fC _ (by omega) (by omega) (by omega)) (cM _ _ (by omega) (by decide)) (fM _ (by decide) (by decide)) (fM _ (by decide) (by decide)), fun i hi => absurd hi (Nat.not_lt_zero _), fun l hl' => ?_, i8.fr (cC _ _ (by omega) (by decide) (by decide)) (fC _ (by decide) (by decide) (by omega)) (cM _ _ (by omega) (by decide)) (fM _ (by decide) (by decide)), i9.fr (fun t ht => fC _ (by omega) (by omega) (by omega)) (fun t ht => (Fc.2.1 _)) (fM _ (by decide) (by decide)) (fM _ (by decide) (by decide)) (Fm.2 _), i10.fr (Fc.2.2 _ (by decide)) (Fc.2.2 _ (by decide))⟩
  · rw [cC _ _ (by omega) (by decide) (by decide)]; exact i1.1.1
  · rw [cM _ _ (by omega) (by decide)]; exact i1.1.2.1
  · rw [cC _ _ (by omega) (by decide) (by decide)]; exact i1.2.1.1
  · rw [cM _ _ (by omega) (by decide)]; exact i1.2.1.2.1
  · rw [gi_si_ne (by decide), gi_si]; rfl
  · rw [gi_si_nk (by decide), gi_si]; rfl
  · intro s hs
    obtain ⟨p, d, l, p8, d8, hl2, c, m⟩ := i3 s hs
    refine ⟨p, d, l, p8, d8, by omega, ?_, ?_⟩
    · rw [fC _ (by omega) (by omega) (by omega)]; exact c
    · rw [fM 3 (by decide) (by decide), fM 4 (by decide) (by decide), fM 5 (by decide) (by decide)]; exact m
  · by_cases e : l < nl
    · refine (i7 l e).fr2 (fun a h1 h2 => fC a (by omega) (by omega) (by omega)) (fun a ha => cM a l (by omega) (by omega)) (fun a k h1 h2 hk => cM a _ (by omega) (by omega)) (fun i hi => cM 18 _ (by omega) (by omega))
    · refine (hl l (by omega) hl').fr (fun a h1 h2 => ?_) (fun a h1 h2 => ?_) ?_
      · rw [gi_si_na (by omega), gi_si_na (by omega)]
      · rw [gi_si_na (by omega), gi_si_na (by omega)]
      · rw [gi_si_na (by decide), gi_si_na (by decide)]
