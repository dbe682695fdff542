/-! ===== pure: law ===== -/
def clr (l : Nat) (h : Hp) : Hp := si (si (si (si (si (si (si h (144 + 6 * l) 5 0) (144 + 6 * l) 6 0) (144 + 6 * l) 7 1) (144 + 6 * l) 8 1) (144 + 6 * l) 9 0) (144 + 6 * l) 10 1) (144 + 6 * l) 11 0
theorem clr_o {l a : Nat} {h : Hp} (ha : a ≠ 144 + 6 * l) : gi (clr l h) a = gi h a := by
  unfold clr
  rw [gi_si_na ha, gi_si_na ha, gi_si_na ha, gi_si_na ha, gi_si_na ha, gi_si_na ha, gi_si_na ha]
def clM (l : Nat) (h : Hp) : Hp := si (si (si (si (si (si (si h 1 9 0) 1 22 (nI (100 * l))) 13 l 1) 14 l 1) 15 l 0) 16 l 1) 17 l 0
theorem b_law : Both m_X8_law m_X9_law := by
  rintro hC hM ⟨ns, nc, nl, nf, I0⟩
  have I : InvE hC hM := ⟨ns, nc, nl, nf, I0⟩
  obtain ⟨⟨-, -, ⟨e1, e2, n6⟩, ⟨f1, f2, n100⟩⟩, -, -, -, -, iT, -⟩ := id I0
  unfold m_X8_law m_X9_law
  rw [e1, e2]
  by_cases h6 : nl = 6
  · rw [if_neg (show ¬ nI nl < 6 by rw [h6]; decide), if_pos (show nI nl = 6 by rw [h6]; rfl)]
    exact Inv.ok rfl I
  have l6 : nl < 6 := by omega
  rw [if_pos (show nI nl < 6 from nI_lt (b := 6) l6 (by decide)), if_neg (show ¬ nI nl = 6 from fun e => h6 ((nI_eq (b := 6) (by omega) (by decide)).mp e)), ck_true _ (inb_nI l6 (by decide)), nI_clamp (show nl < 2 ^ 31 by omega)]
  have iT' : ∀ i, ∃ t, ChR (if i < nf then gi hC 10 i else -1) (if i < nf then gi hM 7 i else -1) t := by
    intro i
    by_cases hi : i < nf
    · obtain ⟨b, b1, b2, b3⟩ := iT i hi
      obtain ⟨t, -, ht⟩ := ChR.ex b1
      exact ⟨t, by rw [if_pos hi, if_pos hi, b2, b3]; exact ht⟩
    · exact ⟨128, by rw [if_neg hi, if_neg hi]; exact Or.inr ⟨rfl, Or.inl rfl, by decide⟩⟩
  obtain ⟨t, ht⟩ := Classical.axiomOfChoice iT'
  have hX : m_X4_readInto (144 + 6 * nl) hC = m_X4_readInto_L19 FU (nI (0 + 1)) (si (clr nl (sr hC 9 3 (144 + 6 * nl))) 9 2 0) := by
    unfold m_X4_readInto m_X3_clear
    rw [hb_eq, gr_sr, ck_true _ (kC3 l6)]
    rfl
  have hY : m_X9_goes (nI nl) hM = m_X9_goes_L50 FU (nI nl) (nI 0) (clM nl hM) := by
    unfold m_X9_goes
    rw [show (100 : Int32) * nI nl = nI (100 * nl) by rw [show (100 : Int32) = nI 100 from rfl, pk_mul], hb_eq, hb_eq, ck_true _ (inb_nI l6 (by decide)), nI_clamp (show nl < 2 ^ 31 by omega)]
    rfl
  have Fc : FLc nl hC (si (clr nl (sr hC 9 3 (144 + 6 * nl))) 9 2 0) := by
    refine ⟨fun a j e => ?_, fun a => rfl, fun a ha => ?_⟩
    · rw [gi_si_if, if_neg (fun y => e (Or.inl y)), clr_o (by omega)]; rfl
    · exact gr_sr_na ha
  have Fm : FLm nl hM (clM nl hM) := by
    refine ⟨fun a j e => ?_, fun a => rfl⟩
    unfold clM
    rw [gi_si_if, if_neg (fun y => e (by omega)), gi_si_if, if_neg (fun y => e (by omega)), gi_si_if, if_neg (fun y => e (by omega)), gi_si_if, if_neg (fun y => e (by omega)), gi_si_if, if_neg (fun y => e (by omega)), gi_si_if, if_neg (fun y => e (by omega)), gi_si_if, if_neg (fun y => e (by omega))]
  have C0 : CS nl nf 0 0 t 0 (si (clr nl (sr hC 9 3 (144 + 6 * nl))) 9 2 0) (clM nl hM) := by
    refine ⟨⟨l6, by decide⟩, ⟨n100, Nat.zero_le _, ?_, ?_, gi_si _ _ _ _, ?_, fun i => ?_⟩, ?_, ?_, ?_, ?_, Nat.le_refl _, ?_⟩
    · rw [gi_si_nk (by decide), clr_o (by omega)]; exact f1
    · unfold clM
      rw [gi_si_ne (by decide), gi_si_ne (by decide), gi_si_ne (by decide), gi_si_ne (by decide), gi_si_ne (by decide), gi_si_nk (by decide), gi_si_nk (by decide)]; exact f2
    · unfold clM
      rw [gi_si_ne (by decide), gi_si_ne (by decide), gi_si_ne (by decide), gi_si_ne (by decide), gi_si_ne (by decide), gi_si_nk (by decide), gi_si]; rfl
    · have c10 : gi (si (clr nl (sr hC 9 3 (144 + 6 * nl))) 9 2 0) 10 i = gi hC 10 i := by rw [gi_si_ne (by decide), clr_o (by omega)]; rfl
      have c7 : gi (clM nl hM) 7 i = gi hM 7 i := by
        unfold clM
        rw [gi_si_ne (by decide), gi_si_ne (by decide), gi_si_ne (by decide), gi_si_ne (by decide), gi_si_ne (by decide), gi_si_ne (by decide), gi_si_ne (by decide)]
      rw [c10, c7]; exact ht i
    · exact gr_sr _ _ _ _
    · rw [gi_si_ne (by omega)]; unfold clr
      rw [gi_si_nk (by decide), gi_si_nk (by decide), gi_si_nk (by decide), gi_si_nk (by decide), gi_si_nk (by decide), gi_si_nk (by decide), gi_si]; rfl
    · rw [gi_si_ne (by omega)]; unfold clr
      rw [gi_si_nk (by decide), gi_si_nk (by decide), gi_si_nk (by decide), gi_si_nk (by decide), gi_si_nk (by decide), gi_si]; rfl
    · unfold clM
      rw [gi_si_ne (by decide), gi_si_ne (by decide), gi_si_ne (by decide), gi_si_ne (by decide), gi_si_ne (by decide), gi_si]; rfl
    · refine ⟨1, 1, 0, 1, 0, by decide, by decide, by decide, by decide, by decide, by decide, by decide, ?_, ?_, ?_, ?_, ?_, ?_, ?_, ?_, ?_, ?_⟩
      · rw [gi_si_ne (by omega)]; unfold clr
        rw [gi_si_nk (by decide), gi_si_nk (by decide), gi_si_nk (by decide), gi_si_nk (by decide), gi_si]; rfl
      · rw [gi_si_ne (by omega)]; unfold clr
        rw [gi_si_nk (by decide), gi_si_nk (by decide), gi_si_nk (by decide), gi_si]; rfl
      · rw [gi_si_ne (by omega)]; unfold clr
        rw [gi_si_nk (by decide), gi_si_nk (by decide), gi_si]; rfl
      · rw [gi_si_ne (by omega)]; unfold clr
        rw [gi_si_nk (by decide), gi_si]; rfl
      · rw [gi_si_ne (by omega)]; unfold clr
        rw [gi_si]; rfl
      · unfold clM
        rw [gi_si_ne (by decide), gi_si_ne (by decide), gi_si_ne (by decide), gi_si_ne (by decide), gi_si]; rfl
      · unfold clM
        rw [gi_si_ne (by decide), gi_si_ne (by decide), gi_si_ne (by decide), gi_si]; rfl
      · unfold clM
        rw [gi_si_ne (by decide), gi_si_ne (by decide), gi_si]; rfl
      · unfold clM
        rw [gi_si_ne (by decide), gi_si]; rfl
      · unfold clM
        rw [gi_si]; rfl
  rw [hX, hY]
  rcases goes_loop 8 0 0 0 FU FU _ _ rfl (by decide) (by unfold FU; omega) (by unfold FU; omega) C0 (fun k hk => absurd hk (Nat.not_lt_zero _)) Fc Fm with ⟨kC, kM, p', r1, r2, r3, r4, Gc, Gm⟩ | ⟨kC, kM, n, q', r1, r2, n8, r4, r5, q100, Sh, D, Gc, Gm⟩
  · have J := I0.law Gc Gm nl l6 (Nat.le_refl _) n6 (fun l h1 h2 => by omega)
    have a13 : gi kC 1 13 = nI nl := by rw [Gc.1 _ _ (by omega)]; exact e1
    have a7 : gi kM 1 7 = nI nl := by rw [Gm.1 _ _ (by omega)]; exact e2
    have sC : si (si kC 9 1 0) 1 13 (nI nl) = si kC 9 1 0 := by
      have := si_id (si kC 9 1 0) 1 13
      rw [gi_si_ne (by decide), a13] at this
      exact this
    have sM : si (si kM 1 8 0) 1 7 (nI nl) = si kM 1 8 0 := by
      have := si_id (si kM 1 8 0) 1 7
      rw [gi_si_nk (by decide), a7] at this
      exact this
    rw [sC, sM] at J
    refine fin2 (v := -10 - nI p') (w := -10 - nI p') (hC := si kC 9 1 0) (hM := si kM 1 8 0) ?_ ?_ rfl ⟨ns, nc, nl, 0, J⟩
    · rw [r1, cb_some, hb_eq, if_pos rfl, gi_si_nk (show 2 ≠ 1 by decide), r3]
    · rw [r2, cb_some, hb_eq, if_pos rfl, gi_si_nk (show 9 ≠ 8 by decide), r4]
  · have J := I0.law Gc Gm (nl + 1) l6 (by omega) (by omega) (fun l h1 h2 => by
      have : l = nl := by omega
      subst this
      exact law_new n8 r4 r5 q100 Sh D)
    have a13 : gi (si kC 9 1 0) 1 13 = nI nl := by rw [gi_si_ne (by decide), Gc.1 _ _ (by omega)]; exact e1
    have a7 : gi (si kM 1 8 0) 1 7 = nI nl := by rw [gi_si_nk (by decide), Gm.1 _ _ (by omega)]; exact e2
    refine fin2 (v := nI nl) (w := nI nl) (hC := si (si kC 9 1 0) 1 13 (nI (nl + 1))) (hM := si (si kM 1 8 0) 1 7 (nI (nl + 1))) ?_ ?_ rfl ⟨ns, nc, nl + 1, 0, J⟩
    · rw [r1, cb_some, hb_eq, if_neg (by decide), a13, nI_1, hb_eq, gi_si, nI_pred]
    · rw [r2, cb_some, hb_eq, if_neg (by decide), a7, nI_1, hb_eq, gi_si, nI_pred]
