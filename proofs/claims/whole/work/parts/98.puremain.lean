/-! ===== pure: the law's own loop ===== -/
theorem ifx {c : Prop} [Decidable c] {A B r : Option Unit} (h1 : A = r) (h2 : B = r) : (if c then A else B) = r := by
  by_cases h : c
  · rw [if_pos h, h1]
  · rw [if_neg h, h2]
theorem ckx {b : Bool} {K r : Option Unit} (hb : b = true) (h : K = r) : ck b K = r := by rw [ck_true _ hb, h]
theorem go2 {α : Type} [DecidableEq α] {F G : Hp → Option (α × Hp)} {K : Hp → Hp → Option Unit} {hC hM : Hp} (b : Both F G) (I : InvE hC hM) (hk : ∀ h h', InvE h h' → K h h' = some ()) : (cb (F hC) fun v h => cb (G hM) fun w h' => if v = w then K h h' else none) = some () := by
  obtain ⟨v, h, e1, w, h', e2, e3, I'⟩ := b hC hM I
  rw [e1, e2, cb_some, cb_some, if_pos e3]
  exact hk h h' I'
theorem go_answer {L : Nat} {xs : Nat → Int32} {k : Int32 → Hp → Hp → Option Unit} {a3 : Int32} {hC hM : Hp} (h1 : inb (a3 + 1) L = true) (h2 : inb (a3 + 2) L = true) (h3 : inb (a3 + 3) L = true) (I : InvE hC hM) (hk : ∀ h h', InvE h h' → k (a3 + 6) h h' = some ()) :
    (if (xs (a3 + 3).toNatClampNeg) = 0 then m_law_L323 L xs k a3 0 (xs (a3 + 2).toNatClampNeg) (xs (a3 + 1).toNatClampNeg) hC hM else m_law_L323 L xs k a3 1 (xs (a3 + 2).toNatClampNeg) (xs (a3 + 1).toNatClampNeg) hC hM) = some () := by
  by_cases h0 : xs (a3 + 3).toNatClampNeg = 0
  · obtain ⟨v, h, e1, w, h', e2, e3, I'⟩ := b_answer (xs (a3 + 1).toNatClampNeg) (xs (a3 + 2).toNatClampNeg) 0 hC hM I
    rw [if_pos h0]
    unfold m_law_L323
    rw [e1, cb_some, ck_true _ h1, ck_true _ h2, ck_true _ h3, if_pos h0]
    unfold m_law_L350
    rw [e2, cb_some, if_pos e3, vb_eq]
    exact hk h h' I'
  · obtain ⟨v, h, e1, w, h', e2, e3, I'⟩ := b_answer (xs (a3 + 1).toNatClampNeg) (xs (a3 + 2).toNatClampNeg) 1 hC hM I
    rw [if_neg h0]
    unfold m_law_L323
    rw [e1, cb_some, ck_true _ h1, ck_true _ h2, ck_true _ h3, if_neg h0]
    unfold m_law_L350
    rw [e2, cb_some, if_pos e3, vb_eq]
    exact hk h h' I'
theorem go_paid {L : Nat} {xs : Nat → Int32} {k : Int32 → Hp → Hp → Option Unit} {a3 : Int32} {hC hM : Hp} (h1 : inb (a3 + 1) L = true) (h2 : inb (a3 + 2) L = true) (h3 : inb (a3 + 3) L = true) (I : InvE hC hM) (hk : ∀ h h', InvE h h' → k (a3 + 6) h h' = some ()) :
    (if (xs (a3 + 2).toNatClampNeg) = 0 then m_law_L588 L xs k a3 0 (xs (a3 + 1).toNatClampNeg) hC hM else m_law_L588 L xs k a3 1 (xs (a3 + 1).toNatClampNeg) hC hM) = some () := by
  by_cases h0 : xs (a3 + 2).toNatClampNeg = 0
  · obtain ⟨v, h, e1, w, h', e2, e3, I'⟩ := b_paid (xs (a3 + 1).toNatClampNeg) 0 (xs (a3 + 3).toNatClampNeg) hC hM I
    rw [if_pos h0]
    unfold m_law_L588
    rw [ck_true _ h3, e1, cb_some, ck_true _ h1, ck_true _ h2, if_pos h0]
    unfold m_law_L615
    rw [ck_true _ h3, e2, cb_some, if_pos e3, vb_eq]
    exact hk h h' I'
  · obtain ⟨v, h, e1, w, h', e2, e3, I'⟩ := b_paid (xs (a3 + 1).toNatClampNeg) 1 (xs (a3 + 3).toNatClampNeg) hC hM I
    rw [if_neg h0]
    unfold m_law_L588
    rw [ck_true _ h3, e1, cb_some, ck_true _ h1, ck_true _ h2, if_neg h0]
    unfold m_law_L615
    rw [ck_true _ h3, e2, cb_some, if_pos e3, vb_eq]
    exact hk h h' I'
theorem nI_inb {j k L : Nat} (h : j + k < L) (hL : L ≤ 384) : inb (nI j + nI k) L = true := by
  rw [nI_add]
  exact inb_nI h (by omega)
theorem law_loop {L : Nat} (hL : L ≤ 384) (xs : Nat → Int32) : ∀ (n j : Nat) (hC hM : Hp), InvE hC hM → j ≤ L → L < j + 6 * n → m_law_L18 L xs n (nI j) hC hM = some ()
  | 0, j, hC, hM, _, h1, h2 => absurd h2 (by omega)
  | n + 1, j, hC, hM, I, h1, h2 => by
    rw [m_law_L18]
    by_cases hg : (Int32.ofNat L) - 6 < nI j
    · rw [if_pos hg]
    rw [if_neg hg]
    have e6 : ((Int32.ofNat L) - 6).toInt = (L : Int) - 6 := pk_sub_toInt (b := 6) (show L < 2 ^ 30 by omega) (by decide)
    have hj : j + 6 ≤ L := by
      rw [Int32.lt_iff_toInt_lt, e6, nI_toInt (by omega)] at hg
      omega
    have b0 : inb (nI j) L = true := inb_nI (by omega) (by omega)
    have b1 : inb (nI j + 1) L = true := nI_inb (k := 1) (by omega) hL
    have b2 : inb (nI j + 2) L = true := nI_inb (k := 2) (by omega) hL
    have b3 : inb (nI j + 3) L = true := nI_inb (k := 3) (by omega) hL
    have b4 : inb (nI j + 4) L = true := nI_inb (k := 4) (by omega) hL
    have b5 : inb (nI j + 5) L = true := nI_inb (k := 5) (by omega) hL
    have e : nI j + 6 = nI (j + 6) := nI_add j 6
    have hk : ∀ h h', InvE h h' → m_law_L18 L xs n (nI j + 6) h h' = some () := fun h h' I' => by
      rw [e]
      exact law_loop hL xs n (j + 6) h h' I' hj (by omega)
    have hk2 : ∀ h h', InvE h h' → (vb (nI j + 6) fun v => m_law_L18 L xs n v h h') = some () := fun h h' I' => by
      rw [vb_eq]
      exact hk h h' I'
    refine ckx b0 ?_
    rw [vb_eq]
    refine ifx (ckx b1 (ckx b2 (go2 (b_known _ _) I hk2))) ?_
    refine ifx (ckx b1 (ckx b2 (ckx b3 (go2 (b_suit _ _ _) I hk2)))) ?_
    refine ifx (ckx b1 (ckx b2 (ckx b3 (go2 (b_claim _ _ _) I hk2)))) ?_
    refine ifx (ckx b1 (ckx b2 (ckx b3 (go_answer b1 b2 b3 I hk)))) ?_
    refine ifx (ckx b1 (ckx b2 (ckx b3 (go2 (b_proof _ _ _) I hk2)))) ?_
    refine ifx (ckx b1 (ckx b2 (go2 (b_truth _ _) I hk2))) ?_
    refine ifx (ckx b1 (ckx b2 (go2 (b_of _ _) I hk2))) ?_
    refine ifx (ckx b1 (ckx b2 (go2 (b_feed _ _) I hk2))) ?_
    refine ifx (go2 (b_law) I hk2) ?_
    refine ifx (ckx b1 (go2 (b_comes _) I hk2)) ?_
    refine ifx (ckx b1 (ckx b2 (go2 (b_due _ _) I hk2))) ?_
    refine ifx (ckx b1 (ckx b2 (go_paid b1 b2 b3 I hk))) ?_
    refine ifx (ckx b1 (ckx b2 (ckx b3 (go2 (b_all _ _ _) I hk2)))) ?_
    refine ifx (ckx b1 (ckx b2 (ckx b3 (go2 (b_ends _ _ _) I hk2)))) ?_
    refine ifx (ckx b1 (go2 (b_truly _) I hk2)) ?_
    refine ifx (ckx b1 (ckx b2 (go2 (b_rolled _ _) I hk2))) ?_
    refine ifx (ckx b1 (ckx b2 (go2 (b_best _ _) I hk2))) ?_
    refine ifx (ckx b1 (go2 (b_slips _) I hk2)) ?_
    refine ifx (ckx b1 (go2 (b_wise _) I hk2)) ?_
    refine ifx (ckx b1 (ckx b2 (ckx b3 (go2 (b_off _ _ _) I hk2)))) ?_
    refine ifx (ckx b1 (ckx b2 (ckx b3 (go2 (b_beside _ _ _) I hk2)))) ?_
    refine ifx (ckx b1 (ckx b2 (ckx b3 (go2 (b_ways _ _ _) I hk2)))) ?_
    refine ifx (ckx b1 (ckx b2 (ckx b3 (go2 (b_judge _ _ _) I hk2)))) ?_
    refine ifx (go2 (b_image) I hk2) ?_
    refine ifx (go2 (b_undo) I hk2) ?_
    refine ifx (ckx b1 (ckx b2 (ckx b3 (go2 (b_act _ _ _) I hk2)))) ?_
    refine ifx (ckx b1 (go2 (b_trace _) I hk2)) ?_
    refine ifx (ckx b1 (ckx b2 (go2 (b_taken _ _) I hk2))) ?_
    refine ifx (ckx b1 (go2 (b_count _) I hk2)) ?_
    refine ifx (ckx b1 (ckx b2 (ckx b3 (go2 (b_tape _ _ _) I hk2)))) ?_
    refine ifx (ckx b1 (ckx b2 (ckx b3 (ckx b4 (go2 (b_item _ _ _) I hk2))))) ?_
    refine ifx (ckx b1 (ckx b2 (go2 (b_read _ _) I hk2))) ?_
    refine ifx (ckx b1 (ckx b2 (ckx b3 (ckx b4 (ckx b5 (go2 (b_shift _ _ _ _ _) I hk2)))))) ?_
    exact hk2 hC hM I
theorem pure_main {L : Nat} (hL : L ≤ 384) (xv : Nat → Int32) {hC hM : Hp} (hC2 : ∀ a k r, SC a k = some r → gr hC a k = r) (hC3 : ckI hC iniI_C = true) (hC4 : iniX_C hC = true) (hM3 : ckI hM iniI_M = true) (hM4 : iniX_M hM = true) : m_law_L18 L xv FU 0 hC hM = some () :=
  law_loop hL xv FU 0 hC hM (inv_init hC2 hC3 hC4 hM3 hM4) (Nat.zero_le _) (by unfold FU; omega)
