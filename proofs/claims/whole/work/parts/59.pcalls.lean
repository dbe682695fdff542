/-! ===== pure: comes, due, beside, truly, rolled ===== -/
theorem fin2 {α : Type} {F G : Option (α × Hp)} {v w : α} {hC hM : Hp} (p : F = some (v, hC)) (q : G = some (w, hM)) (e : v = w) (I : InvE hC hM) : Ok F fun v hC' => Ok G fun w hM' => v = w ∧ InvE hC' hM' := ⟨v, hC, p, w, hM, q, e, I⟩
theorem claim_info {ns nc nl nf c : Nat} {hC hM : Hp} (I : Inv ns nc nl nf hC hM) (hc : c < nc) : ∃ s l : Nat, s < ns ∧ l < nl ∧ s < 5 ∧ l < 6 ∧ c < 24 ∧ gi hC (96 + 2 * c) 0 = nI s ∧ gi hM 6 (10 * c) = nI s ∧ gi hC (91 + s) 2 = nI l ∧ gi hM 5 s = nI l ∧ c ∈ LsS hM (nI s) := by
  have n5 := I.1.1.2.2
  have n24 := I.1.2.1.2.2
  have n6 := I.1.2.2.1.2.2
  obtain ⟨e, ⟨s, hs, r0⟩, -⟩ := I.2.2.2.1.1 c hc
  obtain ⟨p, d, l, -, -, hl, ⟨-, -, c2⟩, -, -, m5⟩ := I.2.2.1 s hs
  have r0' : gi hM 6 (10 * c) = nI s := r0
  exact ⟨s, l, hs, hl, by omega, by omega, by omega, (e 0 (by decide)).trans r0, r0', c2, m5, (LS_mem I.gm).mpr ⟨hc, r0'⟩⟩
theorem suit_info {ns nc nl nf s : Nat} {hC hM : Hp} (I : Inv ns nc nl nf hC hM) (hs : s < ns) : ∃ l : Nat, l < nl ∧ s < 5 ∧ l < 6 ∧ gi hC (91 + s) 2 = nI l ∧ gi hM 5 s = nI l := by
  have n5 := I.1.1.2.2
  have n6 := I.1.2.2.1.2.2
  obtain ⟨p, d, l, -, -, hl, ⟨-, -, c2⟩, -, -, m5⟩ := I.2.2.1 s hs
  exact ⟨l, hl, by omega, by omega, c2, m5⟩
theorem LS_lt {ns nc nl : Nat} {g : Hp} (G : GoM ns nc nl g) {x : Int32} : ∀ d ∈ LsS g x, d < 24 := fun d hd => by
  have := ((LS_mem G).mp hd).1
  have := G.1.2
  omega
theorem M_lawFor {c s l : Nat} {h : Hp} (hc : c < 24) (hs : s < 5) (e1 : gi h 6 (10 * c) = nI s) (e2 : gi h 5 s = nI l) : m_X9_lawFor (nI c) h = some (nI l, h) := by
  unfold m_X9_lawFor
  rw [M_g0 hc, cb_some, Nat.add_zero, e1, ck_true _ (inb_nI hs (by decide)), nI_clamp (by omega), e2]
theorem Hrd.fr {B B' l : Nat} {x qd qp : Int32} {g h h' : Hp} {L : List Nat} {sa : Nat → Nat} (R : Hrd B l x qd qp g L sa h) (F : FrB B' h h') (hB' : (B = 11 ∧ B' = 50) ∨ (B = 50 ∧ B' = 11)) : Hrd B l x qd qp g L sa h' := by
  obtain ⟨hB, hl, L0, H, S, e9, C, hL⟩ := R
  have f : ∀ a, B ≤ a → a ≤ B + 38 → gi h' a = gi h a ∧ gl h' a = gl h a ∧ gr h' a = gr h a := fun a h1 h2 => F a (by omega)
  refine ⟨hB, hl, L0.frB F (by omega), ⟨⟨?_, ?_, ?_, ?_⟩, fun k hk => ?_⟩, fun k hk => ?_, ?_, C, hL⟩
  · rw [(f B (by omega) (by omega)).2.2]; exact H.1.1
  · rw [(f B (by omega) (by omega)).1]; exact H.1.2.1
  · rw [(f B (by omega) (by omega)).1]; exact H.1.2.2.1
  · rw [(f B (by omega) (by omega)).1]; exact H.1.2.2.2
  · obtain ⟨b1, b2, b3, b4⟩ := H.2 k hk
    have lt := b3.lt (by omega)
    rw [(f (B + 5) (by omega) (by omega)).1, (f (B + 1) (by omega) (by omega)).2.2]
    exact ⟨b1, b2, b3, b4.eq (fun j _ => by rw [(f (sa k) (by omega) (by omega)).1])⟩
  · have lt := (H.2 k hk).2.2.1.lt (by omega)
    exact (S k hk).eq (f (sa k) (by omega) (by omega)).1
  · rw [(f B (by omega) (by omega)).1]; exact e9
theorem b_comes (a1 : Int32) : Both (m_X8_comes a1) (m_X9_comes a1) := by
  rintro hC hM ⟨ns, nc, nl, nf, I0⟩
  have I : InvE hC hM := ⟨ns, nc, nl, nf, I0⟩
  have G := I0.gm
  unfold m_X8_comes m_X9_comes
  rcases isClaim_both I0.1 a1 with ⟨p1, p2⟩ | ⟨c, hc, rfl, p1, p2⟩
  · simp only [p1, p2, cb_some, if00]; exact Inv.ok rfl I
  obtain ⟨s, l, hs, hl, s5, l6, c24, e1, e2, e3, e4, hm⟩ := claim_info I0 hc
  obtain ⟨h', qd, qp, p, R, Br, F⟩ := C_hear (B := 11) I0 (Or.inl rfl) hs hl
  obtain ⟨k1, q, w⟩ := M_comes G hc hl (EqK.of (EqM.rfl' hM))
  refine fin2 (v := comesS hM l c) (w := comesS hM l c) (hC := h') (hM := k1) ?_ ?_ rfl (I.eq (F.eqC (Or.inl rfl)) w.1)
  · rw [p1, cb_some, if10, ck_true _ (inb_nI c24 (by decide)), nI_clamp (by omega), vb_eq, e1, ck_true _ (inb_nI s5 (by decide)), nI_clamp (by omega), Nat.one_mul, e3, p, cb_some, C_comesOf R (LS_nodup _ _) hm (LS_lt G), cb_some]
  · rw [p2, cb_some, if10, M_lawFor c24 s5 e2 e4, cb_some, q, cb_some]
theorem b_due (a1 a2 : Int32) : Both (m_X8_due a1 a2) (m_X9_due a1 a2) := by
  rintro hC hM ⟨ns, nc, nl, nf, I0⟩
  have I : InvE hC hM := ⟨ns, nc, nl, nf, I0⟩
  have G := I0.gm
  unfold m_X8_due m_X9_due
  rcases isClaim_both I0.1 a1 with ⟨p1, p2⟩ | ⟨c, hc, rfl, p1, p2⟩
  · simp only [p1, p2, cb_some, if00]; exact Inv.ok rfl I
  rcases ix_cases a2 3 (by decide) (N := nI 3) (M := 2) rfl rfl with q | ⟨q0, q1, q2, q3, q4⟩ | ⟨m, hm3, rfl, q0, q1, q2, q3, q4⟩
  · simp only [p1, p2, m_X9_in, q, if_pos, cb_some, if10]; exact Inv.ok rfl I
  · simp only [p1, p2, m_X9_in, q0, q2, q4, if_pos, if_false, cb_some, if10]; exact Inv.ok rfl I
  obtain ⟨s, l, hs, hl, s5, l6, c24, e1, e2, e3, e4, hm⟩ := claim_info I0 hc
  obtain ⟨h', qd, qp, p, R, Br, F⟩ := C_hear (B := 11) I0 (Or.inl rfl) hs hl
  obtain ⟨k1, q, w⟩ := M_comes G hc hl (EqK.of (EqM.rfl' hM))
  obtain ⟨k, hk, ek, st⟩ := C_standing R (LS_nodup _ _) hm (LS_lt G)
  obtain ⟨b1, b2, b3, b4, b5, b6, c1, c2, c3, c0⟩ := R.comes hk
  rw [ek] at b5
  have IE : ∀ z hM', EqK z hM hM' → InvE h' hM' := fun z hM' w => I.eq (F.eqC (Or.inl rfl)) w.1
  rw [p1, p2, cb_some, cb_some, if10, if10, show m_X9_in (nI m) 0 2 hM = some (1, hM) by simp only [m_X9_in, q0, q2, if_false], cb_some, if10, if_neg q0, if_pos q4, ck_true _ (inb_nI c24 (by decide)), nI_clamp (show c < 2 ^ 31 by omega), vb_eq, e1, ck_true _ (inb_nI s5 (by decide)), nI_clamp (show s < 2 ^ 31 by omega), Nat.one_mul, e3, p, cb_some, st, cb_some, if_neg c0, ck_true _ b3, C_hasOath b5, cb_some, M_lawFor c24 s5 e2 e4, cb_some, q, cb_some]
  have main : (comesS hM l c = 3 ∨ comesS hM l c = 4) → Ok (if bI (decide (comesS hM l c = 3 ∨ comesS hM l c = 4)) = 0 then some ((-5 : Int32), h') else if nI m = 0 then some (gi h' (saO 11 k) 12, h') else if nI m = 1 then some (gi h' (saO 11 k) 11, h') else some (gi h' (saO 11 k) 13, h')) fun v hC' => Ok (m_X9_due_L49 (nI c) (nI m) (nI l) (comesS hM l c) k1) fun w hM' => v = w ∧ InvE hC' hM' := by
    intro h34
    obtain ⟨t1, t2, t3⟩ := b5.2 h34
    obtain ⟨k2, q2, w2⟩ := M_oathBy G hc hl w h34
    obtain ⟨kk, ok, k8, -⟩ := ok_some G hl h34
    have ekk : kindS hM l (okS hM l c) = gi hM 10 (8 * l + kk) := by rw [ok]; rfl
    unfold m_X9_due_L49
    rw [decide_eq_true h34, if_neg (show ¬ bI true = 0 by decide), q2, cb_some, ok, show oI l (some kk) = nI (8 * l + kk) from rfl, ck_true _ (inb_nI (by omega) (by decide)), ck_true _ (inb_nI (by omega) (by decide)), nI_clamp (show 8 * l + kk < 2 ^ 31 by omega), w2.i _ (by decide) (by decide)]
    rcases (show m = 0 ∨ m = 1 ∨ m = 2 by omega) with rfl | rfl | rfl
    · exact fin2 (by rw [if_pos (show nI 0 = 0 from rfl)]) (by rw [if_pos (show nI 0 = 0 from rfl)]) (by rw [t2, ekk]) (IE _ _ w2)
    · exact fin2 (by rw [if_neg (show ¬ nI 1 = 0 by decide), if_pos (show nI 1 = 1 from rfl)]) (by rw [if_neg (show ¬ nI 1 = 0 by decide), if_pos (show nI 1 = 1 from rfl)]) (by rw [t1, ok, show (8 : Int32) = nI 8 from rfl, pk_mul, pk_sub (by omega), show 8 * l + kk - 8 * l = kk by omega]; rfl) (IE _ _ w2)
    · obtain ⟨k3, q3, w3⟩ := M_who (kind := gi hM 10 (8 * l + kk)) G hc hl w2
      exact fin2 (by rw [if_neg (show ¬ nI 2 = 0 by decide), if_neg (show ¬ nI 2 = 1 by decide)]) (by rw [if_neg (show ¬ nI 2 = 0 by decide), if_neg (show ¬ nI 2 = 1 by decide), q3, cb_some]) (by rw [t3]; unfold wS; rw [ekk]) (IE _ _ w3)
  by_cases h3 : comesS hM l c = 3
  · rw [if_pos h3]; exact main (Or.inl h3)
  rw [if_neg h3]
  by_cases h4 : comesS hM l c = 4
  · rw [if_pos h4]; exact main (Or.inr h4)
  rw [if_neg h4, decide_eq_false (fun q => q.elim h3 h4), if_pos (show bI false = 0 from rfl)]
  exact Inv.ok rfl (IE _ _ w)
theorem b_beside (a1 a2 a3 : Int32) : Both (m_X8_beside a1 a2 a3) (m_X9_beside a1 a2 a3) := by
  rintro hC hM ⟨ns, nc, nl, nf, I0⟩
  have I : InvE hC hM := ⟨ns, nc, nl, nf, I0⟩
  have G := I0.gm
  unfold m_X8_beside m_X9_beside
  rcases isClaim_both I0.1 a1 with ⟨p1, p2⟩ | ⟨c, hc, rfl, p1, p2⟩
  · simp only [p1, p2, cb_some, if00]; exact Inv.ok rfl I
  rcases isLaw_both I0.1 a2 with ⟨r1, r2⟩ | ⟨l, hl, rfl, r1, r2⟩
  · simp only [p1, p2, r1, r2, cb_some, if00, if10]; exact Inv.ok rfl I
  rcases isLaw_both I0.1 a3 with ⟨t1, t2⟩ | ⟨l', hl', rfl, t1, t2⟩
  · simp only [p1, p2, r1, r2, t1, t2, cb_some, if00, if10]; exact Inv.ok rfl I
  obtain ⟨s, l0, hs, hl0, s5, l6, c24, e1, e2, e3, e4, hm⟩ := claim_info I0 hc
  obtain ⟨h1, qd, qp, p, R, Br, F⟩ := C_hear (B := 11) I0 (Or.inl rfl) hs hl
  have I1 : Inv ns nc nl nf h1 hM := I0.eq (F.eqC (Or.inl rfl)) (EqM.rfl' hM)
  obtain ⟨h2, qd', qp', p', R', Br', F'⟩ := C_hear (B := 50) I1 (Or.inr rfl) hs hl'
  have R1 := R.fr F' (Or.inl ⟨rfl, rfl⟩)
  obtain ⟨k1, q, w⟩ := M_comes G hc hl (EqK.of (EqM.rfl' hM))
  obtain ⟨k2, q', w'⟩ := M_comes G hc hl' w
  refine fin2 (v := comesS hM l c * 10 + comesS hM l' c) (w := 10 * comesS hM l c + comesS hM l' c) (hC := h2) (hM := k2) ?_ ?_ (by rw [Int32.mul_comm]) ((I.eq (F.eqC (Or.inl rfl)) (EqM.rfl' hM)).eq (F'.eqC (Or.inr rfl)) w'.1)
  · rw [p1, cb_some, if10, r1, cb_some, if10, t1, cb_some, if10, ck_true _ (inb_nI c24 (by decide)), nI_clamp (by omega), e1, p, cb_some, (F (96 + 2 * c) (by omega)).1, e1, p', cb_some, C_comesOf R1 (LS_nodup _ _) hm (LS_lt G), cb_some, C_comesOf R' (LS_nodup _ _) hm (LS_lt G), cb_some]
  · rw [p2, cb_some, if10, r2, cb_some, if10, t2, cb_some, if10, q, cb_some, q', cb_some]
def orI (f : Nat → Bool) : Nat → Int32 → List Nat → Int32
  | _, a, [] => a
  | k, a, c :: L => orI f (k + 1) (if f c = true then a ||| (1 <<< (nI k &&& 31)) else a) L
theorem C_choices {B l : Nat} {x qd qp : Int32} {g h : Hp} {L : List Nat} {sa : Nat → Nat} (R : Hrd B l x qd qp g L sa h) : m_X2_choicesInTruth B h = some (orI (swS g l) 0 0 L, h) := by
  obtain ⟨e10, hL⟩ := R.len
  have key : ∀ n k a, k ≤ L.length → L.length - k < n → m_X2_choicesInTruth_L4 n B a (nI k) h = some (orI (swS g l) k a (L.drop k), h) := by
    intro n
    induction n with
    | zero => intro k a _ h2; omega
    | succ n ih =>
      intro k a h1 h2
      unfold m_X2_choicesInTruth_L4
      rw [e10]
      by_cases hk : k = L.length
      · subst hk
        rw [if_pos (nI_le (Nat.le_refl _) (by omega)), List.drop_eq_nil_of_le (Nat.le_refl _)]; rfl
      · obtain ⟨b1, b2, b3, b4, b5, b6, -⟩ := R.comes (show k < L.length by omega)
        rw [if_neg (nI_ge (by omega) (by omega)), ck_true _ (inb_nI (by omega) (by decide)), nI_clamp (by omega), b2, ck_true _ b3, C_swears R (by omega), cb_some, dropc (show k < L.length by omega)]
        simp only [vb_eq, nI_1, orI]
        cases hs : swS g l (L.getD k 0)
        · rw [if_pos (show bI false = 0 from rfl), if_neg (by decide)]; exact ih (k + 1) _ (by omega) (by omega)
        · rw [if_neg (show ¬ bI true = 0 by decide), if_pos rfl]; exact ih (k + 1) _ (by omega) (by omega)
  unfold m_X2_choicesInTruth
  exact key FU 0 0 (by omega) (by unfold FU; omega)
theorem M_trulyC {ns nc nl l s : Nat} {g : Hp} (G : GoM ns nc nl g) (hl : l < nl) (s5 : s < 5) (e5 : gi g 5 s = nI l) : ∀ n rem c k a z (h : Hp), c + rem = nc → rem < n → EqK z g h → ∃ h' z', m_X9_truly_L17 n (nI s) a (nI k) (nI c) h = some (orI (swS g l) k a (clF g (nI s) rem c), h') ∧ EqK z' g h' := by
  obtain ⟨e1, n24⟩ := G.1
  intro n
  induction n with
  | zero => intro rem c k a z h _ h2; omega
  | succ n ih =>
    intro rem c k a z h h1 h2 eq
    unfold m_X9_truly_L17
    rw [eq.o (by decide), e1]
    cases rem with
    | zero =>
      rw [if_pos (nI_le (by omega) (by omega))]
      exact ⟨h, z, rfl, eq⟩
    | succ rem =>
      rw [if_neg (nI_ge (by omega) (by omega)), M_g0 (by omega), cb_some, eq.i _ (by decide) (by decide)]
      simp only [Nat.add_zero]
      by_cases hq : gi g 6 (10 * c) = nI s
      · rw [if_pos hq, clF_t hq, ck_true _ (inb_nI s5 (by decide)), nI_clamp (show s < 2 ^ 31 by omega), eq.i _ (by decide) (by decide), e5]
        obtain ⟨k1, p1, w1⟩ := M_true G (show c < nc by omega) hl eq
        obtain ⟨v, hv, ev⟩ := paid_lN G hl (show c < nc by omega) (swS g l c) (pcanS (rowS g c))
        rw [p1, cb_some, w1.2]
        simp only [orI]
        unfold m_X9_truly_L76 m_X9_truly_L77
        simp only [vb_eq, nI_1, Int32.or_zero]
        have nn : ¬ truF g l c < 0 := by
          unfold truF; rw [ev, show (0 : Int64) = lN 0 from rfl, pk_lLT (by omega) (by decide)]; omega
        cases hs : swS g l c
        · rw [hs] at w1
          rw [if_pos (show bI false = 0 from rfl), if_neg (by decide)]
          exact ih rem (c + 1) (k + 1) _ _ k1 (by omega) (by omega) w1
        · rw [hs] at w1
          rw [if_neg (show ¬ bI true = 0 by decide), if_neg nn, if_pos rfl]
          exact ih rem (c + 1) (k + 1) _ _ k1 (by omega) (by omega) w1
      · rw [if_neg hq, clF_f hq, vb_eq, nI_1]
        exact ih rem (c + 1) k _ _ h (by omega) (by omega) eq
theorem LS_nc {ns nc nl : Nat} {g : Hp} (G : GoM ns nc nl g) (x : Int32) : LsS g x = clF g x nc 0 := by
  have := G.1.2
  unfold LsS; rw [G.1.1, nI_clamp (by omega)]
theorem b_truly (a1 : Int32) : Both (m_X8_truly a1) (m_X9_truly a1) := by
  rintro hC hM ⟨ns, nc, nl, nf, I0⟩
  have I : InvE hC hM := ⟨ns, nc, nl, nf, I0⟩
  have G := I0.gm
  have n24 := G.1.2
  unfold m_X8_truly m_X9_truly
  rcases isSuit_both I0.1 a1 with ⟨p1, p2⟩ | ⟨s, hs, rfl, p1, p2⟩
  · simp only [p1, p2, cb_some, if00]; exact Inv.ok rfl I
  obtain ⟨l, hl, s5, l6, e3, e4⟩ := suit_info I0 hs
  obtain ⟨h', qd, qp, p, R, Br, F⟩ := C_hear (B := 11) I0 (Or.inl rfl) hs hl
  obtain ⟨k1, z, q, w⟩ := M_trulyC G hl s5 e4 FU nc 0 0 0 _ hM (by omega) (by unfold FU; omega) (EqK.of (EqM.rfl' hM))
  refine fin2 (v := orI (swS hM l) 0 0 (LsS hM (nI s))) (w := orI (swS hM l) 0 0 (LsS hM (nI s))) (hC := h') (hM := k1) ?_ ?_ rfl (I.eq (F.eqC (Or.inl rfl)) w.1)
  · rw [p1, cb_some, if10, ck_true _ (inb_nI s5 (by decide)), nI_clamp (by omega), Nat.one_mul, e3, p, cb_some, C_choices R, cb_some]
  · rw [p2, cb_some, if10, LS_nc G]; exact q
def sumN (f : Nat → Nat) : Nat → List Nat → Nat
  | a, [] => a
  | a, c :: L => sumN f (a + f c) L
def rolF (g : Hp) (l c : Nat) : Nat := if comesS g l c = 4 then 1 else 0
theorem C_howMany {B l : Nat} {x qd qp : Int32} {g h : Hp} {L : List Nat} {sa : Nat → Nat} (R : Hrd B l x qd qp g L sa h) : m_X2_howManyRolled B h = some (nI (sumN (rolF g l) 0 L), h) := by
  obtain ⟨e10, hL⟩ := R.len
  have key : ∀ n k a, k ≤ L.length → L.length - k < n → m_X2_howManyRolled_L4 n B (nI a) (nI k) h = some (nI (sumN (rolF g l) a (L.drop k)), h) := by
    intro n
    induction n with
    | zero => intro k a _ h2; omega
    | succ n ih =>
      intro k a h1 h2
      unfold m_X2_howManyRolled_L4
      rw [e10]
      by_cases hk : k = L.length
      · subst hk
        rw [if_pos (nI_le (Nat.le_refl _) (by omega)), List.drop_eq_nil_of_le (Nat.le_refl _)]; rfl
      · obtain ⟨b1, b2, b3, b4, b5, b6, -⟩ := R.comes (show k < L.length by omega)
        rw [if_neg (nI_ge (by omega) (by omega)), ck_true _ (inb_nI (by omega) (by decide)), nI_clamp (by omega), b2, ck_true _ b3, b5.1, dropc (show k < L.length by omega)]
        simp only [vb_eq, nI_1, sumN, rolF]
        by_cases h4 : comesS g l (L.getD k 0) = 4
        · rw [if_pos h4, if_pos h4]; exact ih (k + 1) _ (by omega) (by omega)
        · rw [if_neg h4, if_neg h4]; exact ih (k + 1) _ (by omega) (by omega)
  unfold m_X2_howManyRolled
  exact key FU 0 0 (by omega) (by unfold FU; omega)
def rolEnd (s : Nat) (a2 t : Int32) (h : Hp) : Option (Int32 × Hp) := if a2 = 1 then some (t, h) else if t = 0 then some ((-5), h) else ck (inb (nI s) 5) (cb (m_X9_onto (gi h 5 (nI s).toNatClampNeg) (nI s) h) fun v5 h6 => some (v5, h6))
theorem M_rolledC {ns nc nl l s : Nat} {a2 : Int32} {g : Hp} (G : GoM ns nc nl g) (hl : l < nl) (s5 : s < 5) (e5 : gi g 5 s = nI l) : ∀ n rem c a z (h : Hp), c + rem = nc → rem < n → EqK z g h → ∃ h' z', m_X9_rolled_L25 n (nI s) a2 (nI a) (nI c) h = rolEnd s a2 (nI (sumN (rolF g l) a (clF g (nI s) rem c))) h' ∧ EqK z' g h' := by
  obtain ⟨e1, n24⟩ := G.1
  intro n
  induction n with
  | zero => intro rem c a z h _ h2; omega
  | succ n ih =>
    intro rem c a z h h1 h2 eq
    unfold m_X9_rolled_L25
    rw [eq.o (by decide), e1]
    cases rem with
    | zero =>
      rw [if_pos (nI_le (by omega) (by omega))]
      exact ⟨h, z, rfl, eq⟩
    | succ rem =>
      rw [if_neg (nI_ge (by omega) (by omega)), M_g0 (by omega), cb_some, eq.i _ (by decide) (by decide)]
      simp only [Nat.add_zero]
      unfold m_X9_rolled_L66 m_X9_rolled_L67
      simp only [vb_eq, nI_1, Int32.add_zero]
      by_cases hq : gi g 6 (10 * c) = nI s
      · rw [if_pos hq, clF_t hq, ck_true _ (inb_nI s5 (by decide)), show (nI s).toNatClampNeg = s from nI_clamp (by omega), eq.i _ (by decide) (by decide), e5]
        obtain ⟨k1, p1, w1⟩ := M_comes G (show c < nc by omega) hl eq
        rw [p1, cb_some]
        simp only [sumN, rolF]
        have ihr := fun a => ih rem (c + 1) a _ k1 (by omega) (by omega) w1
        by_cases h4 : comesS g l c = 4
        · rw [if_pos h4, if_pos h4]; exact ihr (a + 1)
        · rw [if_neg h4, if_neg h4]; exact ihr (a + 0)
      · rw [if_neg hq, clF_f hq]
        exact ih rem (c + 1) _ _ h (by omega) (by omega) eq
theorem sumN_le {f : Nat → Nat} : ∀ (L : List Nat) (a b : Nat), (∀ c, f c ≤ b) → sumN f a L ≤ a + b * L.length
  | [], a, b, _ => by simp [sumN]
  | c :: L, a, b, h => by
    have := sumN_le L (a + f c) b h
    have := h c
    simp only [sumN, List.length_cons, Nat.mul_add, Nat.mul_one] at *
    omega
theorem sumN_pos {f : Nat → Nat} : ∀ (L : List Nat) (a : Nat), sumN f a L ≠ 0 → a ≠ 0 ∨ ∃ c ∈ L, f c ≠ 0
  | [], a, h => Or.inl h
  | c :: L, a, h => by
    rcases sumN_pos L (a + f c) h with q | ⟨d, h1, h2⟩
    · by_cases a0 : a = 0
      · exact Or.inr ⟨c, by simp, by omega⟩
      · exact Or.inl a0
    · exact Or.inr ⟨d, by simp [h1], h2⟩
theorem b_rolled (a1 a2 : Int32) : Both (m_X8_rolled a1 a2) (m_X9_rolled a1 a2) := by
  rintro hC hM ⟨ns, nc, nl, nf, I0⟩
  have I : InvE hC hM := ⟨ns, nc, nl, nf, I0⟩
  have G := I0.gm
  have n24 := G.1.2
  unfold m_X8_rolled m_X9_rolled
  rcases isSuit_both I0.1 a1 with ⟨p1, p2⟩ | ⟨s, hs, rfl, p1, p2⟩
  · simp only [p1, p2, cb_some, if00]; exact Inv.ok rfl I
  rcases ix_cases a2 2 (by decide) (N := nI 2) (M := 1) rfl rfl with q | ⟨q0, q1, q2, q3, q4⟩ | ⟨m, hm2, rfl, q0, q1, q2, q3, q4⟩
  · simp only [p1, p2, m_X9_in, q, if_pos, cb_some, if10]; exact Inv.ok rfl I
  · simp only [p1, p2, m_X9_in, q0, q2, q4, if_pos, if_false, cb_some, if10]; exact Inv.ok rfl I
  obtain ⟨l, hl, s5, l6, e3, e4⟩ := suit_info I0 hs
  obtain ⟨h', qd, qp, p, R, Br, F⟩ := C_hear (B := 11) I0 (Or.inl rfl) hs hl
  obtain ⟨k1, z, q, w⟩ := M_rolledC (a2 := nI m) G hl s5 e4 FU nc 0 0 _ hM (by omega) (by unfold FU; omega) (EqK.of (EqM.rfl' hM))
  obtain ⟨e10, hL⟩ := R.len
  rw [← LS_nc G] at q
  have IE : ∀ z hM', EqK z hM hM' → InvE h' hM' := fun z hM' w => I.eq (F.eqC (Or.inl rfl)) w.1
  have lt := sumN_le (f := rolF hM l) (LsS hM (nI s)) 0 1 (fun c => by unfold rolF; split <;> omega)
  rw [p1, p2, cb_some, cb_some, if10, if10, show m_X9_in (nI m) 0 1 hM = some (1, hM) by simp only [m_X9_in, q0, q2, if_false], cb_some, if10, if_neg q0, if_pos q4, ck_true _ (inb_nI s5 (by decide)), nI_clamp (show s < 2 ^ 31 by omega), Nat.one_mul, e3, p, cb_some, C_howMany R, cb_some]
  have q' : m_X9_rolled_L25 FU (nI s) (nI m) 0 0 hM = rolEnd s (nI m) (nI (sumN (rolF hM l) 0 (LsS hM (nI s)))) k1 := q
  rw [q']
  unfold rolEnd
  by_cases h1 : nI m = 1
  · rw [if_pos h1, if_pos h1]; exact Inv.ok rfl (IE _ _ w)
  rw [if_neg h1, if_neg h1]
  by_cases h0 : nI (sumN (rolF hM l) 0 (LsS hM (nI s))) = 0
  · rw [if_pos h0, if_pos h0]; exact Inv.ok rfl (IE _ _ w)
  rw [if_neg h0, if_neg h0, ck_true _ (inb_nI s5 (by decide)), nI_clamp (show s < 2 ^ 31 by omega), w.i _ (by decide) (by decide), e4]
  obtain ⟨k2, q2, w2⟩ := M_onto' (x := nI s) G hl w
  rw [q2, cb_some]
  have e9 := R.2.2.2.2.2.1
  have on := onto_r (l := l) R.2.2.2.2.2.2.1
  unfold m_X2_numberRolledOnto
  rw [e9]
  rcases sumN_pos (f := rolF hM l) (LsS hM (nI s)) 0 (fun e => h0 (by rw [e]; rfl)) with q | ⟨c, hc, fc⟩
  · exact absurd rfl q
  have h4 : comesS hM l c = 4 := by
    unfold rolF at fc
    split at fc
    · assumption
    · exact absurd rfl fc
  have xc := ((LS_mem G).mp hc).2
  rcases comes_cases hM l c with ⟨e, -⟩ | ⟨e, -⟩ | ⟨e, -⟩ | ⟨e, -⟩ | ⟨-, -, c', ho⟩ | ⟨e, -⟩
  · rw [e] at h4; exact absurd h4 (by decide)
  · rw [e] at h4; exact absurd h4 (by decide)
  · rw [e] at h4; exact absurd h4 (by decide)
  · rw [e] at h4; exact absurd h4 (by decide)
  · rw [xc] at ho
    cases hR : rOn hM l qd qp (LsS hM (nI s)) with
    | none => rw [hR, ho] at on; cases on
    | some k =>
      rw [hR, ho] at on
      have hk := fiB_some _ _ hR
      obtain ⟨b1, -⟩ := R.comes (show k < (LsS hM (nI s)).length by omega)
      have ec : c' = (LsS hM (nI s)).getD k 0 := Option.some.inj on
      refine fin2 (v := nI c') (w := cI (ontoS hM l (nI s))) (hC := h') ?_ rfl (by rw [ho]; rfl) (IE _ _ w2)
      rw [if_pos (show 0 ≤ kI (some k) from nI_pos' (by omega)), show kI (some k) = nI k from rfl, ck_true _ (inb_nI (by omega) (by decide)), nI_clamp (by omega), cb_some, b1, ec]
  · rw [e] at h4; exact absurd h4 (by decide)
