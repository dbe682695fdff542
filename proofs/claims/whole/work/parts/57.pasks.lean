/-! ===== pure: what is asked of a hearing ===== -/
theorem Hrd.comes {B l : Nat} {x qd qp : Int32} {g h : Hp} {L : List Nat} {sa : Nat → Nat} (R : Hrd B l x qd qp g L sa h) {k : Nat} (hk : k < L.length) : gi h (B + 5) k = nI (L.getD k 0) ∧ gr h (B + 1) k = sa k ∧ kC 5 (sa k) = true ∧ StW h (sa k) g l (rowS g (L.getD k 0)) qd qp ∧ StS h (sa k) g l (L.getD k 0) ∧ k < 6 ∧ gi g 6 (10 * L.getD k 0) = x ∧ qD g (L.getD k 0) = qd ∧ qP g (L.getD k 0) = qp ∧ sa k ≠ 0 := by
  obtain ⟨hB, hl, L0, H, S, e9, C, hL⟩ := R
  obtain ⟨b1, b2, b3, b4⟩ := H.2 k hk
  obtain ⟨c1, c2, c3⟩ := C.2 k hk
  exact ⟨b1, b2, b3.kC (by omega) hB, b4, S k hk, by omega, c1, c2, c3, by have := (b3.lt (show k < 6 by omega)).1; omega⟩
theorem Hrd.len {B l : Nat} {x qd qp : Int32} {g h : Hp} {L : List Nat} {sa : Nat → Nat} (R : Hrd B l x qd qp g L sa h) : gi h B 10 = nI L.length ∧ L.length ≤ 6 := ⟨R.2.2.2.1.1.2.2.2, R.2.2.2.2.2.2.2⟩
theorem Hrd.law {B l : Nat} {x qd qp : Int32} {g h : Hp} {L : List Nat} {sa : Nat → Nat} (R : Hrd B l x qd qp g L sa h) : gr h B 6 = 144 + 6 * l ∧ kC 3 (144 + 6 * l) = true ∧ gi h (144 + 6 * l) 7 = gi g 13 l ∧ gi h (144 + 6 * l) 8 = gi g 14 l ∧ gi h (144 + 6 * l) 9 = gi g 15 l ∧ gi h (144 + 6 * l) 10 = gi g 16 l := by
  obtain ⟨hB, hl, L0, H, S, e9, C, hL⟩ := R
  obtain ⟨-, a, b, c, d, e, -, -, -, -, -, -, -, c7, c8, c9, c10, c11, m13, m14, m15, m16, m17⟩ := L0
  exact ⟨H.1.1, kC3 hl, c7.trans m13.symm, c8.trans m14.symm, c9.trans m15.symm, c10.trans m16.symm⟩
theorem C_placeOf {B l : Nat} {x qd qp : Int32} {g h : Hp} {L : List Nat} {sa : Nat → Nat} (R : Hrd B l x qd qp g L sa h) {c nc : Nat} (hn : L.Nodup) (hc : c ∈ L) (n24 : ∀ d ∈ L, d < 24) : ∃ k, k < L.length ∧ L.getD k 0 = c ∧ m_X2_placeOf B (nI c) h = some (nI k, h) := by
  obtain ⟨k, hk, e⟩ := mem_getD hc
  obtain ⟨e10, hL⟩ := R.len
  refine ⟨k, hk, e, ?_⟩
  have key : ∀ n j, j ≤ k → k - j < n → m_X2_placeOf_L2 n B (nI c) (nI j) h = some (nI k, h) := by
    intro n
    induction n with
    | zero => intro j _ h2; omega
    | succ n ih =>
      intro j h1 h2
      have j5 := (R.comes (show j < L.length by omega)).1
      unfold m_X2_placeOf_L2
      rw [e10, if_neg (nI_ge (by omega) (by omega)), ck_true _ (inb_nI (by omega) (by decide)), nI_clamp (by omega), j5]
      by_cases hj : j = k
      · subst hj
        rw [e, if_pos rfl]
      · have ne : ¬ nI (L.getD j 0) = nI c := by
          have d1 := n24 _ (getD_mem (L := L) (k := j) (by omega))
          have d2 := n24 _ hc
          rw [nI_eq (by omega) (by omega), ← e]
          exact fun q => hj (getD_inj hn (by omega) hk q)
        rw [if_neg ne, vb_eq, nI_1]
        exact ih (j + 1) (by omega) (by omega)
  unfold m_X2_placeOf
  exact key FU 0 (by omega) (by unfold FU; omega)
theorem LS_nodup (g : Hp) (x : Int32) : (LsS g x).Nodup := clF_nodup _ _
theorem LS_mem {ns nc nl : Nat} {g : Hp} (G : GoM ns nc nl g) {x : Int32} {c : Nat} : c ∈ LsS g x ↔ c < nc ∧ gi g 6 (10 * c) = x := by
  have n24 := G.1.2
  unfold LsS
  rw [clF_mem, G.1.1, nI_clamp (by omega)]
  constructor
  · rintro ⟨-, h1, h2⟩; exact ⟨by omega, h2⟩
  · rintro ⟨h1, h2⟩; exact ⟨by omega, by omega, h2⟩
theorem C_comesOf {B l : Nat} {x qd qp : Int32} {g h : Hp} {L : List Nat} {sa : Nat → Nat} (R : Hrd B l x qd qp g L sa h) {c : Nat} (hn : L.Nodup) (hc : c ∈ L) (n24 : ∀ d ∈ L, d < 24) : m_X2_comesOf B (nI c) h = some (comesS g l c, h) := by
  obtain ⟨k, hk, e, p⟩ := C_placeOf (nc := 0) R hn hc n24
  obtain ⟨b1, b2, b3, b4, b5, b6, -⟩ := R.comes hk
  unfold m_X2_comesOf
  rw [p, cb_some, if_pos (nI_pos' (by omega)), ck_true _ (inb_nI (by omega) (by decide)), nI_clamp (by omega), b2, ck_true _ b3, b5.1, e]
theorem C_standing {B l : Nat} {x qd qp : Int32} {g h : Hp} {L : List Nat} {sa : Nat → Nat} (R : Hrd B l x qd qp g L sa h) {c : Nat} (hn : L.Nodup) (hc : c ∈ L) (n24 : ∀ d ∈ L, d < 24) : ∃ k, k < L.length ∧ L.getD k 0 = c ∧ m_X2_standingOfNumber B (nI c) h = some (sa k, h) := by
  obtain ⟨k, hk, e, p⟩ := C_placeOf (nc := 0) R hn hc n24
  obtain ⟨b1, b2, b3, b4, b5, b6, -⟩ := R.comes hk
  refine ⟨k, hk, e, ?_⟩
  unfold m_X2_standingOfNumber
  rw [p, cb_some, if_pos (nI_pos' (by omega)), ck_true _ (inb_nI (by omega) (by decide)), nI_clamp (by omega), b2, ck_true _ b3]
theorem C_below {B l : Nat} {x qd qp : Int32} {g h : Hp} {L : List Nat} {sa : Nat → Nat} (R : Hrd B l x qd qp g L sa h) : m_X2_below B h = some (lineS g l, h) := by
  obtain ⟨a1, a2, -, a4, -, a6⟩ := R.law
  unfold m_X2_below lineS
  rw [a1, ck_true _ a2, a4, a6]
theorem C_hasOath {h : Hp} {a l c : Nat} {g : Hp} (s : StS h a g l c) : m_X5_hasOath a h = some (bI (decide (comesS g l c = 3 ∨ comesS g l c = 4)), h) := by
  unfold m_X5_hasOath
  rw [s.1]
  by_cases h3 : comesS g l c = 3
  · rw [if_pos h3, decide_eq_true (Or.inl h3)]; rfl
  rw [if_neg h3]
  by_cases h4 : comesS g l c = 4
  · rw [if_pos h4, decide_eq_true (Or.inr h4)]; rfl
  rw [if_neg h4, decide_eq_false (fun q => q.elim h3 h4)]; rfl
theorem C_paidWhen {B l : Nat} {x qd qp : Int32} {g h : Hp} {L : List Nat} {sa : Nat → Nat} (R : Hrd B l x qd qp g L sa h) {k : Nat} (hk : k < L.length) (a2 a3 : Int32) : m_X2_paidWhen B (sa k) a2 a3 h = some (paidS g l (L.getD k 0) (!decide (a2 = 0)) (!decide (a3 = 0)), h) := by
  obtain ⟨b1, b2, b3, ⟨s0, s1, s2, s3, s4, s5, s6, s7, s8, s9⟩, b5, b6, c1, c2, c3, -⟩ := R.comes hk
  obtain ⟨l1, l2, l7, l8, l9, l10⟩ := R.law
  have ho := C_hasOath b5
  have hb := C_below R
  have K : ∀ v, m_X2_paidWhen_L42 B (sa k) v h = some ((rowS g (L.getD k 0) 3).toInt64 * lineS g l + v, h) := fun v => by
    unfold m_X2_paidWhen_L42
    rw [hb, cb_some, s0]
  unfold m_X2_paidWhen paidS paidF
  rw [b5.1]
  by_cases h2 : comesS g l (L.getD k 0) = 2
  · rw [if_pos h2, if_pos h2, hb, cb_some, vb_eq, K, s1]
  rw [if_neg h2, if_neg h2, ho, cb_some]
  by_cases h34 : comesS g l (L.getD k 0) = 3 ∨ comesS g l (L.getD k 0) = 4
  · obtain ⟨t1, t2, t3⟩ := b5.2 h34
    rw [decide_eq_true h34, if_neg (show ¬ bI true = 0 by decide), if_pos h34]
    unfold m_X2_openByOath
    rw [t3, s1, s4, l1, l7, l8, l9, l10, hb, cb_some, ck_true _ l2, ck_true _ l2, c3]
    by_cases w2 : wS g l (L.getD k 0) = 2
    · rw [if_pos w2, if_pos w2, cb_some, K]
    rw [if_neg w2, if_neg w2]
    by_cases w1 : wS g l (L.getD k 0) = 1
    · rw [if_pos w1, if_pos w1]
      by_cases z : a2 = 0
      · rw [if_pos z, decide_eq_true z, cb_some, K]; rfl
      · rw [if_neg z, decide_eq_false z, cb_some, K]; rfl
    rw [if_neg w1, if_neg w1]
    by_cases z : a2 = 0
    · rw [if_pos z, decide_eq_true z]
      cases goesS g l (rowS g (L.getD k 0)) qp
      · rw [if_pos (show bI false = 0 from rfl), cb_some, K]; rfl
      · rw [if_neg (show ¬ bI true = 0 by decide)]
        by_cases z3 : a3 = 0
        · rw [if_pos z3, decide_eq_true z3, cb_some, K]; rfl
        · rw [if_neg z3, decide_eq_false z3, cb_some, K]; rfl
    · rw [if_neg z, decide_eq_false z, cb_some, K]; rfl
  · rw [decide_eq_false h34, if_pos (show bI false = 0 from rfl), if_neg h34, K]
theorem C_swears {B l : Nat} {x qd qp : Int32} {g h : Hp} {L : List Nat} {sa : Nat → Nat} (R : Hrd B l x qd qp g L sa h) {k : Nat} (hk : k < L.length) : m_X5_swearsInTruth (sa k) h = some (bI (swS g l (L.getD k 0)), h) := by
  obtain ⟨b1, b2, b3, ⟨s0, s1, s2, s3, s4, s5, s6, s7, s8, s9⟩, b5, b6, c1, c2, c3, -⟩ := R.comes hk
  have ho := C_hasOath b5
  unfold m_X5_swearsInTruth swS canS
  rw [ho, cb_some]
  by_cases h34 : comesS g l (L.getD k 0) = 3 ∨ comesS g l (L.getD k 0) = 4
  · obtain ⟨t1, t2, t3⟩ := b5.2 h34
    rw [decide_eq_true h34, if_neg (show ¬ bI true = 0 by decide), t3, t2, s2, s3, ck_true _ (isb_bI _), Bool.true_and]
    by_cases w2 : wS g l (L.getD k 0) = 2
    · rw [if_pos w2, decide_eq_true w2]; rfl
    rw [if_neg w2, decide_eq_false w2]
    by_cases w1 : wS g l (L.getD k 0) = 1
    · rw [if_pos w1, if_pos w1]; rfl
    rw [if_neg w1, if_neg w1]
    by_cases k4 : kindS g l (okS g l (L.getD k 0)) = 4
    · rw [if_pos k4, decide_eq_true k4]
      cases dcanS (rowS g (L.getD k 0)) <;> rfl
    · rw [if_neg k4, decide_eq_false k4]
      cases dcanS (rowS g (L.getD k 0)) <;> rfl
  · rw [decide_eq_false h34, if_pos (show bI false = 0 from rfl)]; rfl
def sumL (f : Nat → Int64) : Int64 → List Nat → Int64
  | a, [] => a
  | a, c :: L => sumL f (a + f c) L
def truF (g : Hp) (l c : Nat) : Int64 := paidS g l c (swS g l c) (pcanS (rowS g c))
theorem nb_bI (b : Bool) : (!decide (bI b = 0)) = b := by cases b <;> rfl
theorem C_truth {B l : Nat} {x qd qp : Int32} {g h : Hp} {L : List Nat} {sa : Nat → Nat} (R : Hrd B l x qd qp g L sa h) : m_X2_paidInTruth B h = some (sumL (truF g l) 0 L, h) := by
  obtain ⟨e10, hL⟩ := R.len
  have key : ∀ n k a, k ≤ L.length → L.length - k < n → m_X2_paidInTruth_L4 n B a (nI k) h = some (sumL (truF g l) a (L.drop k), h) := by
    intro n
    induction n with
    | zero => intro k a _ h2; omega
    | succ n ih =>
      intro k a h1 h2
      unfold m_X2_paidInTruth_L4
      rw [e10]
      by_cases hk : k = L.length
      · subst hk
        rw [if_pos (nI_le (Nat.le_refl _) (by omega)), List.drop_eq_nil_of_le (Nat.le_refl _)]; rfl
      · obtain ⟨b1, b2, b3, b4, b5, b6, -⟩ := R.comes (show k < L.length by omega)
        rw [if_neg (nI_ge (by omega) (by omega)), ck_true _ (inb_nI (by omega) (by decide)), nI_clamp (by omega), b2, ck_true _ b3, C_swears R (by omega), cb_some, b4.2.2.2.1, C_paidWhen R (by omega), cb_some, vb_eq, vb_eq, nI_1, ih (k + 1) _ (by omega) (by omega), dropc (show k < L.length by omega), nb_bI, nb_bI]
        rfl
  unfold m_X2_paidInTruth
  exact key FU 0 0 (by omega) (by unfold FU; omega)
theorem can_sw (g : Hp) (l c : Nat) (t : Bool) : paidS g l c (canS g l c) t = paidS g l c (swS g l c) t := by
  unfold paidS paidF
  by_cases h2 : comesS g l c = 2
  · rw [if_pos h2, if_pos h2]
  rw [if_neg h2, if_neg h2]
  by_cases h34 : comesS g l c = 3 ∨ comesS g l c = 4
  · rw [if_pos h34, if_pos h34]
    by_cases w2 : wS g l c = 2
    · rw [if_pos w2, if_pos w2]
    rw [if_neg w2, if_neg w2]
    have e : swS g l c = canS g l c := by
      unfold swS
      rw [decide_eq_true h34, decide_eq_false w2]; rfl
    rw [e]
  · rw [if_neg h34, if_neg h34]
theorem M_true {z : Int32} {ns nc nl l c : Nat} {g h : Hp} (G : GoM ns nc nl g) (hc : c < nc) (hl : l < nl) (eq : EqK z g h) : ∃ h', m_X9_paidOf (nI l) (nI c) 2 h = some (truF g l c, h') ∧ EqK (bI (swS g l c)) g h' := by
  obtain ⟨h', z', p, e, hz⟩ := M_paid (mode := 2) G hc hl eq (Or.inl rfl)
  refine ⟨h', ?_, ?_⟩
  · rw [p]
    unfold swM thM truF
    rw [if_pos rfl, if_pos rfl, can_sw]
  · rw [← hz rfl]; exact e
theorem M_truly {ns nc nl l : Nat} {x : Int32} {g : Hp} (G : GoM ns nc nl g) (hl : l < nl) : ∀ n rem c a z (h : Hp), c + rem = nc → rem < n → EqK z g h → ∃ h' z', m_X9_trulyPaid_L5 n (nI l) x a (nI c) h = some (sumL (truF g l) a (clF g x rem c), h') ∧ EqK z' g h' := by
  obtain ⟨e1, n24⟩ := G.1
  intro n
  induction n with
  | zero => intro rem c a z h _ h2; omega
  | succ n ih =>
    intro rem c a z h h1 h2 eq
    unfold m_X9_trulyPaid_L5
    rw [eq.o (by decide), e1]
    cases rem with
    | zero =>
      rw [if_pos (nI_le (by omega) (by omega))]
      exact ⟨h, z, rfl, eq⟩
    | succ rem =>
      rw [if_neg (nI_ge (by omega) (by omega)), M_g0 (by omega), cb_some, eq.i _ (by decide) (by decide)]
      simp only [Nat.add_zero]
      unfold m_X9_trulyPaid_L38
      by_cases hq : gi g 6 (10 * c) = x
      · rw [if_pos hq, clF_t hq]
        obtain ⟨k1, p1, w1⟩ := M_true G (show c < nc by omega) hl eq
        rw [p1, cb_some, vb_eq, vb_eq, nI_1]
        exact ih rem (c + 1) _ _ k1 (by omega) (by omega) w1
      · rw [if_neg hq, clF_f hq, vb_eq, vb_eq, nI_1, i64_add0]
        exact ih rem (c + 1) _ _ h (by omega) (by omega) eq
theorem M_truth {z : Int32} {ns nc nl l : Nat} {x : Int32} {g h : Hp} (G : GoM ns nc nl g) (hl : l < nl) (eq : EqK z g h) : ∃ h' z', m_X9_trulyPaid (nI l) x h = some (sumL (truF g l) 0 (LsS g x), h') ∧ EqK z' g h' := by
  have n24 := G.1.2
  unfold m_X9_trulyPaid LsS
  rw [G.1.1, nI_clamp (by omega)]
  exact M_truly G hl FU nc 0 0 z h (by omega) (by unfold FU; omega) eq
