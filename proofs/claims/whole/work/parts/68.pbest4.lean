/-! ===== pure: best, slips ===== -/
def BestM (s : StB) (h : Hp) : Prop := gi h 1 31 = nI s.1 ∧ gl h 1 33 = s.2.1 ∧ gi h 1 32 = nI s.2.2 ∧ s.2.2 ≤ 4 ∧ s.1 < 1000
theorem M_step {ns nc nl l s v : Nat} {z : Int32} {g h : Hp} {L : List Nat} (G : GoM ns nc nl g) (hl : l < nl) (s5 : s < 5) (e5 : gi g 5 s = nI l) (eL : LsS g (nI s) = L) (hL : L.length ≤ 4) (hv : v < 1000) (O : LO g L nc h) : ∃ h1, m_X9_manyOf (nI s) h = some (nI L.length, h) ∧ m_X9_layOut (nI s) (nI v) h = some ((), h1) ∧ h1 = layQ L L.length v h ∧ LO g L nc h1 ∧ GoM ns nc nl h1 ∧ gi h1 1 = gi h 1 ∧ gl h1 = gl h ∧ gi h1 5 s = nI l ∧ LsS h1 (nI s) = L ∧ (∀ h2 z', EqK z' h1 h2 → LO g L nc h2 ∧ (∀ j, j ≠ 28 → gi h2 1 j = gi h 1 j) ∧ gl h2 1 = gl h 1) ∧ sumL (truF h1 l) 0 L = tyF g l L v ∧ sumN (oaF h1 l) 0 L = oyF g l L v ∧ anD h1 l L = dyF g l L v := by
  have n24 := G.1.2
  have hn : L.Nodup := eL ▸ LS_nodup g (nI s)
  have e1 : gi h 1 1 = nI nc := by rw [O.2.1 1 (by decide) (by decide) (by decide)]; exact G.1.1
  have x6 : ∀ d, gi h 6 (10 * d) = gi g 6 (10 * d) := fun d => O.2.2.2.1 d 0 (by decide) (Or.inl ⟨by decide, by decide⟩)
  have eL' : clF h (nI s) nc 0 = L := by
    rw [← eL, LS_nc G]; exact clF_congr _ _ (fun d _ _ => x6 d)
  have E := O.eqG hn v
  obtain ⟨p1, p2⟩ := M_layOut (v := v) n24 (by omega) (fun d hd => by rw [← eL] at hd; exact LS_lt G d hd) (by omega) e1 eL'
  have G' := goM_lo G hn O v
  refine ⟨_, p1, p2, rfl, O.lay v, G', layQ_o _ _ _ _ _ (by decide), funext fun a => layQ_l _ _ _ _ a, ?_, ?_, fun h2 z' e => ⟨(O.lay v).eqM e.1, fun j hj => ?_, ?_⟩, ?_, ?_, ?_⟩
  · rw [layQ_o _ _ _ _ _ (by decide), O.1 5 (by decide) (by decide) (by decide) (by decide) (by decide)]; exact e5
  · rw [LS_nc G', ← eL']
    exact clF_congr _ _ (fun d _ _ => layQ_k _ _ _ _ _ 0 (by decide) (by decide) (by decide))
  · rw [e.o hj, layQ_o _ _ _ _ _ (by decide)]
  · rw [e.1.2, show gl (layQ L L.length v h) 1 = gl h 1 from layQ_l _ _ _ _ _]
  · exact sumL_cg (fun c => tru_cg E) L 0
  · exact sumN_cg (fun c => by unfold oaF; rw [comes_cg E, w_cg E]) L 0
  · unfold dyF
    have key : ∀ M : List Nat, anD (layQ L L.length v h) l M = anD (layQ L L.length v g) l M := fun M => by
      induction M with
      | nil => rfl
      | cons c M ih => unfold anD; rw [ih, comes_cg E]
    exact key L
theorem M_findL {ns nc nl l s : Nat} {g : Hp} {L : List Nat} (G : GoM ns nc nl g) (hl : l < nl) (s5 : s < 5) (e5 : gi g 5 s = nI l) (eL : LsS g (nI s) = L) (hL : L.length ≤ 4) : ∀ rem v n st h, v + rem = 5 ^ L.length → rem < n → LO g L nc h → (v = 0 → gi h 1 31 = -1) → (0 < v → BestM st h) → ∃ h', m_X9_findBest_L11 n (nI s) (nI v) h = some ((), h') ∧ EqN g h' ∧ LO g L nc h' ∧ BestM (bsR (tyF g l L) (oyF g l L) rem v st) h' := by
  have p625 := p5 L.length (by omega)
  have n24 := G.1.2
  have hLn : ∀ d ∈ L, d < nc := fun d hd => by rw [← eL] at hd; exact ((LS_mem G).mp hd).1
  intro rem
  induction rem with
  | zero =>
    intro v n st h h1 h2 O _ Bs
    obtain ⟨n, rfl⟩ := Nat.exists_eq_succ_of_ne_zero (by omega : n ≠ 0)
    obtain ⟨k1, q1, -⟩ := M_step (z := 0) (v := 0) G hl s5 e5 eL hL (by decide) O
    obtain ⟨h', p, N, O', e1, e2⟩ := M_putb n24 G.1.1 hLn O
    unfold m_X9_findBest_L11
    rw [M_rows hL q1, cb_some, if_pos (nI_le (by omega) (by omega)), p, cb_some]
    refine ⟨h', rfl, N, O', ?_⟩
    have B := Bs (by omega)
    unfold BestM at *
    rw [e1, e2]; exact B
  | succ rem ih =>
    intro v n st h h1 h2 O B0 Bs
    obtain ⟨n, rfl⟩ := Nat.exists_eq_succ_of_ne_zero (by omega : n ≠ 0)
    obtain ⟨k1, q1, q2, -, O1, G1, f1, fl, e51, eL1, A, T, Oo, -⟩ := M_step (z := 0) (v := v) G hl s5 e5 eL hL (by omega) O
    obtain ⟨k2, z2, q3, w2⟩ := M_truth (x := nI s) G1 hl (EqK.of (EqM.rfl' k1))
    rw [eL1, T] at q3
    obtain ⟨O2, i2, l2⟩ := A k2 _ w2
    obtain ⟨k3, z3, q4, w3⟩ := M_oaths (s := s) G1 hl FU nc 0 0 _ k2 (by omega) (by unfold FU; omega) w2
    rw [← LS_nc G1, eL1, Oo] at q4
    obtain ⟨O3, i3, l3⟩ := A k3 _ w3
    have ol := oy_le g l L v
    unfold m_X9_findBest_L11
    rw [M_rows hL q1, cb_some, if_neg (nI_ge (by omega) (by omega)), q2, cb_some, ck_true _ (inb_nI s5 (by decide)), nI_clamp (show s < 2 ^ 31 by omega), e51, q3, cb_some]
    have q4' : m_X9_oathsOf (nI s) k2 = some (nI (oyF g l L v), k3) := by
      unfold m_X9_oathsOf
      rw [ck_true _ (inb_nI s5 (by decide)), nI_clamp (by omega), vb_eq, w2.i _ (by decide) (by decide), e51]
      exact q4
    unfold m_X9_findBest_L57 m_X9_findBest_L92
    rw [q4', cb_some, i2 31 (by decide), i3 31 (by decide), l2, l3, i3 32 (by decide)]
    simp only [hb_eq, vb_eq, nI_1]
    have take : ∃ h', m_X9_findBest_L11 n (nI s) (nI (v + 1)) (si (sl (si k3 1 31 (nI v)) 1 33 (tyF g l L v)) 1 32 (nI (oyF g l L v))) = some ((), h') ∧ EqN g h' ∧ LO g L nc h' ∧ BestM (bsR (tyF g l L) (oyF g l L) rem (v + 1) (v, tyF g l L v, oyF g l L v)) h' := by
      refine ih (v + 1) n _ _ (by omega) (by omega) ?_ (fun h => absurd h (by omega)) (fun _ => ⟨?_, ?_, ?_, Nat.le_trans ol hL, show v < 1000 by omega⟩)
      · obtain ⟨o1, o2, o3, o4, o5⟩ := O3
        refine ⟨fun a h1 h2 h3 h4 h5 => ?_, fun j h1 h2 h3 => ?_, fun a ha => ?_, fun d k hk hd => ?_, fun c hc => ?_⟩
        · rw [gi_si_na h1, gi_slf, gi_si_na h1]; exact o1 a h1 h2 h3 h4 h5
        · rw [gi_si_nk h3, gi_sl, gi_si_nk h2]; exact o2 j h1 h2 h3
        · rw [gl_sif, gl_sl_na ha]; exact o3 a ha
        · rw [gi_si_ne (by decide), gi_sl, gi_si_ne (by decide)]; exact o4 d k hk hd
        · rw [gi_si_ne (by decide), gi_sl, gi_si_ne (by decide), gi_si_ne (by decide), gi_sl, gi_si_ne (by decide)]; exact o5 c hc
      · rw [gi_si_nk (by decide), gi_sl, gi_si]
      · rw [gl_si, gl_sl]
      · rw [gi_si]
    unfold bsR bsS
    by_cases v0 : v = 0
    · subst v0
      rw [B0 rfl, if_pos (by decide), if_pos (by decide), if_pos (Or.inl rfl)]; exact take
    · obtain ⟨b1, b2, b3, b4, b5⟩ := Bs (by omega)
      have skip : ∀ k, LO g L nc k → (∀ j, j ≠ 28 → gi k 1 j = gi h 1 j) → gl k 1 = gl h 1 → ∃ h', m_X9_findBest_L11 n (nI s) (nI (v + 1)) k = some ((), h') ∧ EqN g h' ∧ LO g L nc h' ∧ BestM (bsR (tyF g l L) (oyF g l L) rem (v + 1) st) h' := fun k Ok ik lk =>
        ih (v + 1) n st k (by omega) (by omega) Ok (fun h => absurd h (by omega)) (fun _ => ⟨by rw [ik 31 (by decide)]; exact b1, by rw [lk]; exact b2, by rw [ik 32 (by decide)]; exact b3, b4, b5⟩)
      rw [b1, b2, b3, if_neg (nI_pos (n := st.1) (by omega)), if_neg (nI_pos (n := st.1) (by omega))]
      by_cases c1 : tyF g l L v < st.2.1
      · have c1' : tyF g l L v ≤ st.2.1 := by rw [Int64.le_iff_toInt_le]; rw [Int64.lt_iff_toInt_lt] at c1; omega
        have c2 : ¬ tyF g l L v = st.2.1 := fun e => by rw [e, Int64.lt_iff_toInt_lt] at c1; omega
        rw [if_pos c1', if_neg c2, if_pos (Or.inr (Or.inl c1))]; exact take
      by_cases c2 : tyF g l L v = st.2.1
      · have c1' : tyF g l L v ≤ st.2.1 := by rw [c2, Int64.le_iff_toInt_le]; omega
        rw [if_pos c1', if_pos c2]
        by_cases c3 : oyF g l L v < st.2.2
        · rw [if_pos (nI_lt c3 (by omega)), if_pos (Or.inr (Or.inr ⟨c2, c3⟩))]; exact take
        · rw [if_neg (fun q => c3 (by rw [Int32.lt_iff_toInt_lt, nI_toInt (by omega), nI_toInt (by omega)] at q; omega)), if_neg (fun q => q.elim v0 (fun q => q.elim c1 (fun q => c3 q.2)))]; exact skip k3 O3 i3 l3
      · have c1' : ¬ tyF g l L v ≤ st.2.1 := fun q => by
          rw [Int64.le_iff_toInt_le] at q
          rw [Int64.lt_iff_toInt_lt] at c1
          exact c2 (l_ext (by omega))
        rw [if_neg c1', if_neg (fun q => q.elim v0 (fun q => q.elim c1 (fun q => c2 q.1)))]; exact skip k2 O2 i2 l2
theorem M_find {ns nc nl l s : Nat} {g : Hp} {L : List Nat} (G : GoM ns nc nl g) (hl : l < nl) (s5 : s < 5) (e5 : gi g 5 s = nI l) (eL : LsS g (nI s) = L) (hL : L.length ≤ 4) (st : StB) : ∃ h', m_X9_findBest (nI s) g = some ((), h') ∧ EqN g h' ∧ LO g L nc h' ∧ BestM (bsR (tyF g l L) (oyF g l L) (5 ^ L.length) 0 st) h' := by
  have p625 := p5 L.length (by omega)
  have n24 := G.1.2
  obtain ⟨k1, p1, q1, q2, -, q4⟩ := M_keep n24 FU 0 g (by omega) (by unfold FU; omega) G.1.1
  have O : LO g L nc (si k1 1 31 (-1)) := by
    refine ⟨fun a h1 h2 h3 h4 h5 => ?_, fun j h1 h2 h3 => ?_, fun a _ => q2 a, fun d k hk hd => ?_, fun c hc => ?_⟩
    · rw [gi_si_na h1]; exact q1 a h4 h5
    · rw [gi_si_nk h2, q1 1 (by decide) (by decide)]
    · rw [gi_si_ne (by decide), q1 6 (by decide) (by decide)]
    · rw [gi_si_ne (by decide), gi_si_ne (by decide)]; exact q4 c (Nat.zero_le _) hc
  obtain ⟨h', p, N, O', B⟩ := M_findL G hl s5 e5 eL hL (5 ^ L.length) 0 FU st _ (by omega) (by unfold FU; omega) O (fun _ => gi_si _ _ _ _) (fun h => absurd h (Nat.lt_irrefl _))
  refine ⟨h', ?_, N, O', B⟩
  unfold m_X9_findBest m_X9_keepAnswers
  rw [show (0 : Int32) = nI 0 from rfl, p1, cb_some, hb_eq]
  exact p
theorem bsR_min (T : Nat → Int64) (O : Nat → Nat) : ∀ n v s, (0 < v → ∀ u, u < v → s.2.1 ≤ T u) → ∀ u, u < v + n → (0 < v + n) → (bsR T O n v s).2.1 ≤ T u
  | 0, v, s, h, u, hu, hv => h (by omega) u hu
  | n + 1, v, s, h, u, hu, hv => by
    unfold bsR
    refine bsR_min T O n (v + 1) _ (fun _ u hu => ?_) u (by omega) (by omega)
    unfold bsS
    split
    · rename_i q
      show T v ≤ T u
      by_cases e : u = v
      · subst e; rw [Int64.le_iff_toInt_le]; omega
      · have h1 := h (by omega) u (by omega)
        rw [Int64.le_iff_toInt_le] at h1 ⊢
        rcases q with q | q | ⟨q, -⟩
        · omega
        · rw [Int64.lt_iff_toInt_lt] at q; omega
        · rw [q]; exact h1
    · rename_i q
      by_cases e : u = v
      · subst e
        rw [Int64.le_iff_toInt_le]
        have : ¬ T u < s.2.1 := fun c => q (Or.inr (Or.inl c))
        rw [Int64.lt_iff_toInt_lt] at this
        omega
      · exact h (by omega) u (by omega)
theorem M_anyL {ns nc nl l s : Nat} {g : Hp} (k31 : Int32 → Int32 → Int32 → Hp → Option (Int32 × Hp)) {a2 a3 : Int32} (G : GoM ns nc nl g) (hl : l < nl) (s5 : s < 5) (e5 : gi g 5 s = nI l) : ∀ n rem c b z (h : Hp), c + rem = nc → rem < n → EqK z g h → ∃ h' z', m_X9_slips_L52 k31 n (nI s) a2 a3 (bI b) (nI c) h = m_X9_slips_L105 k31 (nI s) a2 a3 (bI (b || anD g l (clF g (nI s) rem c))) h' ∧ EqK z' g h' := by
  obtain ⟨e1, n24⟩ := G.1
  have n6 := G.2.2.2.2.2.1
  intro n
  induction n with
  | zero => intro rem c b z h _ h2; omega
  | succ n ih =>
    intro rem c b z h h1 h2 eq
    unfold m_X9_slips_L52
    rw [eq.o (by decide), e1]
    cases rem with
    | zero =>
      rw [if_pos (nI_le (by omega) (by omega))]
      exact ⟨h, z, by rw [show anD g l (clF g (nI s) 0 c) = false from rfl, Bool.or_false], eq⟩
    | succ rem =>
      rw [if_neg (nI_ge (by omega) (by omega))]
      cases b
      case true =>
        rw [if_neg (show ¬ bI true = 0 by decide)]
        exact ⟨h, z, rfl, eq⟩
      rw [if_pos (show bI false = 0 from rfl), M_g0 (by omega), cb_some, eq.i _ (by decide) (by decide)]
      simp only [Nat.add_zero]
      unfold m_X9_slips_L96 m_X9_slips_L97
      simp only [vb_eq, nI_1]
      by_cases hq : gi g 6 (10 * c) = nI s
      · rw [if_pos hq, clF_t hq, ck_true _ (inb_nI s5 (by decide)), show (nI s).toNatClampNeg = s from nI_clamp (by omega), eq.i _ (by decide) (by decide), e5]
        obtain ⟨k1, p1, w1⟩ := M_due G (show c < nc by omega) hl eq
        rw [p1, cb_some]
        unfold anD
        cases hd : dueS g l (rowS g c) (qD g c) (qP g c) with
        | none =>
          have h3 : ¬ comesS g l c = 3 := fun e => by
            rcases comes_cases g l c with ⟨e', -⟩ | ⟨e', -⟩ | ⟨e', -⟩ | ⟨-, k, hk⟩ | ⟨e', -⟩ | ⟨e', -⟩
            · rw [e'] at e; exact absurd e (by decide)
            · rw [e'] at e; exact absurd e (by decide)
            · rw [e'] at e; exact absurd e (by decide)
            · rw [hd] at hk; cases hk
            · rw [e'] at e; exact absurd e (by decide)
            · rw [e'] at e; exact absurd e (by decide)
          rw [if_pos (show oI l none < 0 from (by decide : (-1 : Int32) < 0)), decide_eq_false h3, Bool.false_or]
          exact ih rem (c + 1) false _ k1 (by omega) (by omega) w1
        | some k =>
          have dl := due_lt G hl hd
          have h3 : comesS g l c = 3 := by rw [comes_alone, alone_due hd, if_neg (by decide)]
          rw [if_neg (oI_neg (by omega)), decide_eq_true h3, Bool.true_or, Bool.false_or]
          exact ih rem (c + 1) true _ k1 (by omega) (by omega) w1
      · rw [if_neg hq, clF_f hq]
        exact ih rem (c + 1) false _ h (by omega) (by omega) eq
theorem M_slipL {ns nc nl l s : Nat} {g : Hp} {L : List Nat} {t : Int64} (G : GoM ns nc nl g) (hl : l < nl) (s5 : s < 5) (e5 : gi g 5 s = nI l) (eL : LsS g (nI s) = L) (hL : L.length ≤ 4) : ∀ rem v n a h, v + rem = 5 ^ L.length → rem < n → LO g L nc h → gl h 1 33 = t → ∃ h', m_X9_slips_L31 n (nI s) (nI a) (nI v) h = some (nI (slR (tyF g l L) (dyF g l L) t rem v a), h') ∧ EqN g h' := by
  have p625 := p5 L.length (by omega)
  have n24 := G.1.2
  have hLn : ∀ d ∈ L, d < nc := fun d hd => by rw [← eL] at hd; exact ((LS_mem G).mp hd).1
  intro rem
  induction rem with
  | zero =>
    intro v n a h h1 h2 O _
    obtain ⟨n, rfl⟩ := Nat.exists_eq_succ_of_ne_zero (by omega : n ≠ 0)
    obtain ⟨k1, q1, -⟩ := M_step (z := 0) (v := 0) G hl s5 e5 eL hL (by decide) O
    obtain ⟨h', p, N, O', e1, e2⟩ := M_putb n24 G.1.1 hLn O
    unfold m_X9_slips_L31
    rw [M_rows hL q1, cb_some, if_pos (nI_le (by omega) (by omega)), p, cb_some]
    exact ⟨h', rfl, N⟩
  | succ rem ih =>
    intro v n a h h1 h2 O ht
    obtain ⟨n, rfl⟩ := Nat.exists_eq_succ_of_ne_zero (by omega : n ≠ 0)
    obtain ⟨k1, q1, q2, -, O1, G1, f1, fl, e51, eL1, A, T, -, Dd⟩ := M_step (z := 0) (v := v) G hl s5 e5 eL hL (by omega) O
    obtain ⟨k2, z2, q3, w2⟩ := M_anyL (m_X9_slips_L31 n) (a2 := nI a) (a3 := nI v) G1 hl s5 e51 FU nc 0 false _ k1 (by omega) (by unfold FU; omega) (EqK.of (EqM.rfl' k1))
    rw [← LS_nc G1, eL1, Dd, Bool.false_or] at q3
    obtain ⟨O2, i2, l2⟩ := A k2 _ w2
    obtain ⟨k3, z3, q4, w3⟩ := M_truth (x := nI s) G1 hl w2
    rw [eL1, T] at q4
    obtain ⟨O3, i3, l3⟩ := A k3 _ w3
    unfold m_X9_slips_L31
    rw [M_rows hL q1, cb_some, if_neg (nI_ge (by omega) (by omega)), q2, cb_some]
    have q3' : m_X9_slips_L52 (m_X9_slips_L31 n) FU (nI s) (nI a) (nI v) 0 0 k1 = m_X9_slips_L105 (m_X9_slips_L31 n) (nI s) (nI a) (nI v) (bI (dyF g l L v)) k2 := q3
    rw [q3']
    unfold m_X9_slips_L105 m_X9_slips_L134 m_X9_slips_L135 slR
    simp only [vb_eq, nI_1, Int32.add_zero]
    cases hd : dyF g l L v
    · rw [if_pos (show bI false = 0 from rfl), ck_true _ (inb_nI s5 (by decide)), nI_clamp (show s < 2 ^ 31 by omega), w2.i _ (by decide) (by decide), e51, q4, cb_some, l3, ht]
      by_cases c : tyF g l L v = t
      · rw [if_pos c, if_pos ⟨rfl, c⟩]
        exact ih (v + 1) n (a + 1) k3 (by omega) (by omega) O3 (by rw [l3]; exact ht)
      · rw [if_neg c, if_neg (fun q => c q.2)]
        exact ih (v + 1) n a k3 (by omega) (by omega) O3 (by rw [l3]; exact ht)
    · rw [if_neg (show ¬ bI true = 0 by decide), if_neg (fun q => Bool.noConfusion q.1)]
      exact ih (v + 1) n a k2 (by omega) (by omega) O2 (by rw [l2]; exact ht)
theorem C_seekAll {l s : Nat} {x qd qp : Int32} {g h0 h : Hp} {L : List Nat} (hL : L.length ≤ 4) (hn : L.Nodup) (R : Hrd 11 l x qd qp g L (saO 11) h) (Br : BrI 11 L g h) (F : FrB 11 h0 h) (st : StB) : ∃ h', m_X2_seekBest 11 h = some ((), h') ∧ HB 11 l qd qp g L h' ∧ AnsI 11 l qd qp g L L.length h' ∧ FrB 11 h0 h' ∧ BestC 11 (bsR (tyF g l L) (oyF g l L) (5 ^ L.length) 0 st) h' := by
  have p625 := p5 L.length (by omega)
  obtain ⟨k1, p1, F1, A1⟩ := C_weighAll hL FU 0 h (Nat.zero_le _) (by unfold FU; omega) R.hb Br (fun k hk => absurd hk (Nat.not_lt_zero _))
  have H1 := R.hb.frA F1
  obtain ⟨h', p, H', A', F', B'⟩ := C_seek hL hn R.2.2.2.2.2.2.1 (5 ^ L.length) 0 FU st k1 (by omega) (by unfold FU; omega) H1 A1 (F.trans F1.b) (fun h => absurd h (Nat.lt_irrefl _))
  refine ⟨h', ?_, H', A', F', B'⟩
  unfold m_X2_seekBest m_X2_weighAnswers
  rw [show (0 : Int32) = nI 0 from rfl, p1, cb_some, C_rows hL H1.2.2.2.2.2.2.1, cb_some]
  exact p
theorem dig_both {i : Nat} {h h' : Hp} : ∀ d n n' v, d < n → d < n' → v < 2 ^ 30 → i + d < 100 → ∃ w, m_X2_answerIn_L10 n (nI i) (nI v) (nI (i + d)) h = some (w, h) ∧ m_X9_best_L69 n' (nI i) (nI v) (nI (i + d)) h' = some (w, h')
  | 0, n + 1, n' + 1, v, _, _, _, hd => by
    unfold m_X2_answerIn_L10 m_X9_best_L69
    rw [if_pos (nI_le (by omega) (by omega)), if_pos (nI_le (by omega) (by omega))]
    exact ⟨_, rfl, rfl⟩
  | d + 1, n + 1, n' + 1, v, hn, hn', hv, hd => by
    unfold m_X2_answerIn_L10 m_X9_best_L69
    rw [if_neg (nI_ge (by omega) (by omega)), if_neg (nI_ge (by omega) (by omega)), show (5 : Int32) = nI 5 from rfl, pk_div (by omega) (by decide) (by decide)]
    simp only [vb_eq]
    rw [show i + (d + 1) = (i + d) + 1 by omega, pk_m1]
    exact dig_both d n n' (v / 5) (by omega) (by omega) (by omega) (by omega)
theorem LS_len {ns nc nl nf : Nat} {hC hM : Hp} (I : Inv ns nc nl nf hC hM) (x : Int32) : cntR (gi hM 6) x nc = (LsS hM x).length := by
  have c := clF_len (g := hM) (x := x) nc 0
  rw [Nat.zero_add, ← LS_nc I.gm] at c
  have c0 : cntR (gi hM 6) x 0 = 0 := rfl
  omega
theorem b_best (a1 a2 : Int32) : Both (m_X8_best a1 a2) (m_X9_best a1 a2) := by
  rintro hC hM ⟨ns, nc, nl, nf, I0⟩
  have I : InvE hC hM := ⟨ns, nc, nl, nf, I0⟩
  have G := I0.gm
  have n24 := G.1.2
  unfold m_X8_best m_X9_best
  rcases isSuit_both I0.1 a1 with ⟨p1, p2⟩ | ⟨s, hs, rfl, p1, p2⟩
  · simp only [p1, p2, cb_some, if00]; exact Inv.ok rfl I
  have m1 := C_manyOf I0 (nI s)
  have m2 := M_manyOf I0 (nI s)
  have m6 := I0.2.2.2.1.2 (nI s)
  rw [LS_len I0] at m1 m2 m6
  rw [p1, p2, cb_some, cb_some, if10, if10, m1, m2, cb_some, cb_some]
  by_cases hL : (LsS hM (nI s)).length ≤ 4
  case neg =>
    rw [if_neg (show ¬ nI (LsS hM (nI s)).length ≤ 4 from nI_ge (b := (LsS hM (nI s)).length) (a := 4) (by omega) (by omega)), if_neg (show ¬ nI (LsS hM (nI s)).length ≤ 4 from nI_ge (b := (LsS hM (nI s)).length) (a := 4) (by omega) (by omega))]
    exact Inv.ok rfl I
  rw [if_pos (show nI (LsS hM (nI s)).length ≤ 4 from nI_le (b := 4) hL (by decide)), if_pos (show nI (LsS hM (nI s)).length ≤ 4 from nI_le (b := 4) hL (by decide)), m2, cb_some]
  obtain ⟨l, hl, s5, l6, e3, e4⟩ := suit_info I0 hs
  obtain ⟨h', qd, qp, p, R, Br, F⟩ := C_hear (B := 11) I0 (Or.inl rfl) hs hl
  obtain ⟨k1, q1, H1, A1, F1, B1⟩ := C_seekAll (s := s) hL (LS_nodup _ _) R Br F (0, 0, 0)
  obtain ⟨k2, q2, N2, O2, B2⟩ := M_find G hl s5 e4 rfl hL (0, 0, 0)
  obtain ⟨b1, b2, b3, b4⟩ := B1
  obtain ⟨c1, c2, c3, c4, c5⟩ := B2
  have IE : InvE k1 k2 := I.eqN (F1.eqC (Or.inl rfl)) N2
  have m3 : m_X9_manyOf (nI s) k2 = some (nI (LsS hM (nI s)).length, k2) := by
    obtain ⟨k3, q3, -⟩ := M_step (z := 0) (v := 0) G hl s5 e4 rfl hL (by decide) O2
    exact q3
  have lm1 : (nI (LsS hM (nI s)).length - 1).toInt = ((LsS hM (nI s)).length : Int) - 1 := nIm1 (by omega)
  have l0 := nI_toInt (show (LsS hM (nI s)).length < 2 ^ 31 by omega)
  have z1 : (-1 : Int32).toInt = -1 := rfl
  have z0 : (0 : Int32).toInt = 0 := rfl
  by_cases a_1 : a2 < -1
  · simp only [m_X9_in, a_1, if_pos, cb_some]; exact Inv.ok rfl I
  by_cases a_m : a2 < nI (LsS hM (nI s)).length
  case neg =>
    have : nI (LsS hM (nI s)).length - 1 < a2 := by rw [Int32.lt_iff_toInt_lt] at *; omega
    simp only [m_X9_in, a_1, a_m, this, if_pos, if_false, cb_some]; exact Inv.ok rfl I
  have am' : ¬ nI (LsS hM (nI s)).length - 1 < a2 := by rw [Int32.lt_iff_toInt_lt] at *; omega
  rw [if_neg a_1, if_pos a_m, show m_X9_in a2 (-1) (nI (LsS hM (nI s)).length - 1) hM = some (1, hM) by simp only [m_X9_in, a_1, am', if_false], cb_some, if10, ck_true _ (inb_nI s5 (by decide)), nI_clamp (by omega), Nat.one_mul, e3, p, cb_some, q1, cb_some, q2, cb_some]
  by_cases h0 : 0 ≤ a2
  · have hi : ∃ i : Nat, i < (LsS hM (nI s)).length ∧ a2 = nI i := by
      rw [Int32.le_iff_toInt_le] at h0
      rw [Int32.lt_iff_toInt_lt] at a_m
      refine ⟨a2.toInt.toNat, by omega, i_ext ?_⟩
      rw [nI_toInt (by omega)]; omega
    obtain ⟨i, hi, rfl⟩ := hi
    rw [if_pos h0, if_neg (show ¬ nI i = -1 from fun e => by rw [e] at h0; exact absurd h0 (by decide)), vb_eq, m3, cb_some, vb_eq, b1, c1]
    obtain ⟨w, w1, w2⟩ := dig_both (i := i) (h := k1) (h' := k2) ((LsS hM (nI s)).length - 1 - i) FU FU (bsR (tyF hM l (LsS hM (nI s))) (oyF hM l (LsS hM (nI s))) (5 ^ (LsS hM (nI s)).length) 0 (0, 0, 0)).1 (by unfold FU; omega) (by unfold FU; omega) (by omega) (by omega)
    rw [show i + ((LsS hM (nI s)).length - 1 - i) = (LsS hM (nI s)).length - 1 by omega, ← nI_sub1 (show 0 < (LsS hM (nI s)).length by omega)] at w1 w2
    refine fin2 ?_ w2 rfl IE
    unfold m_X2_answerIn
    rw [H1.2.2.2.2.2.2.1, vb_eq, w1, cb_some]
  · have e : a2 = -1 := by
      apply i_ext
      rw [Int32.le_iff_toInt_le] at h0
      rw [Int32.lt_iff_toInt_lt] at a_1
      omega
    rw [if_neg h0, if_pos e, b3, c3]
    exact Inv.ok rfl IE
theorem b_slips (a1 : Int32) : Both (m_X8_slips a1) (m_X9_slips a1) := by
  rintro hC hM ⟨ns, nc, nl, nf, I0⟩
  have I : InvE hC hM := ⟨ns, nc, nl, nf, I0⟩
  have G := I0.gm
  have n24 := G.1.2
  unfold m_X8_slips m_X9_slips
  rcases isSuit_both I0.1 a1 with ⟨p1, p2⟩ | ⟨s, hs, rfl, p1, p2⟩
  · simp only [p1, p2, cb_some, if00]; exact Inv.ok rfl I
  have m1 := C_manyOf I0 (nI s)
  have m2 := M_manyOf I0 (nI s)
  have m6 := I0.2.2.2.1.2 (nI s)
  rw [LS_len I0] at m1 m2 m6
  rw [p1, p2, cb_some, cb_some, if10, if10, m1, m2, cb_some, cb_some]
  by_cases hL : (LsS hM (nI s)).length ≤ 4
  case neg =>
    rw [if_neg (show ¬ nI (LsS hM (nI s)).length ≤ 4 from nI_ge (b := (LsS hM (nI s)).length) (a := 4) (by omega) (by omega)), if_neg (show ¬ nI (LsS hM (nI s)).length ≤ 4 from nI_ge (b := (LsS hM (nI s)).length) (a := 4) (by omega) (by omega))]
    exact Inv.ok rfl I
  rw [if_pos (show nI (LsS hM (nI s)).length ≤ 4 from nI_le (b := 4) hL (by decide)), if_pos (show nI (LsS hM (nI s)).length ≤ 4 from nI_le (b := 4) hL (by decide))]
  obtain ⟨l, hl, s5, l6, e3, e4⟩ := suit_info I0 hs
  obtain ⟨h', qd, qp, p, R, Br, F⟩ := C_hear (B := 11) I0 (Or.inl rfl) hs hl
  obtain ⟨k1, q1, H1, A1, F1, B1⟩ := C_seekAll (s := s) hL (LS_nodup _ _) R Br F (0, 0, 0)
  obtain ⟨k2, q2, N2, O2, B2⟩ := M_find G hl s5 e4 rfl hL (0, 0, 0)
  obtain ⟨b1, b2, b3, b4⟩ := B1
  obtain ⟨c1, c2, c3, c4, c5⟩ := B2
  have p625 := p5 (LsS hM (nI s)).length (by omega)
  obtain ⟨k3, q3, F3⟩ := C_oathless hL (LS_nodup _ _) R.2.2.2.2.2.2.1 (fun v hv => bsR_min (tyF hM l (LsS hM (nI s))) (oyF hM l (LsS hM (nI s))) (5 ^ (LsS hM (nI s)).length) 0 (0, 0, 0) (fun h => absurd h (Nat.lt_irrefl _)) v (by omega) (by omega)) (5 ^ (LsS hM (nI s)).length) 0 FU 0 k1 (by omega) (by unfold FU; omega) H1 A1 F1 b2
  obtain ⟨k4, q4, N4⟩ := M_slipL G hl s5 e4 rfl hL (5 ^ (LsS hM (nI s)).length) 0 FU 0 k2 (by omega) (by unfold FU; omega) O2 c2
  refine fin2 (v := nI (slR (tyF hM l (LsS hM (nI s))) (dyF hM l (LsS hM (nI s))) (bsR (tyF hM l (LsS hM (nI s))) (oyF hM l (LsS hM (nI s))) (5 ^ (LsS hM (nI s)).length) 0 (0, 0, 0)).2.1 (5 ^ (LsS hM (nI s)).length) 0 0)) (w := nI (slR (tyF hM l (LsS hM (nI s))) (dyF hM l (LsS hM (nI s))) (bsR (tyF hM l (LsS hM (nI s))) (oyF hM l (LsS hM (nI s))) (5 ^ (LsS hM (nI s)).length) 0 (0, 0, 0)).2.1 (5 ^ (LsS hM (nI s)).length) 0 0)) (hC := k3) (hM := k4) ?_ ?_ rfl (I.eqN (F3.eqC (Or.inl rfl)) N4)
  · rw [ck_true _ (inb_nI s5 (by decide)), nI_clamp (by omega), Nat.one_mul, e3, p, cb_some, q1, cb_some]
    unfold m_X2_oathlessRows
    rw [C_rows hL H1.2.2.2.2.2.2.1, cb_some, show (0 : Int32) = nI 0 from rfl, q3, cb_some]
  · rw [q2, cb_some, show (0 : Int32) = nI 0 from rfl, q4]
