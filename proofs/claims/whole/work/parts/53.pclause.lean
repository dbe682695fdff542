/-! ===== pure: the class's clauses that hold, as bits ===== -/
theorem cases8 {i : Nat} (h : i < 8) : i = 0 ∨ i = 1 ∨ i = 2 ∨ i = 3 ∨ i = 4 ∨ i = 5 ∨ i = 6 ∨ i = 7 := by omega
theorem sm8 {i : Nat} (hi : i < 8) : ((nI i &&& 31 : Int32).toBitVec.smod 32) = BitVec.ofNat 32 i := by
  rcases cases8 hi with rfl | rfl | rfl | rfl | rfl | rfl | rfl | rfl <;> rfl
theorem sh1_bit : ∀ i, i < 8 → ∀ k, k < 32 → (1 <<< (nI i &&& 31) : Int32).toBitVec.getLsbD k = decide (k = i) := by decide +kernel
theorem bit_set {v : Int32} {i k : Nat} (hi : i < 8) (hk : k < 32) : (v ||| (1 <<< (nI i &&& 31))).toBitVec.getLsbD k = (v.toBitVec.getLsbD k || decide (k = i)) := by
  rw [Int32.toBitVec_or, BitVec.getLsbD_or, sh1_bit i hi k hk]
theorem and1_bit32 (x : Int32) : (x &&& 1 = 1) ↔ x.toBitVec.getLsbD 0 = true := by
  constructor
  · intro h
    have := congrArg (fun y : Int32 => y.toBitVec.getLsbD 0) h
    simp only [Int32.toBitVec_and, BitVec.getLsbD_and] at this
    rw [show (1 : Int32).toBitVec = 1#32 from rfl] at this
    simpa using this
  · intro h
    apply Int32.toBitVec_inj.mp
    rw [Int32.toBitVec_and, show (1 : Int32).toBitVec = 1#32 from rfl]
    apply BitVec.eq_of_getLsbD_eq
    intro i hi
    rw [BitVec.getLsbD_and, BitVec.getLsbD_one]
    by_cases hi0 : i = 0
    · subst hi0; simp [h]
    · simp [hi0]
theorem bit_get {v : Int32} {i : Nat} (hi : i < 8) : ((v >>> (nI i &&& 31)) &&& 1 = 1) ↔ v.toBitVec.getLsbD i = true := by
  rw [and1_bit32]
  show (v.toBitVec.sshiftRight ((nI i &&& 31 : Int32).toBitVec.smod 32).toNat).getLsbD 0 = true ↔ _
  rw [sm8 hi, BitVec.toNat_ofNat, Nat.mod_eq_of_lt (by omega), BitVec.getLsbD_sshiftRight]
  simp [show ¬ 32 ≤ (0 : Nat) by decide, show i < 32 by omega]
theorem kC3 {l : Nat} (hl : l < 6) : kC 3 (144 + 6 * l) = true := by
  rcases (show l = 0 ∨ l = 1 ∨ l = 2 ∨ l = 3 ∨ l = 4 ∨ l = 5 by omega) with rfl | rfl | rfl | rfl | rfl | rfl <;> decide +kernel
/-- the bits of v tell which clauses with tests hold -/
def BitH (g : Hp) (l : Nat) (r : Nat → Int32) (q v : Int32) : Prop := ∀ k, k < ncS g l → gi g 9 (8 * l + k) ≠ 6 → v.toBitVec.getLsbD k = holdS g (8 * l + k) r q
theorem ncS_n {hC g : Hp} {l : Nat} (L : LawI hC g l) : gi hC (144 + 6 * l) 5 = nI (ncS g l) ∧ ncS g l ≤ 8 ∧ ∀ k, k < ncS g l → NoClI hC g l k ∨ (WordR (gi hC (144 + 6 * l + 1) k) (gi g 9 (8 * l + k)) ∧ ClI hC g l k ∧ (if gi hC (144 + 6 * l + 1) k = 2 then gi hC (144 + 6 * l + 2) k = gi g 10 (8 * l + k) ∧ (∃ j, 1 ≤ j ∧ j ≤ 6 ∧ gi g 10 (8 * l + k) = nI j) else gi hC (144 + 6 * l + 2) k = 0)) := by
  obtain ⟨⟨n, hn, e1, e2, ks⟩, -⟩ := L
  have en : ncS g l = n := by unfold ncS; rw [e2, nI_clamp (by omega)]
  rw [en]
  exact ⟨e1, hn, ks⟩
theorem WordR.ne6 {s w : Int32} (h : WordR s w) : w ≠ 6 := by
  rcases h with ⟨rfl, rfl⟩ | ⟨rfl, rfl⟩ | ⟨rfl, rfl⟩ | ⟨rfl, rfl⟩ | ⟨rfl, rfl⟩ | ⟨rfl, rfl⟩ <;> decide
theorem WordR.iff {s w s' w' : Int32} (h : WordR s w) (h' : WordR s' w') : s = s' ↔ w = w' := by
  rcases h with ⟨rfl, rfl⟩ | ⟨rfl, rfl⟩ | ⟨rfl, rfl⟩ | ⟨rfl, rfl⟩ | ⟨rfl, rfl⟩ | ⟨rfl, rfl⟩ <;> rcases h' with ⟨rfl, rfl⟩ | ⟨rfl, rfl⟩ | ⟨rfl, rfl⟩ | ⟨rfl, rfl⟩ | ⟨rfl, rfl⟩ | ⟨rfl, rfl⟩ <;> decide
theorem law_word {hC g : Hp} {l k : Nat} (L : LawI hC g l) (hk : k < ncS g l) {s w : Int32} (h : WordR s w) : gi hC (144 + 6 * l + 1) k = s ↔ gi g 9 (8 * l + k) = w := by
  rcases (ncS_n L).2.2 k hk with ⟨h1, h2, -⟩ | ⟨h1, -⟩
  · rw [h1]
    constructor
    · intro e
      rw [e] at h2
      exfalso
      rcases h with ⟨rfl, rfl⟩ | ⟨rfl, rfl⟩ | ⟨rfl, rfl⟩ | ⟨rfl, rfl⟩ | ⟨rfl, rfl⟩ | ⟨rfl, rfl⟩ <;> revert h2 <;> decide
    · intro e
      exact absurd e.symm h.ne6
  · exact h1.iff h
theorem C_holds0 {hC g h : Hp} {l k a2 : Nat} {q : Int32} (hk : k < 8) (n : NoClI hC g l k) : m_X3_holds (144 + 6 * l) (nI k) a2 q hC = some (0, hC) := by
  obtain ⟨-, -, -, st, h3, h4, h5⟩ := n
  unfold m_X3_holds
  rw [ck_true _ (inb_nI hk (by decide)), nI_clamp (show k < 2 ^ 31 by omega), vb_eq, h3]
  show m_X3_holds_L11 (1199 + 1) (144 + 6 * l) (nI k) a2 q 0 (nI st) hC = _
  unfold m_X3_holds_L11
  rw [ck_true _ (inb_nI hk (by decide)), nI_clamp (show k < 2 ^ 31 by omega), h4, if_pos (nI_le (Nat.le_refl _) (by omega))]
  rfl
theorem C_holding {h g : Hp} {l a1 : Nat} {q : Int32} {r : Nat → Int32} (hl : l < 6) (L : LawI h g l) (hr : ∀ k, k < 10 → gi h a1 k = r k) : ∃ v, m_X3_holding (144 + 6 * l) a1 q h = some (v, h) ∧ BitH g l r q v := by
  obtain ⟨e1, n8, ks⟩ := ncS_n L
  have key : ∀ m rem i v, i + rem = ncS g l → rem < m → (∀ k, k < i → gi g 9 (8 * l + k) ≠ 6 → v.toBitVec.getLsbD k = holdS g (8 * l + k) r q) → (∀ k, i ≤ k → k < 32 → v.toBitVec.getLsbD k = false) → ∃ v', m_X3_holding_L5 m (144 + 6 * l) a1 q v (nI i) h = some (v', h) ∧ BitH g l r q v' := by
    intro m
    induction m with
    | zero => intro rem i v _ h2; omega
    | succ m ih =>
      intro rem i v h1 h2 p1 p2
      unfold m_X3_holding_L5
      rw [e1]
      cases rem with
      | zero =>
        rw [if_pos (nI_le (by omega) (by omega))]
        exact ⟨v, rfl, fun k hk => p1 k (by omega)⟩
      | succ rem =>
        rw [if_neg (nI_ge (by omega) (by omega))]
        have t : ∀ b : Bool, m_X3_holds (144 + 6 * l) (nI i) a1 q h = some (bI b, h) → (gi g 9 (8 * l + i) ≠ 6 → b = holdS g (8 * l + i) r q) → ∃ v', (cb (m_X3_holds (144 + 6 * l) (nI i) a1 q h) fun v2 h3 => if v2 = 0 then vb (nI i + 1) fun v5 => m_X3_holding_L5 m (144 + 6 * l) a1 q v v5 h3 else vb (v ||| (1 <<< (nI i &&& 31))) fun v6 => vb (nI i + 1) fun v7 => m_X3_holding_L5 m (144 + 6 * l) a1 q v6 v7 h3) = some (v', h) ∧ BitH g l r q v' := by
          intro b hb hp
          rw [hb, cb_some]
          simp only [vb_eq, nI_1]
          cases b
          · rw [if_pos (show bI false = 0 from rfl)]
            refine ih rem (i + 1) v (by omega) (by omega) (fun k hk h6 => ?_) (fun k hk => p2 k (by omega))
            by_cases hki : k = i
            · subst hki; rw [p2 k (Nat.le_refl _) (by omega)]; exact hp h6
            · exact p1 k (by omega) h6
          · rw [if_neg (show ¬ bI true = 0 by decide)]
            refine ih rem (i + 1) _ (by omega) (by omega) (fun k hk h6 => ?_) (fun k hk hk2 => ?_)
            · rw [bit_set (by omega) (by omega)]
              by_cases hki : k = i
              · subst hki; rw [decide_eq_true rfl, Bool.or_true]; exact hp h6
              · rw [decide_eq_false hki, Bool.or_false]; exact p1 k (by omega) h6
            · rw [bit_set (by omega) hk2, decide_eq_false (by omega), Bool.or_false]; exact p2 k (by omega) hk2
        rcases ks i (by omega) with n | ⟨w, cl, -⟩
        · exact t false (C_holds0 (h := h) (by omega) n) (fun h6 => absurd n.1 h6)
        · exact t _ (C_holds hl (by omega) cl hr) (fun _ => rfl)
  unfold m_X3_holding
  exact key FU (ncS g l) 0 0 (by omega) (by unfold FU; omega) (fun k hk => by omega) (fun k _ hk => by
    show (0#32).getLsbD k = false
    simp)
theorem C_has {h g : Hp} {l : Nat} {q v s w : Int32} {r : Nat → Int32} (L : LawI h g l) (hw : WordR s w) (B : BitH g l r q v) : m_X3_hasAmong (144 + 6 * l) s v h = some (bI (someS g l w r q), h) := by
  obtain ⟨e1, n8, -⟩ := ncS_n L
  have key : ∀ m rem i, i + rem = ncS g l → rem < m → m_X3_hasAmong_L2 m (144 + 6 * l) s v (nI i) h = some (bI (exB (fun k => decide (gi g 9 (8 * l + k) = w) && holdS g (8 * l + k) r q) rem i), h) := by
    intro m
    induction m with
    | zero => intro rem i _ h2; omega
    | succ m ih =>
      intro rem i h1 h2
      unfold m_X3_hasAmong_L2
      rw [e1]
      cases rem with
      | zero => rw [if_pos (nI_le (by omega) (by omega))]; rfl
      | succ rem =>
        rw [if_neg (nI_ge (by omega) (by omega)), ck_true _ (inb_nI (by omega) (by decide)), nI_clamp (show i < 2 ^ 31 by omega)]
        simp only [exB, vb_eq, nI_1]
        have ih' := ih rem (i + 1) (by omega) (by omega)
        by_cases hq : gi g 9 (8 * l + i) = w
        · rw [if_pos ((law_word L (by omega) hw).mpr hq), decide_eq_true hq, Bool.true_and]
          have hb := B i (by omega) (by rw [hq]; exact hw.ne6)
          cases hh : holdS g (8 * l + i) r q
          · rw [if_neg (fun e => by rw [bit_get (by omega), hb, hh] at e; cases e), Bool.false_or]; exact ih'
          · rw [if_pos ((bit_get (by omega)).mpr (hb.trans hh)), Bool.true_or]; rfl
        · rw [if_neg (fun e => hq ((law_word L (by omega) hw).mp e)), decide_eq_false hq, Bool.false_and, Bool.false_or]; exact ih'
  unfold m_X3_hasAmong someS
  exact key FU (ncS g l) 0 (by omega) (by unfold FU; omega)
def kI (o : Option Nat) : Int32 := match o with | none => -1 | some k => nI k
theorem C_first {h g : Hp} {l : Nat} {qd qp vd vp : Int32} {r : Nat → Int32} (L : LawI h g l) (Bd : BitH g l r qd vd) (Bp : BitH g l r qp vp) : m_X3_firstOathAmong (144 + 6 * l) vp vd h = some (kI (oathS g l r qd qp), h) := by
  obtain ⟨e1, n8, ks⟩ := ncS_n L
  have key : ∀ m rem i, i + rem = ncS g l → rem < m → m_X3_firstOathAmong_L2 m (144 + 6 * l) vp vd (nI i) h = some (kI (fiB (fun k => decide (gi g 9 (8 * l + k) = 2) && holdS g (8 * l + k) r (if gi g 10 (8 * l + k) = 6 then qp else qd)) rem i), h) := by
    intro m
    induction m with
    | zero => intro rem i _ h2; omega
    | succ m ih =>
      intro rem i h1 h2
      unfold m_X3_firstOathAmong_L2
      rw [e1]
      cases rem with
      | zero => rw [if_pos (nI_le (by omega) (by omega))]; rfl
      | succ rem =>
        have ih' := ih rem (i + 1) (by omega) (by omega)
        have hw := law_word L (k := i) (by omega) (s := 2) (w := 2) (Or.inr (Or.inr (Or.inl ⟨rfl, rfl⟩)))
        rw [if_neg (nI_ge (by omega) (by omega)), ck_true _ (inb_nI (by omega) (by decide)), nI_clamp (show i < 2 ^ 31 by omega)]
        unfold m_X3_firstOathAmong_L26
        rw [ck_true _ (inb_nI (by omega) (by decide)), ck_true _ (inb_nI (by omega) (by decide)), nI_clamp (show i < 2 ^ 31 by omega)]
        simp only [vb_eq, nI_1]
        by_cases hq : gi g 9 (8 * l + i) = 2
        · have hs := hw.mpr hq
          rw [if_pos hs, if_pos hs]
          have hk : gi h (144 + 6 * l + 2) i = gi g 10 (8 * l + i) := by
            rcases ks i (by omega) with n | ⟨-, -, k2⟩
            · exact absurd (hq.symm.trans n.1) (by decide)
            · rw [if_pos hs] at k2; exact k2.1
          rw [hk]
          by_cases h6 : gi g 10 (8 * l + i) = 6
          · rw [if_pos h6]
            have hpi : (fun k => decide (gi g 9 (8 * l + k) = 2) && holdS g (8 * l + k) r (if gi g 10 (8 * l + k) = 6 then qp else qd)) i = holdS g (8 * l + i) r qp := by simp only [h6, hq, if_pos, decide_true, Bool.true_and]
            have hb := Bp i (by omega) (by rw [hq]; decide)
            cases hh : holdS g (8 * l + i) r qp
            · rw [if_neg (fun e => by rw [bit_get (by omega), hb, hh] at e; cases e), fiB_f (hpi.trans hh)]; exact ih'
            · rw [if_pos ((bit_get (by omega)).mpr (hb.trans hh)), fiB_t (hpi.trans hh)]; rfl
          · rw [if_neg h6]
            have hpi : (fun k => decide (gi g 9 (8 * l + k) = 2) && holdS g (8 * l + k) r (if gi g 10 (8 * l + k) = 6 then qp else qd)) i = holdS g (8 * l + i) r qd := by simp only [h6, hq, if_false, decide_true, Bool.true_and]
            have hb := Bd i (by omega) (by rw [hq]; decide)
            cases hh : holdS g (8 * l + i) r qd
            · rw [if_neg (fun e => by rw [bit_get (by omega), hb, hh] at e; cases e), fiB_f (hpi.trans hh)]; exact ih'
            · rw [if_pos ((bit_get (by omega)).mpr (hb.trans hh)), fiB_t (hpi.trans hh)]; rfl
        · have hs : ¬ gi h (144 + 6 * l + 1) i = 2 := fun e => hq (hw.mp e)
          rw [if_neg hs, if_neg hs, fiB_f (by simp only [hq, decide_false, Bool.false_and])]
          split <;> exact ih'
  unfold m_X3_firstOathAmong oathS
  exact key FU (ncS g l) 0 (by omega) (by unfold FU; omega)
