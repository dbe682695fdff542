/-! ===== pure: best and slips, the reference's side ===== -/
/-- nothing that Inv reads was written -/
def EqN (g h : Hp) : Prop := (∀ a, a ≠ 1 → a ≠ 20 → a ≠ 21 → a ≠ 22 → gi h a = gi g a) ∧ (∀ j, j ≠ 28 → j ≠ 31 → j ≠ 32 → gi h 1 j = gi g 1 j) ∧ ∀ a, a ≠ 1 → gl h a = gl g a
theorem InvE.eqN {hC hM kC kM : Hp} (I : InvE hC hM) (c : EqC hC kC) (m : EqN hM kM) : InvE kC kM := by
  obtain ⟨ns, nc, nl, nf, I⟩ := I
  obtain ⟨i1, i2, i3, i4, i5, i6, i7, i8, i9, i10⟩ := I.eq c (EqM.rfl' hM)
  obtain ⟨m1, m2, m3⟩ := m
  have mf : ∀ a, a ≠ 1 → a < 20 ∨ 22 < a → gi kM a = gi hM a := fun a h1 h2 => m1 a h1 (by omega) (by omega) (by omega)
  exact ⟨ns, nc, nl, nf, i1.fr rfl rfl rfl rfl (m2 _ (by decide) (by decide) (by decide)) (m2 _ (by decide) (by decide) (by decide)) (m2 _ (by decide) (by decide) (by decide)) (m2 _ (by decide) (by decide) (by decide)),
    i2.fr rfl (mf _ (by decide) (by decide)),
    i3.fr (fun _ _ => rfl) (mf _ (by decide) (by decide)) (mf _ (by decide) (by decide)) (mf _ (by decide) (by decide)),
    i4.fr (fun _ _ => rfl) (mf _ (by decide) (by decide)),
    i5.fr rfl rfl rfl (fun _ _ => rfl) (m2 _ (by decide) (by decide) (by decide)) (mf _ (by decide) (by decide)) (mf _ (by decide) (by decide)),
    i6.fr rfl (mf _ (by decide) (by decide)),
    fun l hl => (i7 l hl).fr (fun _ _ _ => rfl) (fun a _ _ => mf _ (by omega) (by omega)) (mf _ (by decide) (by decide)),
    i8.fr rfl rfl (m2 _ (by decide) (by decide) (by decide)) (mf _ (by decide) (by decide)),
    i9.fr (fun _ _ => rfl) (fun _ _ => rfl) (mf _ (by decide) (by decide)) (mf _ (by decide) (by decide)) (m3 _ (by decide)), i10⟩
/-- the reference, while it lays out rows of answers for the claims of L -/
def LO (g : Hp) (L : List Nat) (nc : Nat) (h : Hp) : Prop := (∀ a, a ≠ 1 → a ≠ 6 → a ≠ 20 → a ≠ 21 → a ≠ 22 → gi h a = gi g a) ∧ (∀ j, j ≠ 28 → j ≠ 31 → j ≠ 32 → gi h 1 j = gi g 1 j) ∧ (∀ a, a ≠ 1 → gl h a = gl g a) ∧ (∀ d k, k < 10 → (k ≠ 3 ∧ k ≠ 4) ∨ d ∉ L → gi h 6 (10 * d + k) = gi g 6 (10 * d + k)) ∧ ∀ c, c < nc → gi h 21 c = gi g 6 (10 * c + 3) ∧ gi h 22 c = gi g 6 (10 * c + 4)
theorem LO.eqM {g h h' : Hp} {L : List Nat} {nc : Nat} (O : LO g L nc h) (e : EqM h h') : LO g L nc h' := by
  obtain ⟨o1, o2, o3, o4, o5⟩ := O
  refine ⟨fun a h1 h2 h3 h4 h5 => ?_, fun j h1 h2 h3 => ?_, fun a ha => ?_, fun d k hk hd => ?_, fun c hc => ?_⟩
  · rw [e.f h3 h1]; exact o1 a h1 h2 h3 h4 h5
  · rw [e.o h1]; exact o2 j h1 h2 h3
  · rw [e.2]; exact o3 a ha
  · rw [e.f (by decide) (by decide)]; exact o4 d k hk hd
  · rw [e.f (a := 21) (by decide) (by decide), e.f (a := 22) (by decide) (by decide)]; exact o5 c hc
theorem LO.lay {g h : Hp} {L : List Nat} {nc : Nat} (O : LO g L nc h) (v : Nat) : LO g L nc (layQ L L.length v h) := by
  obtain ⟨o1, o2, o3, o4, o5⟩ := O
  refine ⟨fun a h1 h2 h3 h4 h5 => ?_, fun j h1 h2 h3 => ?_, fun a ha => ?_, fun d k hk hd => ?_, fun c hc => ?_⟩
  · rw [layQ_o _ _ _ _ _ h2]; exact o1 a h1 h2 h3 h4 h5
  · rw [layQ_o _ _ _ _ _ (by decide)]; exact o2 j h1 h2 h3
  · rw [show gl (layQ L L.length v h) a = gl h a from layQ_l _ _ _ _ _]; exact o3 a ha
  · rcases hd with ⟨k3, k4⟩ | hd
    · rw [layQ_k _ _ _ _ _ _ hk k3 k4]; exact o4 d k hk (Or.inl ⟨k3, k4⟩)
    · rw [layQ_n _ _ _ _ _ _ (fun i hi e => hd (by rw [e]; exact getD_mem hi)) hk]; exact o4 d k hk (Or.inr hd)
  · rw [layQ_o _ _ _ _ 21 (by decide), layQ_o _ _ _ _ 22 (by decide)]; exact o5 c hc
theorem LO.eqG {g h : Hp} {L : List Nat} {nc : Nat} (O : LO g L nc h) (hn : L.Nodup) (v : Nat) : EqG (layQ L L.length v g) (layQ L L.length v h) := by
  obtain ⟨o1, o2, o3, o4, o5⟩ := O
  have f : ∀ a, a ≠ 1 → a ≠ 6 → a < 20 ∨ 22 < a → gi (layQ L L.length v h) a = gi (layQ L L.length v g) a := fun a h1 h2 h3 => by
    rw [layQ_o _ _ _ _ _ h2, layQ_o _ _ _ _ _ h2]; exact o1 a h1 h2 (by omega) (by omega) (by omega)
  refine ⟨fun a h1 h2 => f a (by omega) (by omega) (by omega), ?_, f 2 (by decide) (by decide) (by decide), f 3 (by decide) (by decide) (by decide), f 4 (by decide) (by decide) (by decide), fun d k hk => ?_⟩
  · rw [layQ_o _ _ _ _ _ (by decide), layQ_o _ _ _ _ _ (by decide)]; exact o2 1 (by decide) (by decide) (by decide)
  · by_cases hd : d ∈ L
    · obtain ⟨i, hi, e⟩ := mem_getD hd
      subst e
      rw [layQ_i L hn _ _ _ _ _ hi (Nat.le_refl _) hk, layQ_i L hn _ _ _ _ _ hi (Nat.le_refl _) hk]
      have r : ∀ j, j < 10 → j ≠ 3 → j ≠ 4 → rowS h (L.getD i 0) j = rowS g (L.getD i 0) j := fun j hj j3 j4 => o4 _ _ hj (Or.inl ⟨j3, j4⟩)
      unfold ansR
      rw [ansA_cg (r 1 (by decide) (by decide) (by decide)) (r 9 (by decide) (by decide) (by decide))]
      by_cases k3 : k = 3
      · rw [if_pos k3, if_pos k3]
      rw [if_neg k3, if_neg k3]
      by_cases k4 : k = 4
      · rw [if_pos k4, if_pos k4]
      rw [if_neg k4, if_neg k4, r k hk k3 k4]
    · have nd : ∀ i, i < L.length → d ≠ L.getD i 0 := fun i hi e => hd (by rw [e]; exact getD_mem hi)
      rw [layQ_n _ _ _ _ _ _ nd hk, layQ_n _ _ _ _ _ _ nd hk]; exact o4 d k hk (Or.inr hd)
theorem goM_lay {ns nc nl : Nat} {g : Hp} {L : List Nat} (G : GoM ns nc nl g) (hn : L.Nodup) (v : Nat) : GoM ns nc nl (layQ L L.length v g) := by
  have o := fun a (ha : a ≠ 6) => layQ_o L L.length v g a ha
  refine G.of (layQ_E _ _ _ _) (by rw [o 1 (by decide)]) (by rw [o 1 (by decide)]) (o 3 (by decide)) (o 4 (by decide)) (o 5 (by decide)) (fun c hc => ?_) (fun c => layQ_k L L.length v g c 0 (by decide) (by decide) (by decide))
  have ok := G.2.2.2.1 c hc
  by_cases hd : c ∈ L
  · obtain ⟨i, hi, e⟩ := mem_getD hd
    subst e
    exact (ansR_ok ok (dgR L.length v i)).congr (fun k hk => layQ_i L hn _ _ _ _ _ hi (Nat.le_refl _) hk)
  · exact ok.congr (fun k hk => layQ_n _ _ _ _ _ _ (fun i hi e => hd (by rw [e]; exact getD_mem hi)) hk)
theorem goM_eqG {ns nc nl : Nat} {g g' : Hp} (G : GoM ns nc nl g) (E : EqG g g') (e0 : gi g' 1 0 = gi g 1 0) (e5 : gi g' 5 = gi g 5) : GoM ns nc nl g' :=
  G.of E.1 E.2.1 e0 E.2.2.2.1 E.2.2.2.2.1 e5 (fun c hc => (G.2.2.2.1 c hc).congr (E.row c)) (fun c => E.x c)
theorem goM_lo {ns nc nl : Nat} {g h : Hp} {L : List Nat} (G : GoM ns nc nl g) (hn : L.Nodup) (O : LO g L nc h) (v : Nat) : GoM ns nc nl (layQ L L.length v h) := by
  refine goM_eqG (goM_lay G hn v) (O.eqG hn v) ?_ ?_
  · rw [layQ_o _ _ _ _ _ (by decide), layQ_o _ _ _ _ _ (by decide)]; exact O.2.1 0 (by decide) (by decide) (by decide)
  · rw [layQ_o _ _ _ _ _ (by decide), layQ_o _ _ _ _ _ (by decide)]; exact O.1 5 (by decide) (by decide) (by decide) (by decide) (by decide)
theorem M_answerSo {c w : Nat} (hc : c < 24) (hw : w < 5) (h : Hp) : m_X9_answerSo (nI c) (nI w) h = some ((), ansM h c w) := by
  have i3 : ∀ K : Option (Unit × Hp), ck (inb (nI (10 * c + 3)) 240) K = K := fun K => ck_true K (inb_nI (by omega) (by decide))
  have i4 : ∀ K : Option (Unit × Hp), ck (inb (nI (10 * c + 4)) 240) K = K := fun K => ck_true K (inb_nI (by omega) (by decide))
  have t3 := tenI c 3 (K := 3) rfl
  have t4 := tenI c 4 (K := 4) rfl
  have c3 : (nI (10 * c + 3)).toNatClampNeg = 10 * c + 3 := nI_clamp (by omega)
  have c4 : (nI (10 * c + 4)).toNatClampNeg = 10 * c + 4 := nI_clamp (by omega)
  have L29 : ∀ t0 : Int32, t0 = (if gi h 6 (10 * c + 1) ≤ gi h 6 (10 * c + 9) then gi h 6 (10 * c + 1) else gi h 6 (10 * c + 9)) → m_X9_answerSo_L29 (nI c) (nI w) (gi h 6 (10 * c + 1)) t0 h = some ((), ansM h c w) := by
    intro t0 ht
    unfold m_X9_answerSo_L29 m_X9_answerSo_L72 m_X9_answerSo_L93
    simp only [t3, t4, i3, i4, c3, c4, hb_eq]
    unfold ansM
    rcases (show w = 0 ∨ w = 1 ∨ w = 2 ∨ w = 3 ∨ w = 4 by omega) with rfl | rfl | rfl | rfl | rfl
    · rfl
    · rfl
    · rw [ht]; rfl
    · rfl
    · rfl
  unfold m_X9_answerSo
  rw [M_g1 hc, cb_some, M_g9 hc, cb_some]
  by_cases q : gi h 6 (10 * c + 1) ≤ gi h 6 (10 * c + 9)
  · rw [if_pos q]; exact L29 _ (by rw [if_pos q])
  · rw [if_neg q, M_g9 hc, cb_some]; exact L29 _ (by rw [if_neg q])
theorem M_at {nc k : Nat} {x : Int32} {h : Hp} {L : List Nat} (n24 : nc ≤ 24) (e1 : gi h 1 1 = nI nc) (hk : k < L.length) (hL : L.length ≤ 6) : ∀ n rem c i, c + rem = nc → rem < n → clF h x rem c = L.drop i → i ≤ k → m_X9_at_L5 n x (nI k) (nI i) (nI c) h = some (nI (L.getD k 0), h) := by
  intro n
  induction n with
  | zero => intro rem c i _ h2; omega
  | succ n ih =>
    intro rem c i h1 h2 he hi
    unfold m_X9_at_L5
    rw [e1]
    cases rem with
    | zero =>
      exfalso
      rw [dropc (show i < L.length by omega)] at he
      have he' : [] = L.getD i 0 :: L.drop (i + 1) := he
      cases he'
    | succ rem =>
      rw [if_neg (nI_ge (by omega) (by omega)), M_g0 (by omega), cb_some]
      simp only [Nat.add_zero]
      by_cases hq : gi h 6 (10 * c) = x
      · rw [clF_t hq, dropc (show i < L.length by omega)] at he
        obtain ⟨ec, et⟩ := List.cons.inj he
        rw [if_pos hq]
        by_cases hik : i = k
        · subst hik
          rw [if_pos rfl, ec]
        · rw [if_neg (show ¬ nI i = nI k from fun e => hik ((nI_eq (by omega) (by omega)).mp e)), vb_eq, vb_eq, nI_1, nI_1]
          exact ih rem (c + 1) (i + 1) (by omega) (by omega) et (by omega)
      · rw [clF_f hq] at he
        rw [if_neg hq, vb_eq, nI_1]
        exact ih rem (c + 1) i (by omega) (by omega) he hi
theorem M_layL {nc : Nat} {x : Int32} {L : List Nat} (n24 : nc ≤ 24) (hL : L.length ≤ 6) (h24 : ∀ d ∈ L, d < 24) : ∀ j n v h, j ≤ L.length → j < n → v < 2 ^ 30 → gi h 1 1 = nI nc → clF h x nc 0 = L → m_X9_layOut_L11 n x (nI v) (nI j - 1) h = some ((), layQ L j v h)
  | 0, n + 1, v, h, _, _, _, _, _ => by
    unfold m_X9_layOut_L11
    rw [if_pos (by decide)]
    rfl
  | j + 1, n + 1, v, h, hj, hn, hv, e1, eL => by
    have e : nI j + (-1) = nI j - 1 := by rw [Int32.sub_eq_add_neg]
    have hjL : j < L.length := by omega
    unfold m_X9_layOut_L11 m_X9_at
    rw [nI_pred, if_neg (nI_pos (by omega)), show (0 : Int32) = nI 0 from rfl, M_at n24 e1 hjL hL FU nc 0 0 (by omega) (by unfold FU; omega) (by rw [eL]; rfl) (Nat.zero_le _), cb_some, show (5 : Int32) = nI 5 from rfl, pk_rem (by omega) (by decide) (by decide), pk_div (by omega) (by decide) (by decide), M_answerSo (h24 _ (getD_mem hjL)) (Nat.mod_lt _ (by decide)), cb_some, vb_eq, vb_eq, e]
    exact M_layL n24 hL h24 j n (v / 5) _ (by omega) (by omega) (by omega) (by rw [ansM_o _ _ _ _ (by decide)]; exact e1) (by
      rw [← eL]
      exact clF_congr _ _ (fun d _ _ => by
        have := ansM_r h (L.getD j 0) (v % 5) d 0 (by decide)
        rw [Nat.add_zero] at this
        rw [eL, this]
        split
        · rename_i q; rw [q]; rfl
        · rfl))
theorem M_layOut {nc v : Nat} {x : Int32} {L : List Nat} {h : Hp} (n24 : nc ≤ 24) (hL : L.length ≤ 6) (h24 : ∀ d ∈ L, d < 24) (hv : v < 2 ^ 30) (e1 : gi h 1 1 = nI nc) (eL : clF h x nc 0 = L) : m_X9_manyOf x h = some (nI L.length, h) ∧ m_X9_layOut x (nI v) h = some ((), layQ L L.length v h) := by
  have m : m_X9_manyOf x h = some (nI L.length, h) := by
    have c := clF_len (g := h) (x := x) nc 0
    rw [eL, Nat.zero_add] at c
    have c0 : cntR (gi h 6) x 0 = 0 := rfl
    rw [show L.length = cntR (gi h 6) x nc by omega]
    unfold m_X9_manyOf
    exact M_many n24 e1 FU 0 (by omega) (by unfold FU; omega)
  refine ⟨m, ?_⟩
  unfold m_X9_layOut
  rw [m, cb_some, vb_eq]
  exact M_layL n24 hL h24 L.length FU v h (Nat.le_refl _) (by unfold FU; omega) hv e1 eL
theorem M_rows {x : Int32} {m : Nat} {h : Hp} (hm : m ≤ 4) (e : m_X9_manyOf x h = some (nI m, h)) : m_X9_rowsOf x h = some (nI (5 ^ m), h) := by
  unfold m_X9_rowsOf
  rw [e, cb_some]
  rcases (show m = 0 ∨ m = 1 ∨ m = 2 ∨ m = 3 ∨ m = 4 by omega) with rfl | rfl | rfl | rfl | rfl <;> rfl
theorem M_oaths {ns nc nl l s : Nat} {g : Hp} (G : GoM ns nc nl g) (hl : l < nl) : ∀ n rem c a z (h : Hp), c + rem = nc → rem < n → EqK z g h → ∃ h' z', m_X9_oathsOf_L12 n (nI s) (nI l) (nI a) (nI c) h = some (nI (sumN (oaF g l) a (clF g (nI s) rem c)), h') ∧ EqK z' g h' := by
  obtain ⟨e1, n24⟩ := G.1
  have n6 := G.2.2.2.2.2.1
  intro n
  induction n with
  | zero => intro rem c a z h _ h2; omega
  | succ n ih =>
    intro rem c a z h h1 h2 eq
    unfold m_X9_oathsOf_L12
    rw [eq.o (by decide), e1]
    cases rem with
    | zero =>
      rw [if_pos (nI_le (by omega) (by omega))]
      exact ⟨h, z, rfl, eq⟩
    | succ rem =>
      rw [if_neg (nI_ge (by omega) (by omega)), M_g0 (by omega), cb_some, eq.i _ (by decide) (by decide)]
      simp only [Nat.add_zero]
      by_cases hq : gi g 6 (10 * c) = nI s
      · rw [if_pos hq, clF_t hq]
        obtain ⟨k1, p1, w1⟩ := M_comes G (show c < nc by omega) hl eq
        rw [p1, cb_some]
        unfold m_X9_oathsOf_L85
        simp only [sumN]
        have main : (comesS g l c = 3 ∨ comesS g l c = 4) → ∃ h' z', m_X9_oathsOf_L57 (m_X9_oathsOf_L12 n) (nI s) (nI l) (nI c) (comesS g l c) (nI a) k1 = some (nI (sumN (oaF g l) (a + oaF g l c) (clF g (nI s) rem (c + 1))), h') ∧ EqK z' g h' := by
          intro h34
          obtain ⟨k2, p2, w2⟩ := M_oathBy G (show c < nc by omega) hl w1 h34
          obtain ⟨kk, ok, k8, -⟩ := ok_some G hl h34
          unfold m_X9_oathsOf_L57 m_X9_oathsOf_L85
          rw [p2, cb_some, ok, show oI l (some kk) = nI (8 * l + kk) from rfl, ck_true _ (inb_nI (by omega) (by decide)), nI_clamp (by omega), w2.i _ (by decide) (by decide)]
          obtain ⟨k3, p3, w3⟩ := M_who (kind := gi g 10 (8 * l + kk)) G (show c < nc by omega) hl w2
          rw [p3, cb_some]
          simp only [vb_eq, nI_1, Int32.add_zero]
          have ew : wS g l c = whoS g l (rowS g c) (qD g c) (qP g c) (gi g 10 (8 * l + kk)) := by unfold wS; rw [ok]; rfl
          have ih' := fun a => ih rem (c + 1) a _ k3 (by omega) (by omega) w3
          rw [← ew]
          by_cases w0 : wS g l c = 0
          · have o1 : oaF g l c = 1 := by unfold oaF; rw [if_pos ⟨h34, w0⟩]
            rw [if_pos w0, o1]; exact ih' (a + 1)
          · have o0 : oaF g l c = 0 := by unfold oaF; rw [if_neg (fun q => w0 q.2)]
            rw [if_neg w0, o0]; exact ih' a
        by_cases h3 : comesS g l c = 3
        · rw [if_pos h3]; exact main (Or.inl h3)
        rw [if_neg h3]
        by_cases h4 : comesS g l c = 4
        · rw [if_pos h4]; exact main (Or.inr h4)
        have o0 : oaF g l c = 0 := by unfold oaF; rw [if_neg (fun q => q.1.elim h3 h4)]
        rw [if_neg h4, vb_eq, vb_eq, nI_1, Int32.add_zero, o0]
        exact ih rem (c + 1) a _ k1 (by omega) (by omega) w1
      · rw [if_neg hq, clF_f hq, vb_eq, nI_1]
        exact ih rem (c + 1) _ _ h (by omega) (by omega) eq
theorem M_keep {nc : Nat} (n24 : nc ≤ 24) : ∀ n c (h : Hp), c ≤ nc → nc - c < n → gi h 1 1 = nI nc → ∃ h', m_X9_keepAnswers_L2 n (nI c) h = some ((), h') ∧ (∀ a, a ≠ 21 → a ≠ 22 → gi h' a = gi h a) ∧ (∀ a, gl h' a = gl h a) ∧ (∀ d, d < c → gi h' 21 d = gi h 21 d ∧ gi h' 22 d = gi h 22 d) ∧ ∀ d, c ≤ d → d < nc → gi h' 21 d = gi h 6 (10 * d + 3) ∧ gi h' 22 d = gi h 6 (10 * d + 4)
  | 0, c, h, _, h2, _ => by omega
  | n + 1, c, h, h1, h2, e1 => by
    unfold m_X9_keepAnswers_L2
    rw [e1]
    by_cases hc : c = nc
    · subst hc
      rw [if_pos (nI_le (Nat.le_refl _) (by omega))]
      exact ⟨h, rfl, fun _ _ _ => rfl, fun _ => rfl, fun _ _ => ⟨rfl, rfl⟩, fun d h1 h2 => by omega⟩
    · rw [if_neg (nI_ge (by omega) (by omega)), M_g3 (by omega), cb_some, ck_true _ (inb_nI (by omega) (by decide)), nI_clamp (by omega), hb_eq, M_g4 (by omega), cb_some, hb_eq, vb_eq, nI_1, gi_si_ne (show 6 ≠ 21 by decide)]
      obtain ⟨h', p, q1, q2, q3, q4⟩ := M_keep n24 n (c + 1) (si (si h 21 c (gi h 6 (10 * c + 3))) 22 c (gi h 6 (10 * c + 4))) (by omega) (by omega) (by rw [gi_si_ne (by decide), gi_si_ne (by decide)]; exact e1)
      refine ⟨h', p, fun a h1 h2 => by rw [q1 a h1 h2, gi_si_na h2, gi_si_na h1], fun a => q2 a, fun d hd => ?_, fun d hd1 hd2 => ?_⟩
      · obtain ⟨t1, t2⟩ := q3 d (by omega)
        rw [t1, t2, gi_si_ne (by decide), gi_si_nk (by omega), gi_si_nk (by omega), gi_si_ne (by decide)]
        exact ⟨rfl, rfl⟩
      · by_cases e : d = c
        · subst e
          obtain ⟨t1, t2⟩ := q3 d (by omega)
          rw [t1, t2, gi_si_ne (by decide), gi_si, gi_si]
          exact ⟨rfl, rfl⟩
        · obtain ⟨t1, t2⟩ := q4 d (by omega) hd2
          rw [t1, t2, gi_si_ne (by decide), gi_si_ne (by decide), gi_si_ne (by decide), gi_si_ne (by decide)]
          exact ⟨rfl, rfl⟩
theorem M_put {nc : Nat} (n24 : nc ≤ 24) : ∀ n c (h : Hp), c ≤ nc → nc - c < n → gi h 1 1 = nI nc → ∃ h', m_X9_putBack_L2 n (nI c) h = some ((), h') ∧ (∀ a, a ≠ 6 → gi h' a = gi h a) ∧ (∀ a, gl h' a = gl h a) ∧ (∀ d k, k < 10 → (k ≠ 3 ∧ k ≠ 4) ∨ d < c ∨ nc ≤ d → gi h' 6 (10 * d + k) = gi h 6 (10 * d + k)) ∧ ∀ d, c ≤ d → d < nc → gi h' 6 (10 * d + 3) = gi h 21 d ∧ gi h' 6 (10 * d + 4) = gi h 22 d
  | 0, c, h, _, h2, _ => by omega
  | n + 1, c, h, h1, h2, e1 => by
    unfold m_X9_putBack_L2
    rw [e1]
    by_cases hc : c = nc
    · subst hc
      rw [if_pos (nI_le (Nat.le_refl _) (by omega))]
      exact ⟨h, rfl, fun _ _ => rfl, fun _ => rfl, fun _ _ _ _ => rfl, fun d h1 h2 => by omega⟩
    · rw [if_neg (nI_ge (by omega) (by omega)), tenI c 3 (K := 3) rfl, tenI c 4 (K := 4) rfl, ck_true _ (inb_nI (by omega) (by decide)), ck_true _ (inb_nI (by omega) (by decide)), nI_clamp (show c < 2 ^ 31 by omega), nI_clamp (show 10 * c + 3 < 2 ^ 31 by omega), nI_clamp (show 10 * c + 4 < 2 ^ 31 by omega), hb_eq, ck_true _ (inb_nI (by omega) (by decide)), hb_eq, vb_eq, nI_1, gi_si_ne (show 22 ≠ 6 by decide)]
      obtain ⟨h', p, q1, q2, q3, q4⟩ := M_put n24 n (c + 1) (si (si h 6 (10 * c + 3) (gi h 21 c)) 6 (10 * c + 4) (gi h 22 c)) (by omega) (by omega) (by rw [gi_si_ne (by decide), gi_si_ne (by decide)]; exact e1)
      refine ⟨h', p, fun a ha => by rw [q1 a ha, gi_si_na ha, gi_si_na ha], fun a => q2 a, fun d k hk hd => ?_, fun d hd1 hd2 => ?_⟩
      · rw [q3 d k hk (by omega), gi_si_nk (by omega), gi_si_nk (by omega)]
      · by_cases e : d = c
        · subst e
          rw [q3 d 3 (by decide) (by omega), q3 d 4 (by decide) (by omega), gi_si, gi_si_nk (by omega), gi_si]
          exact ⟨rfl, rfl⟩
        · obtain ⟨t1, t2⟩ := q4 d (by omega) hd2
          rw [t1, t2, gi_si_ne (by decide), gi_si_ne (by decide), gi_si_ne (by decide), gi_si_ne (by decide)]
          exact ⟨rfl, rfl⟩
theorem M_putb {g h : Hp} {L : List Nat} {nc : Nat} (n24 : nc ≤ 24) (e1 : gi g 1 1 = nI nc) (hL : ∀ d ∈ L, d < nc) (O : LO g L nc h) : ∃ h', m_X9_putBack h = some ((), h') ∧ EqN g h' ∧ LO g L nc h' ∧ gi h' 1 = gi h 1 ∧ gl h' 1 = gl h 1 := by
  have O' := O
  obtain ⟨o1, o2, o3, o4, o5⟩ := O
  obtain ⟨h', p, q1, q2, q3, q4⟩ := M_put n24 FU 0 h (by omega) (by unfold FU; omega) (by rw [o2 1 (by decide) (by decide) (by decide)]; exact e1)
  have r6 : ∀ d k, k < 10 → gi h' 6 (10 * d + k) = gi g 6 (10 * d + k) := fun d k hk => by
    by_cases hd : d < nc
    · by_cases k3 : k = 3
      · subst k3; rw [(q4 d (Nat.zero_le _) hd).1]; exact (o5 d hd).1
      · by_cases k4 : k = 4
        · subst k4; rw [(q4 d (Nat.zero_le _) hd).2]; exact (o5 d hd).2
        · rw [q3 d k hk (Or.inl ⟨k3, k4⟩)]; exact o4 d k hk (Or.inl ⟨k3, k4⟩)
    · rw [q3 d k hk (Or.inr (Or.inr (by omega)))]; exact o4 d k hk (Or.inr (fun q => hd (hL d q)))
  have f6 : gi h' 6 = gi g 6 := funext fun j => by
    have := r6 (j / 10) (j % 10) (Nat.mod_lt _ (by decide))
    rwa [show 10 * (j / 10) + j % 10 = j by omega] at this
  refine ⟨h', p, ⟨fun a h1 h2 h3 h4 => ?_, fun j h1 h2 h3 => ?_, fun a ha => ?_⟩, ⟨fun a h1 h2 h3 h4 h5 => ?_, fun j h1 h2 h3 => ?_, fun a ha => ?_, fun d k hk _ => r6 d k hk, fun c hc => ?_⟩, q1 1 (by decide), q2 1⟩
  · by_cases a6 : a = 6
    · rw [a6]; exact f6
    · rw [q1 a a6]; exact o1 a h1 a6 h2 h3 h4
  · rw [q1 1 (by decide)]; exact o2 j h1 h2 h3
  · rw [q2 a]; exact o3 a ha
  · rw [q1 a h2]; exact o1 a h1 h2 h3 h4 h5
  · rw [q1 1 (by decide)]; exact o2 j h1 h2 h3
  · rw [q2 a]; exact o3 a ha
  · rw [q1 21 (by decide), q1 22 (by decide)]; exact o5 c hc
