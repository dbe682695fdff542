def tbB (f a : Nat) : Int32 := ([10, 11, 12, 10, 20, 12, 30, 20, 31, 40, 11, 12, 40, 51, 50, 10, 60, 12, 10, 11, 70] : List Int32).getD (f * 3 + a) 0
theorem C_bf0 (n f a : Nat) (hf : f < 7) (ha : a < 3) (h : Hp) : m_X1_bodyFrom_L4 (n + 8) (nI a) (nI f) 0 h = some (tbB f a, h) := by
  rcases cases7 f hf with rfl | rfl | rfl | rfl | rfl | rfl | rfl <;> rcases (show a = 0 ∨ a = 1 ∨ a = 2 by omega) with rfl | rfl | rfl <;> rfl
theorem C_bf1 {n f a : Nat} (hn : 8 ≤ n) (hf : f < 7) (ha : a < 3) (h : Hp) : m_X1_bodyFrom_L4 n (nI a) (nI f) 0 h = some (tbB f a, h) := by
  obtain ⟨m, rfl⟩ := Nat.exists_eq_add_of_le' hn
  exact C_bf0 m f a hf ha h
theorem C_bf (f a : Nat) (hf : f < 7) (ha : a < 3) (h : Hp) : m_X1_bodyFrom (nI f) (nI a) h = some (tbB f a, h) := by
  unfold m_X1_bodyFrom
  exact C_bf1 (FU_8 (by decide)) hf ha h
def RelA (hC hM : Hp) (nc ns r : Nat) (h h' : Hp) : Prop := (gi h 89 1 = nI nc ∧ gi h' 1 1 = nI nc ∧ gi h 89 2 = nI ns ∧ gi h' 1 0 = nI ns ∧ gi h 89 3 = nI r ∧ gi h' 1 37 = nI r ∧ ∀ i, i < 20 → gi h 90 i = gi h' 25 i) ∧ (∀ a, a ≠ 89 → a ≠ 90 → gi h a = gi hC a) ∧ (∀ a, gl h a = gl hC a ∧ gr h a = gr hC a) ∧ (∀ a, a ≠ 1 → a ≠ 25 → gi h' a = gi hM a) ∧ (∀ j, j ≠ 37 → gi h' 1 j = gi hM 1 j) ∧ ∀ a, gl h' a = gl hM a
def Pr (hC hM : Hp) (nc ns k : Nat) (F G : Hp → Option (Int32 × Hp)) : Prop := ∀ r h h', r + k ≤ 20 → RelA hC hM nc ns r h h' → ∃ v h1 h1' r', F h = some (v, h1) ∧ G h' = some (v, h1') ∧ r' ≤ r + k ∧ RelA hC hM nc ns r' h1 h1'
def bdC (h : Hp) (r : Nat) (b : Int32) : Hp := si (si h 90 r b) 89 3 (nI (r + 1))
def bdM (h : Hp) (r : Nat) (b : Int32) : Hp := si (si h 25 r b) 1 37 (nI (r + 1))
theorem RelA.bd {hC hM h h' : Hp} {nc ns r : Nat} (R : RelA hC hM nc ns r h h') (b : Int32) : RelA hC hM nc ns (r + 1) (bdC h r b) (bdM h' r b) := by
  obtain ⟨⟨e1, e2, e3, e4, e5, e6, e7⟩, f1, f2, f3, f4, f5⟩ := R
  refine ⟨⟨?_, ?_, ?_, ?_, ?_, ?_, fun i hi => ?_⟩, fun a h1 h2 => ?_, fun a => f2 a, fun a h1 h2 => ?_, fun j hj => ?_, fun a => f5 a⟩
  · simpa [bdC, gi_si_if] using e1
  · simpa [bdM, gi_si_if] using e2
  · simpa [bdC, gi_si_if] using e3
  · simpa [bdM, gi_si_if] using e4
  · simp [bdC, gi_si_if]
  · simp [bdM, gi_si_if]
  · simp only [bdC, bdM, gi_si_if]
    simp
    rw [e7 i hi]
  · simp only [bdC, gi_si_na h1, gi_si_na h2]; exact f1 a h1 h2
  · simp only [bdM, gi_si_na h1, gi_si_na h2]; exact f3 a h1 h2
  · simp only [bdM, gi_si_nk hj, gi_si_ne (show 1 ≠ 25 by decide)]; exact f4 j hj
theorem M_body {hC hM h h' : Hp} {nc ns r : Nat} (R : RelA hC hM nc ns r h h') (hr : r < 20) (b : Int32) : m_X9_body b h' = some ((), bdM h' r b) := by
  obtain ⟨⟨e1, e2, e3, e4, e5, e6, e7⟩, f1, f2, f3, f4, f5⟩ := R
  unfold m_X9_body m_X9_body_L19
  rw [e6, if_neg (show ¬ (20 : Int32) ≤ nI r from nI_ge (a := r) (b := 20) hr (by decide)), ck_true _ (inb_nI hr (by decide)), nI_clamp (by omega)]
  simp only [hb_eq, gi_si_ne (show 1 ≠ 25 by decide), e6, nI_1, bdM]
theorem C_perf {hC hM h h' : Hp} {nc ns r : Nat} (R : RelA hC hM nc ns r h h') (hr : r < 20) {n f a d : Nat} {self x : Int32} (hf : f < 7) (ha : a < 3) (hd : d ≤ 40) : m_X1_performN (n + 1) self (nI f) (nI a) x (nI d) h = m_X1_perform_L41 (m_X1_performN n) self x (nI d) (tbB f a) (si h 90 r (tbB f a)) := by
  obtain ⟨⟨e1, e2, e3, e4, e5, e6, e7⟩, f1, f2, f3, f4, f5⟩ := R
  have hb : ¬ tbB f a = 0 := by
    rcases cases7 f hf with rfl | rfl | rfl | rfl | rfl | rfl | rfl <;> rcases (show a = 0 ∨ a = 1 ∨ a = 2 by omega) with rfl | rfl | rfl <;> decide
  show m_X1_perform (m_X1_performN n) self (nI f) (nI a) x (nI d) h = _
  unfold m_X1_perform
  rw [C_bf f a hf ha, cb_some, if_neg hb, if_pos (show nI d ≤ 40 from nI_le (b := 40) hd (by decide)), e5, if_neg (show ¬ (20 : Int32) ≤ nI r from nI_ge (a := r) (b := 20) hr (by decide)), ck_true _ (inb_nI hr (by decide)), nI_clamp (by omega)]
  rfl
theorem bdC_eq {hC hM h h' : Hp} {nc ns r : Nat} (R : RelA hC hM nc ns r h h') (b : Int32) : si (si h 90 r b) 89 3 (gi (si h 90 r b) 89 3 + 1) = bdC h r b := by
  obtain ⟨⟨e1, e2, e3, e4, e5, e6, e7⟩, f1, f2, f3, f4, f5⟩ := R
  rw [gi_si_ne (by decide), e5, nI_1]; rfl
/-- swearing on the plain oath -/
theorem P_10 {hC hM : Hp} {nc ns n f d : Nat} {self x : Int32} (hf : f < 7) (hb : tbB f 0 = 10) (hd : d ≤ 40) : Pr hC hM nc ns 1 (m_X1_performN (n + 1) self (nI f) 0 x (nI d)) (m_X9_plainSwears x) := by
  intro r h h' hr R
  have R2 := R.bd 10
  refine ⟨x + nI nc, bdC h r 10, bdM h' r 10, r + 1, ?_, ?_, by omega, R2⟩
  · rw [show (0 : Int32) = nI 0 from rfl, C_perf R (by omega) hf (by decide) hd, hb]
    unfold m_X1_perform_L41
    rw [hb_eq, bdC_eq R, vb_eq, if_pos rfl, R2.1.1]
  · unfold m_X9_plainSwears
    rw [M_body R (by omega), cb_some, R2.1.2.1]
theorem P_40 {hC hM : Hp} {nc ns n f d : Nat} {self x : Int32} (hf : f < 7) (hb : tbB f 0 = 40) (hd : d ≤ 39) : Pr hC hM nc ns 2 (m_X1_performN (n + 2) self (nI f) 0 x (nI d)) (m_X9_guardSwears x) := by
  intro r h h' hr R
  obtain ⟨v, h1, h1', r', p, q, z, R3⟩ := P_10 (hC := hC) (hM := hM) (nc := nc) (ns := ns) (n := n) (self := self) (x := x) (f := 0) (by decide) rfl (show d + 1 ≤ 40 by omega) (r + 1) _ _ (by omega) (R.bd 40)
  refine ⟨-v, h1, h1', r', ?_, ?_, by omega, R3⟩
  · rw [show (0 : Int32) = nI 0 from rfl, C_perf R (by omega) hf (by decide) (by omega), hb]
    unfold m_X1_perform_L41
    rw [hb_eq, bdC_eq R, vb_eq, nI_1]
    simp only [show ¬ (40 : Int32) = 10 by decide, show ¬ (40 : Int32) = 11 by decide, show ¬ (40 : Int32) = 12 by decide, show ¬ (40 : Int32) = 20 by decide, show ¬ (40 : Int32) = 30 by decide, show ¬ (40 : Int32) = 31 by decide, if_false, if_pos]
    rw [show (0 : Int32) = nI 0 from rfl] at p ⊢
    rw [p]; rfl
  · unfold m_X9_guardSwears
    rw [M_body R (by omega), cb_some, q, cb_some]
theorem P_sw {hC hM : Hp} {nc ns n f d : Nat} {x : Int32} (hf : f < 7) (hd : d ≤ 39) : Pr hC hM nc ns 2 (m_X1_performN (n + 2) (nI f) (nI f) 0 x (nI d)) (m_X9_swearsAct (nI f) x) := by
  have w1 : ∀ F G, Pr hC hM nc ns 1 F G → Pr hC hM nc ns 2 F G := by
    intro F G P r h h' hr R
    obtain ⟨v, h1, h1', r', p, q, z, R3⟩ := P r h h' (by omega) R
    exact ⟨v, h1, h1', r', p, q, by omega, R3⟩
  have w2 : ∀ F G G' , (∀ h, G' h = cb (G h) fun v h => some (v, h)) → Pr hC hM nc ns 2 F G → Pr hC hM nc ns 2 F G' := by
    intro F G G' e P r h h' hr R
    obtain ⟨v, h1, h1', r', p, q, z, R3⟩ := P r h h' (by omega) R
    exact ⟨v, h1, h1', r', p, by rw [e, q]; rfl, by omega, R3⟩
  rcases cases7 f hf with rfl | rfl | rfl | rfl | rfl | rfl | rfl
  · exact w2 _ (m_X9_plainSwears x) _ (fun h => rfl) (w1 _ _ (P_10 (by decide) rfl (by omega)))
  · exact w2 _ (m_X9_plainSwears x) _ (fun h => rfl) (w1 _ _ (P_10 (by decide) rfl (by omega)))
  · intro r h h' hr R
    obtain ⟨v, h1, h1', r', p, q, z, R3⟩ := P_10 (hC := hC) (hM := hM) (nc := nc) (ns := ns) (n := n) (self := nI 2) (x := x * 3) (f := 1) (by decide) rfl (show d + 1 ≤ 40 by omega) (r + 1) _ _ (by omega) (R.bd 30)
    refine ⟨v, h1, h1', r', ?_, ?_, by omega, R3⟩
    · rw [show (0 : Int32) = nI 0 from rfl, C_perf R (by omega) hf (by decide) (by omega), show tbB 2 0 = 30 from rfl]
      unfold m_X1_perform_L41
      rw [hb_eq, bdC_eq R, vb_eq, nI_1]
      simp only [show ¬ (30 : Int32) = 10 by decide, show ¬ (30 : Int32) = 11 by decide, show ¬ (30 : Int32) = 12 by decide, show ¬ (30 : Int32) = 20 by decide, if_false, if_pos]
      rw [show (1 : Int32) = nI 1 from rfl, p]; rfl
    · unfold m_X9_swearsAct
      rw [if_pos (show nI 2 = 2 from rfl), M_body R (by omega), cb_some, q, cb_some]
  · exact w2 _ (m_X9_guardSwears x) _ (fun h => rfl) (P_40 (by decide) rfl (by omega))
  · exact w2 _ (m_X9_guardSwears x) _ (fun h => rfl) (P_40 (by decide) rfl (by omega))
  · exact w2 _ (m_X9_plainSwears x) _ (fun h => rfl) (w1 _ _ (P_10 (by decide) rfl (by omega)))
  · exact w2 _ (m_X9_plainSwears x) _ (fun h => rfl) (w1 _ _ (P_10 (by decide) rfl (by omega)))
theorem P_11 {hC hM : Hp} {nc ns n f g d : Nat} {x : Int32} (hf : f < 7) (hg : g < 7) (hb : tbB g 1 = 11) (hd : d ≤ 38) : Pr hC hM nc ns 3 (m_X1_performN (n + 3) (nI f) (nI g) 1 x (nI d)) (m_X9_plainFrees (nI f) x) := by
  intro r h h' hr R
  obtain ⟨v, h1, h1', r', p, q, z, R3⟩ := P_sw (hC := hC) (hM := hM) (nc := nc) (ns := ns) (n := n) (x := x) hf (show d + 1 ≤ 39 by omega) (r + 1) _ _ (by omega) (R.bd 11)
  refine ⟨v - nI ns, h1, h1', r', ?_, ?_, by omega, R3⟩
  · rw [show (1 : Int32) = nI 1 from rfl, C_perf R (by omega) hg (by decide) (by omega), hb]
    unfold m_X1_perform_L41
    rw [hb_eq, bdC_eq R, vb_eq, nI_1]
    simp only [show ¬ (11 : Int32) = 10 by decide, if_false, if_pos]
    rw [p, cb_some, R3.1.2.2.1]
  · unfold m_X9_plainFrees
    rw [M_body R (by omega), cb_some, q, cb_some, R3.1.2.2.2.1]
theorem Pr.le {hC hM : Hp} {nc ns k l : Nat} {F G : Hp → Option (Int32 × Hp)} (P : Pr hC hM nc ns k F G) (hkl : k ≤ l) : Pr hC hM nc ns l F G := by
  intro r h h' hr R
  obtain ⟨v, h1, h1', r', p, q, z, R3⟩ := P r h h' (by omega) R
  exact ⟨v, h1, h1', r', p, q, by omega, R3⟩
theorem Pr.ret {hC hM : Hp} {nc ns k : Nat} {F G G' : Hp → Option (Int32 × Hp)} (P : Pr hC hM nc ns k F G) (e : ∀ h, G' h = cb (G h) fun v h => some (v, h)) : Pr hC hM nc ns k F G' := by
  intro r h h' hr R
  obtain ⟨v, h1, h1', r', p, q, z, R3⟩ := P r h h' hr R
  exact ⟨v, h1, h1', r', p, by rw [e, q]; rfl, z, R3⟩
theorem P_20 {hC hM : Hp} {nc ns n f d : Nat} {x : Int32} {K : Hp → Option (Int32 × Hp)} (hf : f < 7) (hb : tbB f 1 = 20) (hd : d ≤ 37) (hK : ∀ h, K h = cb (m_X9_body 20 h) fun _ h3 => cb (m_X9_plainFrees (nI f) x h3) fun v4 h5 => some (v4 ^^^ 6, h5)) : Pr hC hM nc ns 4 (m_X1_performN (n + 4) (nI f) (nI f) 1 x (nI d)) K := by
  intro r h h' hr R
  obtain ⟨v, h1, h1', r', p, q, z, R3⟩ := P_11 (hC := hC) (hM := hM) (nc := nc) (ns := ns) (n := n) (x := x) (g := 0) hf (by decide) rfl (show d + 1 ≤ 38 by omega) (r + 1) _ _ (by omega) (R.bd 20)
  refine ⟨v ^^^ 6, h1, h1', r', ?_, ?_, by omega, R3⟩
  · rw [show (1 : Int32) = nI 1 from rfl, C_perf R (by omega) hf (by decide) (by omega), hb]
    unfold m_X1_perform_L41
    rw [hb_eq, bdC_eq R, vb_eq, nI_1]
    simp only [show ¬ (20 : Int32) = 10 by decide, show ¬ (20 : Int32) = 11 by decide, show ¬ (20 : Int32) = 12 by decide, if_false, if_pos]
    rw [show (0 : Int32) = nI 0 from rfl, p, cb_some]
  · rw [hK, M_body R (by omega), cb_some, q, cb_some]
theorem P_fr {hC hM : Hp} {nc ns n f d : Nat} {x : Int32} (hf : f < 7) (hd : d ≤ 37) : Pr hC hM nc ns 6 (m_X1_performN (n + 4) (nI f) (nI f) 1 x (nI d)) (m_X9_freesAct (nI f) x) := by
  rcases cases7 f hf with rfl | rfl | rfl | rfl | rfl | rfl | rfl
  · exact ((P_11 (n := n + 1) hf hf rfl (by omega)).le (by decide)).ret (fun h => rfl)
  · exact (P_20 hf rfl hd (fun h => rfl)).le (by decide)
  · exact (P_20 hf rfl hd (fun h => rfl)).le (by decide)
  · exact ((P_11 (n := n + 1) hf hf rfl (by omega)).le (by decide)).ret (fun h => rfl)
  · intro r h h' hr R
    obtain ⟨v, h1, h1', r', p, q, z, R3⟩ := P_11 (hC := hC) (hM := hM) (nc := nc) (ns := ns) (n := n) (x := x) (g := 3) hf (by decide) rfl (show d + 1 ≤ 38 by omega) (r + 1) _ _ (by omega) (R.bd 51)
    obtain ⟨v2, h2, h2', r2, p2, q2, z2, R4⟩ := P_40 (hC := hC) (hM := hM) (nc := nc) (ns := ns) (n := n + 1) (self := nI 4) (x := 2) (f := 3) (by decide) rfl (show d + 1 ≤ 39 by omega) r' _ _ (by omega) R3
    refine ⟨v + v2, h2, h2', r2, ?_, ?_, by omega, R4⟩
    · rw [show (1 : Int32) = nI 1 from rfl, C_perf R (by omega) hf (by decide) (by omega), show tbB 4 1 = 51 from rfl]
      unfold m_X1_perform_L41
      rw [hb_eq, bdC_eq R, vb_eq, nI_1]
      simp only [show ¬ (51 : Int32) = 10 by decide, show ¬ (51 : Int32) = 11 by decide, show ¬ (51 : Int32) = 12 by decide, show ¬ (51 : Int32) = 20 by decide, show ¬ (51 : Int32) = 30 by decide, show ¬ (51 : Int32) = 31 by decide, show ¬ (51 : Int32) = 40 by decide, show ¬ (51 : Int32) = 50 by decide, if_false, if_pos]
      rw [show (3 : Int32) = nI 3 from rfl, p, cb_some, p2, cb_some]
    · unfold m_X9_freesAct
      rw [if_neg (show ¬ nI 4 = 1 by decide), if_neg (show ¬ nI 4 = 2 by decide), if_neg (show ¬ nI 4 = 3 by decide), if_pos (show nI 4 = 4 from rfl)]
      rw [M_body R (by omega), cb_some, q, cb_some, q2, cb_some]
  · intro r h h' hr R
    obtain ⟨v, h1, h1', r', p, q, z, R3⟩ := P_11 (hC := hC) (hM := hM) (nc := nc) (ns := ns) (n := n) (x := x + nI ns) (g := 0) hf (by decide) rfl (show d + 1 ≤ 38 by omega) (r + 1) _ _ (by omega) (R.bd 60)
    refine ⟨v, h1, h1', r', ?_, ?_, by omega, R3⟩
    · rw [show (1 : Int32) = nI 1 from rfl, C_perf R (by omega) hf (by decide) (by omega), show tbB 5 1 = 60 from rfl]
      unfold m_X1_perform_L41
      rw [hb_eq, bdC_eq R, vb_eq, nI_1]
      simp only [show ¬ (60 : Int32) = 10 by decide, show ¬ (60 : Int32) = 11 by decide, show ¬ (60 : Int32) = 12 by decide, show ¬ (60 : Int32) = 20 by decide, show ¬ (60 : Int32) = 30 by decide, show ¬ (60 : Int32) = 31 by decide, show ¬ (60 : Int32) = 40 by decide, show ¬ (60 : Int32) = 50 by decide, show ¬ (60 : Int32) = 51 by decide, if_false, if_pos]
      rw [show (0 : Int32) = nI 0 from rfl, (R.bd 60).1.2.2.1, p, cb_some]
    · unfold m_X9_freesAct
      rw [if_neg (show ¬ nI 5 = 1 by decide), if_neg (show ¬ nI 5 = 2 by decide), if_neg (show ¬ nI 5 = 3 by decide), if_neg (show ¬ nI 5 = 4 by decide), if_pos (show nI 5 = 5 from rfl)]
      rw [M_body R (by omega), cb_some, (R.bd 60).1.2.2.2.1, q, cb_some]
  · exact ((P_11 (n := n + 1) hf hf rfl (by omega)).le (by decide)).ret (fun h => rfl)
theorem P_12 {hC hM : Hp} {nc ns n f g d : Nat} {x : Int32} (hf : f < 7) (hg : g < 7) (hb : tbB g 2 = 12) (hd : d ≤ 36) : Pr hC hM nc ns 7 (m_X1_performN (n + 5) (nI f) (nI g) 2 x (nI d)) (m_X9_plainTakes (nI f) x) := by
  intro r h h' hr R
  obtain ⟨v, h1, h1', r', p, q, z, R3⟩ := P_fr (hC := hC) (hM := hM) (nc := nc) (ns := ns) (n := n) (x := x) hf (show d + 1 ≤ 37 by omega) (r + 1) _ _ (by omega) (R.bd 12)
  refine ⟨v * 2, h1, h1', r', ?_, ?_, by omega, R3⟩
  · rw [show (2 : Int32) = nI 2 from rfl, C_perf R (by omega) hg (by decide) (by omega), hb]
    unfold m_X1_perform_L41
    rw [hb_eq, bdC_eq R, vb_eq, nI_1]
    simp only [show ¬ (12 : Int32) = 10 by decide, show ¬ (12 : Int32) = 11 by decide, if_false, if_pos]
    rw [p, cb_some]; rfl
  · unfold m_X9_plainTakes
    rw [M_body R (by omega), cb_some, q, cb_some]
theorem P_tk {hC hM : Hp} {nc ns n f d : Nat} {x : Int32} (hf : f < 7) (hd : d ≤ 35) : Pr hC hM nc ns 14 (m_X1_performN (n + 6) (nI f) (nI f) 2 x (nI d)) (m_X9_takesAct (nI f) x) := by
  rcases cases7 f hf with rfl | rfl | rfl | rfl | rfl | rfl | rfl
  · exact ((P_12 (n := n + 1) hf hf rfl (by omega)).le (by decide)).ret (fun h => rfl)
  · exact ((P_12 (n := n + 1) hf hf rfl (by omega)).le (by decide)).ret (fun h => rfl)
  · intro r h h' hr R
    obtain ⟨v, h1, h1', r', p, q, z, R3⟩ := P_12 (hC := hC) (hM := hM) (nc := nc) (ns := ns) (n := n) (x := x) (g := 1) hf (by decide) rfl (show d + 1 ≤ 36 by omega) (r + 1) _ _ (by omega) (R.bd 31)
    obtain ⟨v2, h2, h2', r2, p2, q2, z2, R4⟩ := P_fr (hC := hC) (hM := hM) (nc := nc) (ns := ns) (n := n + 1) (x := 1) hf (show d + 1 ≤ 37 by omega) r' _ _ (by omega) R3
    refine ⟨v + v2, h2, h2', r2, ?_, ?_, by omega, R4⟩
    · rw [show (2 : Int32) = nI 2 from rfl, C_perf R (by omega) hf (by decide) (by omega), show tbB 2 2 = 31 from rfl]
      unfold m_X1_perform_L41
      rw [hb_eq, bdC_eq R, vb_eq, nI_1]
      simp only [show ¬ (31 : Int32) = 10 by decide, show ¬ (31 : Int32) = 11 by decide, show ¬ (31 : Int32) = 12 by decide, show ¬ (31 : Int32) = 20 by decide, show ¬ (31 : Int32) = 30 by decide, if_false, if_pos]
      rw [show m_X1_performN (n + 5) (nI 2) 1 2 x (nI (d + 1)) (bdC h r 31) = some (v, h1) from p, cb_some, p2, cb_some]
    · unfold m_X9_takesAct
      rw [if_pos (show nI 2 = 2 from rfl), M_body R (by omega), cb_some, q, cb_some, q2, cb_some]
  · exact ((P_12 (n := n + 1) hf hf rfl (by omega)).le (by decide)).ret (fun h => rfl)
  · intro r h h' hr R
    obtain ⟨v, h1, h1', r', p, q, z, R3⟩ := P_12 (hC := hC) (hM := hM) (nc := nc) (ns := ns) (n := n) (x := x - nI nc) (g := 3) hf (by decide) rfl (show d + 1 ≤ 36 by omega) (r + 1) _ _ (by omega) (R.bd 50)
    refine ⟨v, h1, h1', r', ?_, ?_, by omega, R3⟩
    · rw [show (2 : Int32) = nI 2 from rfl, C_perf R (by omega) hf (by decide) (by omega), show tbB 4 2 = 50 from rfl]
      unfold m_X1_perform_L41
      rw [hb_eq, bdC_eq R, vb_eq, nI_1]
      simp only [show ¬ (50 : Int32) = 10 by decide, show ¬ (50 : Int32) = 11 by decide, show ¬ (50 : Int32) = 12 by decide, show ¬ (50 : Int32) = 20 by decide, show ¬ (50 : Int32) = 30 by decide, show ¬ (50 : Int32) = 31 by decide, show ¬ (50 : Int32) = 40 by decide, if_false, if_pos]
      rw [(R.bd 50).1.1, show (3 : Int32) = nI 3 from rfl, p, cb_some]
    · unfold m_X9_takesAct
      rw [if_neg (show ¬ nI 4 = 2 by decide), if_neg (show ¬ nI 4 = 3 by decide), if_pos (show nI 4 = 4 from rfl)]
      rw [M_body R (by omega), cb_some, (R.bd 50).1.2.1, q, cb_some]
  · exact ((P_12 (n := n + 1) hf hf rfl (by omega)).le (by decide)).ret (fun h => rfl)
  · intro r h h' hr R
    obtain ⟨v, h1, h1', r', p, q, z, R3⟩ := P_sw (hC := hC) (hM := hM) (nc := nc) (ns := ns) (n := n + 3) (x := x) hf (show d + 1 ≤ 39 by omega) (r + 1) _ _ (by omega) (R.bd 70)
    obtain ⟨v2, h2, h2', r2, p2, q2, z2, R4⟩ := P_12 (hC := hC) (hM := hM) (nc := nc) (ns := ns) (n := n) (x := x) (g := 0) hf (by decide) rfl (show d + 1 ≤ 36 by omega) r' _ _ (by omega) R3
    refine ⟨v - v2, h2, h2', r2, ?_, ?_, by omega, R4⟩
    · rw [show (2 : Int32) = nI 2 from rfl, C_perf R (by omega) hf (by decide) (by omega), show tbB 6 2 = 70 from rfl]
      unfold m_X1_perform_L41
      rw [hb_eq, bdC_eq R, vb_eq, nI_1]
      simp only [show ¬ (70 : Int32) = 10 by decide, show ¬ (70 : Int32) = 11 by decide, show ¬ (70 : Int32) = 12 by decide, show ¬ (70 : Int32) = 20 by decide, show ¬ (70 : Int32) = 30 by decide, show ¬ (70 : Int32) = 31 by decide, show ¬ (70 : Int32) = 40 by decide, show ¬ (70 : Int32) = 50 by decide, show ¬ (70 : Int32) = 51 by decide, show ¬ (70 : Int32) = 60 by decide, if_false, if_pos]
      rw [p, cb_some, show m_X1_performN (n + 5) (nI 6) 0 2 x (nI (d + 1)) h1 = some (v2, h2) from p2, cb_some]
    · unfold m_X9_takesAct
      rw [if_neg (show ¬ nI 6 = 2 by decide), if_neg (show ¬ nI 6 = 3 by decide), if_neg (show ¬ nI 6 = 4 by decide), if_neg (show ¬ nI 6 = 5 by decide), if_pos (show nI 6 = 6 from rfl)]
      rw [M_body R (by omega), cb_some, q, cb_some, q2, cb_some]
theorem b_act (a1 a2 a3 : Int32) : Both (m_X8_act a1 a2 a3) (m_X9_act a1 a2 a3) := by
  rintro hC hM ⟨ns, nc, nl, nf, I0⟩
  obtain ⟨i1, i2, i3, i4, i5, i6, i7, ⟨i8, i8b⟩, i9, i10⟩ := I0
  have n5 := i1.1.2.2
  have n24 := i1.2.1.2.2
  have n6 := i1.2.2.1.2.2
  have R0 : RelA hC hM nc ns 0 (si (si (si hC 89 1 (nI nc)) 89 2 (nI ns)) 89 3 0) (si hM 1 37 0) := by
    refine ⟨⟨by simp [gi_si_if], by simp [gi_si_if]; exact i1.2.1.2.1, by simp [gi_si_if], by simp [gi_si_if]; exact i1.1.2.1, by simp [gi_si_if]; rfl, by simp [gi_si_if]; rfl, fun i hi => ?_⟩, fun a h1 h2 => ?_, fun a => ⟨rfl, rfl⟩, fun a h1 h2 => ?_, fun j hj => ?_, fun a => rfl⟩
    · simpa [gi_si_if] using i8b i hi
    · simp only [gi_si_na h1]
    · simp only [gi_si_na h1]
    · simp only [gi_si_nk hj]
  have fin : ∀ r h h', RelA hC hM nc ns r h h' → InvE h h' := by
    intro r h h' R
    obtain ⟨⟨e1, e2, e3, e4, e5, e6, e7⟩, f1, f2, f3, f4, f5⟩ := R
    refine ⟨ns, nc, nl, nf, i1.fr ?_ ?_ ?_ ?_ ?_ ?_ ?_ ?_, i2.fr ?_ ?_, i3.fr ?_ ?_ ?_ ?_, i4.fr ?_ ?_, i5.fr ?_ ?_ ?_ ?_ ?_ ?_ ?_, i6.fr ?_ ?_, fun l hl => (i7 l hl).fr ?_ ?_ ?_, ⟨e5.trans e6.symm, e7⟩, i9.fr ?_ ?_ ?_ ?_ ?_, i10.fr ?_ ?_⟩
    all_goals first | exact (f2 _).1 | exact (f2 _).2 | exact f5 _ | (intros; exact f1 _ (by omega) (by omega)) | (intros; exact f3 _ (by omega) (by omega)) | (intros; exact (f2 _).1) | exact f4 _ (by omega) | exact congrFun (f1 _ (by decide) (by decide)) _
  have go : ∀ k F G, k ≤ 20 → Pr hC hM nc ns k F G → Ok (F (si (si (si hC 89 1 (nI nc)) 89 2 (nI ns)) 89 3 0)) fun v hC' => Ok (G (si hM 1 37 0)) fun w hM' => v = w ∧ InvE hC' hM' := by
    intro k F G hk P
    obtain ⟨v, h1, h1', r', p, q, z, R3⟩ := P 0 _ _ (by omega) R0
    exact ⟨v, h1, p, v, h1', q, rfl, fin _ _ _ R3⟩
  unfold m_X8_act m_X9_act m_X1_begin m_X1_does
  rw [i1.2.1.1, i1.1.1]
  simp only [cb_some, hb_eq]
  rcases isKind_both (si (si (si hC 89 1 (nI nc)) 89 2 (nI ns)) 89 3 0) (si hM 1 37 0) a1 with ⟨p1, p2⟩ | ⟨f, hf, rfl, p1, p2⟩
  · simp only [p1, p2, cb_some, if00]; exact Inv.ok rfl (fin _ _ _ R0)
  simp only [p1, p2, cb_some, if10]
  rcases ix_cases a2 3 (by decide) (N := 3) (M := 2) rfl rfl with q | ⟨q0, q1, q2, q3, q4⟩ | ⟨a, ha, rfl, q0, q1, q2, q3, q4⟩
  · simp only [m_X9_in, q, if_pos, cb_some]; exact Inv.ok rfl (fin _ _ _ R0)
  · simp only [m_X9_in, q0, q2, q3, if_pos, if_false, cb_some]; exact Inv.ok rfl (fin _ _ _ R0)
  simp only [show m_X9_in (nI a) 0 2 (si hM 1 37 0) = some (1, si hM 1 37 0) by simp only [m_X9_in, q0, q2, if_false], q0, q3, if_pos, if_false, cb_some, if10]
  rcases (show a = 0 ∨ a = 1 ∨ a = 2 by omega) with rfl | rfl | rfl
  · exact go 2 (fun h => cb (cb (m_X1_performN 60 (nI f) (nI f) (nI 0) a3 0 h) fun v1 h2 => some (v1, h2)) fun v8 h9 => some (v8, h9)) (fun h => cb (m_X9_swearsAct (nI f) a3 h) fun v14 h15 => some (v14, h15)) (by decide) (fun r h h' hr R => by
      obtain ⟨v, h1, h1', r', p, q, z, R3⟩ := P_sw (n := 58) (x := a3) hf (show 0 ≤ 39 by decide) r h h' hr R
      refine ⟨v, h1, h1', r', ?_, ?_, z, R3⟩
      · show cb (cb (m_X1_performN 60 (nI f) (nI f) 0 a3 (nI 0) h) _) _ = _
        rw [p]; rfl
      · show cb (m_X9_swearsAct (nI f) a3 h') _ = _
        rw [q]; rfl)
  · exact go 6 (fun h => cb (cb (m_X1_performN 60 (nI f) (nI f) (nI 1) a3 0 h) fun v1 h2 => some (v1, h2)) fun v8 h9 => some (v8, h9)) (fun h => cb (m_X9_freesAct (nI f) a3 h) fun v14 h15 => some (v14, h15)) (by decide) (fun r h h' hr R => by
      obtain ⟨v, h1, h1', r', p, q, z, R3⟩ := P_fr (n := 56) (x := a3) hf (show 0 ≤ 37 by decide) r h h' hr R
      refine ⟨v, h1, h1', r', ?_, ?_, z, R3⟩
      · show cb (cb (m_X1_performN 60 (nI f) (nI f) 1 a3 (nI 0) h) _) _ = _
        rw [p]; rfl
      · show cb (m_X9_freesAct (nI f) a3 h') _ = _
        rw [q]; rfl)
  · exact go 14 (fun h => cb (cb (m_X1_performN 60 (nI f) (nI f) (nI 2) a3 0 h) fun v1 h2 => some (v1, h2)) fun v8 h9 => some (v8, h9)) (fun h => cb (m_X9_takesAct (nI f) a3 h) fun v14 h15 => some (v14, h15)) (by decide) (fun r h h' hr R => by
      obtain ⟨v, h1, h1', r', p, q, z, R3⟩ := P_tk (n := 54) (x := a3) hf (show 0 ≤ 35 by decide) r h h' hr R
      refine ⟨v, h1, h1', r', ?_, ?_, z, R3⟩
      · show cb (cb (m_X1_performN 60 (nI f) (nI f) 2 a3 (nI 0) h) _) _ = _
        rw [p]; rfl
      · show cb (m_X9_takesAct (nI f) a3 h') _ = _
        rw [q]; rfl)
