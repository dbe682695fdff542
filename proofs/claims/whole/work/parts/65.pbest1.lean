/-! ===== pure: best, on the class's side ===== -/
def HB (B l : Nat) (qd qp : Int32) (g : Hp) (L : List Nat) (h : Hp) : Prop := (B = 11 ∨ B = 50) ∧ l < 6 ∧ LawI h g l ∧ gr h B 6 = 144 + 6 * l ∧ gi h B 7 = qp ∧ gi h B 8 = qd ∧ gi h B 10 = nI L.length ∧ ∀ k, k < L.length → gi h (B + 5) k = nI (L.getD k 0)
def AnsI (B l : Nat) (qd qp : Int32) (g : Hp) (L : List Nat) (m : Nat) (h : Hp) : Prop := ∀ k, k < m → ∀ w, w < 5 → StW h (B + 19 + (5 * k + w)) g l (ansR (rowS g (L.getD k 0)) w) qd qp
theorem C_answerAs {a w : Nat} {r : Nat → Int32} (hw : w < 5) (h : Hp) (hr : ∀ k, k < 10 → k ≠ 3 → k ≠ 4 → gi h a k = r k) : ∃ h', m_X0_answerAs a (nI w) h = some ((), h') ∧ FrI a h h' ∧ ∀ k, k < 10 → gi h' a k = ansR r w k := by
  have r1 := hr 1 (by decide) (by decide) (by decide)
  have r9 := hr 9 (by decide) (by decide) (by decide)
  have key : ∀ t0 : Int32, t0 = (if w = 4 then 0 else 1) → ∃ h', m_X0_answerAs_L11 a (nI w) t0 a h = some ((), h') ∧ FrI a h h' ∧ ∀ k, k < 10 → gi h' a k = ansR r w k := by
    intro t0 ht
    have fin : ∀ v, v = ansA r w → ∃ h', some ((), si (si h a 4 t0) a 3 v) = some ((), h') ∧ FrI a h h' ∧ ∀ k, k < 10 → gi h' a k = ansR r w k := by
      rintro v rfl
      refine ⟨_, rfl, (frI_one a 4 _ h).trans (frI_one a 3 _ _), fun k hk => ?_⟩
      unfold ansR
      by_cases k3 : k = 3
      · subst k3; rw [gi_si, if_pos rfl]
      rw [gi_si_nk k3, if_neg k3]
      by_cases k4 : k = 4
      · subst k4; rw [gi_si, if_pos rfl, ht]
      rw [gi_si_nk k4, if_neg k4]; exact hr k hk k3 k4
    unfold m_X0_answerAs_L11
    simp only [hb_eq, gi_si_nk (show 1 ≠ 4 by decide), gi_si_nk (show 9 ≠ 4 by decide), r1, r9]
    have mn : (if r 1 < r 9 then r 1 else r 9) = (if r 1 ≤ r 9 then r 1 else r 9) := by
      by_cases q : r 1 < r 9
      · rw [if_pos q, if_pos (by rw [Int32.lt_iff_toInt_lt] at q; rw [Int32.le_iff_toInt_le]; omega)]
      · rw [if_neg q]
        by_cases q2 : r 1 ≤ r 9
        · rw [if_pos q2]
          apply i_ext
          rw [Int32.lt_iff_toInt_lt] at q; rw [Int32.le_iff_toInt_le] at q2; omega
        · rw [if_neg q2]
    rw [mn]
    rcases (show w = 0 ∨ w = 1 ∨ w = 2 ∨ w = 3 ∨ w = 4 by omega) with rfl | rfl | rfl | rfl | rfl
    · exact fin _ rfl
    · exact fin _ rfl
    · exact fin _ rfl
    · exact fin _ rfl
    · exact fin _ rfl
  unfold m_X0_answerAs
  by_cases h4 : w = 4
  · subst h4; rw [if_pos (show nI 4 = 4 from rfl)]; exact key 0 rfl
  · rw [if_neg (show ¬ nI w = 4 from fun e => h4 ((nI_eq (b := 4) (by omega) (by decide)).mp e))]; exact key 1 (by rw [if_neg h4])
theorem HB.fr {B l : Nat} {qd qp : Int32} {g : Hp} {L : List Nat} {h h' : Hp} (H : HB B l qd qp g L h) (F : FrB B h h') (c1 : gr h' B 6 = gr h B 6) (c2 : ∀ j, j = 7 ∨ j = 8 ∨ j = 10 → gi h' B j = gi h B j) (c3 : gi h' (B + 5) = gi h (B + 5)) : HB B l qd qp g L h' := by
  obtain ⟨a1, a2, a3, a4, a5, a6, a7, a8⟩ := H
  exact ⟨a1, a2, a3.frB F a1, by rw [c1]; exact a4, by rw [c2 7 (by omega)]; exact a5, by rw [c2 8 (by omega)]; exact a6, by rw [c2 10 (by omega)]; exact a7, fun k hk => by rw [c3]; exact a8 k hk⟩
/-- a weighing of answers writes on the claim instead and on the answered ones alone -/
def FrA (B : Nat) (h h' : Hp) : Prop := (∀ a, gl h' a = gl h a) ∧ (∀ a, gr h' a = gr h a) ∧ ∀ a, a ≠ B + 6 → (a < B + 19 ∨ B + 38 < a) → gi h' a = gi h a
theorem FrA.trans {B : Nat} {h h' h'' : Hp} (p : FrA B h h') (q : FrA B h' h'') : FrA B h h'' := ⟨fun a => (q.1 a).trans (p.1 a), fun a => (q.2.1 a).trans (p.2.1 a), fun a h1 h2 => (q.2.2 a h1 h2).trans (p.2.2 a h1 h2)⟩
theorem FrA.b {B : Nat} {h h' : Hp} (p : FrA B h h') : FrB B h h' := fun a ha => ⟨p.2.2 a (by omega) (by omega), p.1 a, p.2.1 a⟩
theorem FrA.ofI {B a : Nat} {h h' : Hp} (p : FrI a h h') (ha : a = B + 6 ∨ (B + 19 ≤ a ∧ a ≤ B + 38)) : FrA B h h' := ⟨p.1, p.2.1, fun b h1 h2 => p.2.2 b (by omega)⟩
theorem HB.frA {B l : Nat} {qd qp : Int32} {g : Hp} {L : List Nat} {h h' : Hp} (H : HB B l qd qp g L h) (F : FrA B h h') : HB B l qd qp g L h' :=
  H.fr F.b (by rw [F.2.1]) (fun j _ => by rw [F.2.2 B (by omega) (by omega)]) (F.2.2 _ (by omega) (by omega))
theorem C_weighIn {B l m k : Nat} {qd qp : Int32} {g : Hp} {L : List Nat} (k2 : Nat → Int32 → Hp → Option (Unit × Hp)) (hk : k < 4) (hm : k < m) : ∀ n w h, w ≤ 5 → 5 - w < n → HB B l qd qp g L h → (∀ i, i < 10 → i ≠ 3 → i ≠ 4 → gi h (B + 6) i = rowS g (L.getD k 0) i) → AnsI B l qd qp g L k h → (∀ v, v < w → StW h (B + 19 + (5 * k + v)) g l (ansR (rowS g (L.getD k 0)) v) qd qp) → ∃ h', m_X2_weighAnswers_L30 k2 n B (nI k) (nI w) h = k2 B (nI (k + 1)) h' ∧ FrA B h h' ∧ AnsI B l qd qp g L (k + 1) h' := by
  intro n
  induction n with
  | zero => intro w h _ h2; omega
  | succ n ih =>
    intro w h h1 h2 H hr A S
    unfold m_X2_weighAnswers_L30
    by_cases hw : w = 5
    · subst hw
      rw [if_pos (show (5 : Int32) ≤ nI 5 by decide), vb_eq, nI_1]
      refine ⟨h, rfl, ⟨fun _ => rfl, fun _ => rfl, fun _ _ _ => rfl⟩, fun i hi w hw => ?_⟩
      by_cases e : i = k
      · subst e; exact S w hw
      · exact A i (by omega) w hw
    · rw [if_neg (show ¬ (5 : Int32) ≤ nI w from nI_ge (a := w) (b := 5) (by omega) (by decide))]
      obtain ⟨k1, p1, f1, r1⟩ := C_answerAs (a := B + 6) (w := w) (by omega) h hr
      have F1 := FrA.ofI (B := B) f1 (Or.inl rfl)
      have H1 := H.frA F1
      have W : WC B l (B + 6) (ansR (rowS g (L.getD k 0)) w) qd qp g k1 := ⟨H1.2.1, H1.2.2.1, H1.2.2.2.1, H1.2.2.2.2.1, H1.2.2.2.2.2.1, r1⟩
      have hB := H.1
      obtain ⟨k4, p4, f4, s4, -⟩ := C_weigh (a2 := B + 19 + (5 * k + w)) W (by omega) (by omega) (by omega)
      have F4 := FrA.ofI (B := B) f4 (Or.inr ⟨by omega, by omega⟩)
      obtain ⟨h', p, F', A'⟩ := ih (w + 1) k4 (by omega) (by omega) (H1.frA F4) (fun i hi i3 i4 => by
          rw [f4.2.2 (B + 6) (by omega), r1 i hi]; unfold ansR; rw [if_neg i3, if_neg i4]) (fun i hi v hv => (A i hi v hv).eq (fun j _ => by rw [f4.2.2 _ (by omega), f1.2.2 _ (by omega)])) (fun v hv => by
          by_cases e : v = w
          · subst e; exact s4
          · exact (S v (by omega)).eq (fun j _ => by rw [f4.2.2 _ (by omega), f1.2.2 _ (by omega)]))
      refine ⟨h', ?_, (F1.trans F4).trans F', A'⟩
      rw [p1, cb_some, show (5 : Int32) = nI 5 from rfl, pk_mul, nI_add, ck_true _ (inb_nI (by omega) (by decide)), nI_clamp (by omega), Nat.one_mul, show k * 5 + w = 5 * k + w by omega, p4, cb_some, vb_eq, nI_1]
      exact p
theorem C_weighAll {B l : Nat} {qd qp : Int32} {g : Hp} {L : List Nat} (hL : L.length ≤ 4) : ∀ n k h, k ≤ L.length → L.length - k < n → HB B l qd qp g L h → BrI B L g h → AnsI B l qd qp g L k h → ∃ h', m_X2_weighAnswers_L2 n B (nI k) h = some ((), h') ∧ FrA B h h' ∧ AnsI B l qd qp g L L.length h' := by
  intro n
  induction n with
  | zero => intro k h _ h2; omega
  | succ n ih =>
    intro k h h1 h2 H Br A
    unfold m_X2_weighAnswers_L2
    rw [H.2.2.2.2.2.2.1]
    by_cases hk : k = L.length
    · subst hk
      rw [if_pos (nI_le (Nat.le_refl _) (by omega))]
      exact ⟨h, rfl, ⟨fun _ => rfl, fun _ => rfl, fun _ _ _ => rfl⟩, A⟩
    · rw [if_neg (nI_ge (by omega) (by omega)), if_neg (show ¬ (4 : Int32) ≤ nI k from nI_ge (a := k) (b := 4) (by omega) (by decide)), ck_true _ (inb_nI (by omega) (by decide)), nI_clamp (by omega)]
      have hB := H.1
      obtain ⟨k1, p1, f1a, f1b, f1c, -⟩ := copy_ok (B + 6) (B + 8 + 2 * k) (by omega) h
      have F1 : FrA B h k1 := ⟨fun a => (f1b a).1, fun a => (f1b a).2, fun a h1 _ => f1a a h1⟩
      rw [p1, cb_some]
      obtain ⟨k2, p2, F2, A2⟩ := C_weighIn (m := L.length) (m_X2_weighAnswers_L2 n) (show k < 4 by omega) (by omega) FU 0 k1 (by omega) (by unfold FU; omega) (H.frA F1) (fun i hi _ _ => by rw [f1c i hi]; exact Br k (by omega) i hi) (fun i hi v hv => (A i hi v hv).eq (fun j _ => by rw [f1a _ (by omega)])) (fun v hv => absurd hv (Nat.not_lt_zero _))
      have F := F1.trans F2
      obtain ⟨h', p, F', A'⟩ := ih (k + 1) k2 (by omega) (by omega) (H.frA F) (fun i hi j hj => by rw [F.2.2 _ (by omega) (by omega)]; exact Br i hi j hj) A2
      exact ⟨h', p2.trans p, F.trans F', A'⟩
theorem Hrd.hb {B l : Nat} {x qd qp : Int32} {g h : Hp} {L : List Nat} {sa : Nat → Nat} (R : Hrd B l x qd qp g L sa h) : HB B l qd qp g L h := by
  obtain ⟨hB, hl, L0, H, S, e9, C, hL⟩ := R
  exact ⟨hB, hl, L0, H.1.1, H.1.2.1, H.1.2.2.1, H.1.2.2.2, fun k hk => (H.2 k hk).1⟩
def saV (B m v : Nat) : Nat → Nat := fun k => B + 19 + (5 * k + dgR m v k)
theorem C_standIn {B : Nat} {L : List Nat} (hL : L.length ≤ 4) : ∀ j n v h, j ≤ 4 → j < n → v < 2 ^ 30 → ∃ h', m_X2_answerBy_L13 n B (nI v) (nI j - 1) h = (cb (m_X2_settle B h') fun _ h3 => some ((), h3)) ∧ (∀ a, gi h' a = gi h a ∧ gl h' a = gl h a) ∧ (∀ a, a ≠ B + 1 → gr h' a = gr h a) ∧ ∀ i, gr h' (B + 1) i = if i < j then saV B j v i else gr h (B + 1) i := by
  intro j
  induction j with
  | zero =>
    intro n v h _ hn _
    obtain ⟨n, rfl⟩ := Nat.exists_eq_succ_of_ne_zero (by omega : n ≠ 0)
    unfold m_X2_answerBy_L13
    rw [if_pos (by decide)]
    exact ⟨h, rfl, fun _ => ⟨rfl, rfl⟩, fun _ _ => rfl, fun i => by rw [if_neg (Nat.not_lt_zero _)]⟩
  | succ j ih =>
    intro n v h hj hn hv
    obtain ⟨n, rfl⟩ := Nat.exists_eq_succ_of_ne_zero (by omega : n ≠ 0)
    have e : nI j + (-1) = nI j - 1 := by rw [Int32.sub_eq_add_neg]
    have m5 := Nat.mod_lt v (show 0 < 5 by decide)
    obtain ⟨h', p, q1, q2, q3⟩ := ih n (v / 5) (sr h (B + 1) j (B + 19 + (5 * j + v % 5))) (by omega) (by omega) (by omega)
    refine ⟨h', ?_, q1, fun a ha => (q2 a ha).trans (gr_sr_na ha), fun i => ?_⟩
    · unfold m_X2_answerBy_L13
      rw [nI_pred, if_neg (nI_pos (by omega)), show (5 : Int32) = nI 5 from rfl, pk_rem (by omega) (by decide) (by decide), pk_div (by omega) (by decide) (by decide), pk_mul, nI_add, ck_true _ (inb_nI (by omega) (by decide)), ck_true _ (inb_nI (by omega) (by decide)), nI_clamp (by omega), nI_clamp (by omega), hb_eq, vb_eq, vb_eq, e, Nat.one_mul, show j * 5 + v % 5 = 5 * j + v % 5 by omega]
      exact p
    · rw [q3 i]
      unfold saV
      conv => rhs; unfold dgR
      by_cases ij : i = j
      · subst ij
        rw [if_neg (Nat.lt_irrefl _), gr_sr, if_pos (by omega), if_pos rfl]
      · rw [gr_sr_nk ij]
        by_cases lt : i < j
        · rw [if_pos lt, if_pos (by omega), if_neg ij]
        · rw [if_neg lt, if_neg (by omega)]
theorem C_answerBy {B l v : Nat} {x qd qp : Int32} {g g' h : Hp} {L : List Nat} (hL : L.length ≤ 4) (hv : v < 2 ^ 30) (H : HB B l qd qp g L h) (A : AnsI B l qd qp g L L.length h) (E : E6 g g') (er : ∀ k, k < L.length → ∀ j, j < 10 → rowS g' (L.getD k 0) j = ansR (rowS g (L.getD k 0)) (dgR L.length v k) j) (C : Cls g' x qd qp L) : ∃ h', m_X2_answerBy B (nI v) h = some ((), h') ∧ Hrd B l x qd qp g' L (saV B L.length v) h' ∧ HB B l qd qp g L h' ∧ AnsI B l qd qp g L L.length h' ∧ FrB B h h' ∧ (∀ j, j = 11 ∨ j = 12 → gi h' B j = gi h B j) ∧ gl h' B = gl h B := by
  obtain ⟨k1, p, q1, q2, q3⟩ := C_standIn (B := B) hL L.length FU v h hL (by unfold FU; omega) hv
  have hB := H.1
  have F1 : FrB B h k1 := fun a ha => ⟨(q1 a).1, (q1 a).2, q2 a (by omega)⟩
  have H1 : HB B l qd qp g L k1 := H.fr F1 (by rw [q2 B (by omega)]) (fun j _ => by rw [(q1 B).1]) (q1 _).1
  have sl : ∀ k, k < L.length → SaOK B k (saV B L.length v k) := fun k hk => Or.inr ⟨dgR L.length v k, dgR_lt _ _ _, by omega, rfl⟩
  have U : HU B l qd qp g' L (saV B L.length v) k1 := by
    refine ⟨⟨H1.2.2.2.1, H1.2.2.2.2.1, H1.2.2.2.2.2.1, H1.2.2.2.2.2.2.1⟩, fun k hk => ⟨H1.2.2.2.2.2.2.2 k hk, by rw [q3, if_pos hk], sl k hk, ?_⟩⟩
    exact ((A k hk _ (dgR_lt _ _ _)).eq (fun j _ => by rw [(q1 _).1])).cg E (er k hk)
  obtain ⟨h', p', U', S', T, e9⟩ := C_settle hB (by omega) C U
  have T2 : FrB B k1 h' := FrB.ofT T (fun k hk => by have := (sl k hk).lt (show k < 6 by omega); omega)
  have FF := F1.trans T2
  have nB : ∀ k, k < L.length → saV B L.length v k ≠ B + 5 := fun k hk => by have := (sl k hk).lt (show k < 6 by omega); omega
  refine ⟨h', ?_, ⟨hB, H.2.1, (H.2.2.1.frB FF hB).e6 E, U', S', e9, C, by omega⟩, H1.fr T2 (by rw [(T.1 B).2]) (fun j hj => T.2.2.1 j (by omega)) (T.2.1 _ (by omega) (fun k hk e => nB k hk e.symm)), fun k hk w hw => ?_, FF, fun j hj => by rw [T.2.2.1 j (by omega), (q1 B).1], by rw [(T.1 B).1, (q1 B).2]⟩
  · unfold m_X2_answerBy
    have e4 : (if (4 : Int32) < gi h B 10 then 4 else gi h B 10) = nI L.length := by
      rw [H.2.2.2.2.2.2.1, if_neg]
      rw [Int32.lt_iff_toInt_lt, nI_toInt (by omega)]
      have : (4 : Int32).toInt = 4 := rfl
      omega
    rw [vb_eq, e4, p, p', cb_some]
  · refine (A k hk w hw).eq (fun j hj => ?_)
    by_cases e : ∃ i, i < L.length ∧ B + 19 + (5 * k + w) = saV B L.length v i
    · obtain ⟨i, hi, e⟩ := e
      rw [e, T.2.2.2 i hi j hj, (q1 _).1]
    · rw [T.2.1 _ (by omega) (fun i hi q => e ⟨i, hi, q⟩), (q1 _).1]
