/-! ===== pure: best and slips, the class's loops ===== -/
theorem layQ_k (L : List Nat) : ∀ j v h d k, k < 10 → k ≠ 3 → k ≠ 4 → gi (layQ L j v h) 6 (10 * d + k) = gi h 6 (10 * d + k)
  | 0, _, _, _, _, _, _, _ => rfl
  | j + 1, v, h, d, k, hk, k3, k4 => by
    unfold layQ
    rw [layQ_k L j _ _ d k hk k3 k4, ansM_r _ _ _ _ _ hk]
    by_cases e : d = L.getD j 0
    · rw [if_pos e]; unfold ansR; rw [if_neg k3, if_neg k4, e]; rfl
    · rw [if_neg e]
theorem layQ_E (L : List Nat) (j v : Nat) (h : Hp) : E6 h (layQ L j v h) := fun a h1 h2 => layQ_o L j v h a (by omega)
theorem cls_lay {g : Hp} {x qd qp : Int32} {L : List Nat} (M : List Nat) (j v : Nat) (C : Cls g x qd qp L) : Cls (layQ M j v g) x qd qp L := by
  obtain ⟨e, C⟩ := C
  have o := fun a (ha : a ≠ 6) => layQ_o M j v g a ha
  have z : ∀ d, gi (layQ M j v g) 6 (10 * d) = gi g 6 (10 * d) := fun d => layQ_k M j v g d 0 (by decide) (by decide) (by decide)
  refine ⟨?_, fun k hk => ?_⟩
  · rw [e]
    unfold LsS
    rw [o 1 (by decide), clF_congr _ _ (fun d _ _ => z d)]
  · obtain ⟨c1, c2, c3⟩ := C k hk
    refine ⟨by rw [z]; exact c1, ?_, ?_⟩
    · unfold qD at *; rw [z, o 2 (by decide), o 4 (by decide)]; exact c2
    · unfold qP at *; rw [z, o 2 (by decide), o 3 (by decide)]; exact c3
def oaF (g : Hp) (l c : Nat) : Nat := if (comesS g l c = 3 ∨ comesS g l c = 4) ∧ wS g l c = 0 then 1 else 0
theorem C_oaths {B l : Nat} {x qd qp : Int32} {g h : Hp} {L : List Nat} {sa : Nat → Nat} (R : Hrd B l x qd qp g L sa h) : m_X2_oathsOfDefendant B h = some (nI (sumN (oaF g l) 0 L), h) := by
  obtain ⟨e10, hL⟩ := R.len
  have key : ∀ n k a, k ≤ L.length → L.length - k < n → m_X2_oathsOfDefendant_L4 n B (nI a) (nI k) h = some (nI (sumN (oaF g l) a (L.drop k)), h) := by
    intro n
    induction n with
    | zero => intro k a _ h2; omega
    | succ n ih =>
      intro k a h1 h2
      unfold m_X2_oathsOfDefendant_L4
      rw [e10]
      by_cases hk : k = L.length
      · subst hk
        rw [if_pos (nI_le (Nat.le_refl _) (by omega)), List.drop_eq_nil_of_le (Nat.le_refl _)]; rfl
      · have hk' : k < L.length := by omega
        obtain ⟨b1, b2, b3, b4, b5, b6, -⟩ := R.comes hk'
        rw [if_neg (nI_ge (by omega) (by omega)), ck_true _ (inb_nI (by omega) (by decide)), nI_clamp (by omega), b2, ck_true _ b3, C_hasOath b5, cb_some, b2, ck_true _ b3, dropc hk']
        simp only [vb_eq, nI_1, sumN]
        have ih' := fun a => ih (k + 1) a (by omega) (by omega)
        by_cases h34 : comesS g l (L.getD k 0) = 3 ∨ comesS g l (L.getD k 0) = 4
        · obtain ⟨t1, t2, t3⟩ := b5.2 h34
          rw [decide_eq_true h34, if_neg (show ¬ bI true = 0 by decide), t3]
          by_cases w0 : wS g l (L.getD k 0) = 0
          · rw [if_pos w0, ih']; unfold oaF; rw [if_pos ⟨h34, w0⟩]
          · rw [if_neg w0, ih']; unfold oaF; rw [if_neg (fun q => w0 q.2)]; rfl
        · rw [decide_eq_false h34, if_pos (show bI false = 0 from rfl), ih']; unfold oaF; rw [if_neg (fun q => h34 q.1)]; rfl
  unfold m_X2_oathsOfDefendant
  exact key FU 0 0 (by omega) (by unfold FU; omega)
def anD (g : Hp) (l : Nat) : List Nat → Bool
  | [] => false
  | c :: L => decide (comesS g l c = 3) || anD g l L
theorem C_someDue {B l : Nat} {x qd qp : Int32} {g h : Hp} {L : List Nat} {sa : Nat → Nat} (R : Hrd B l x qd qp g L sa h) : m_X2_someDue B h = some (bI (anD g l L), h) := by
  obtain ⟨e10, hL⟩ := R.len
  have key : ∀ n k, k ≤ L.length → L.length - k < n → m_X2_someDue_L2 n B (nI k) h = some (bI (anD g l (L.drop k)), h) := by
    intro n
    induction n with
    | zero => intro k _ h2; omega
    | succ n ih =>
      intro k h1 h2
      unfold m_X2_someDue_L2
      rw [e10]
      by_cases hk : k = L.length
      · subst hk
        rw [if_pos (nI_le (Nat.le_refl _) (by omega)), List.drop_eq_nil_of_le (Nat.le_refl _)]; rfl
      · have hk' : k < L.length := by omega
        obtain ⟨b1, b2, b3, b4, b5, b6, -⟩ := R.comes hk'
        rw [if_neg (nI_ge (by omega) (by omega)), ck_true _ (inb_nI (by omega) (by decide)), nI_clamp (by omega), b2, ck_true _ b3, b5.1, dropc hk']
        unfold anD
        by_cases h3 : comesS g l (L.getD k 0) = 3
        · rw [if_pos h3, decide_eq_true h3]; rfl
        · rw [if_neg h3, decide_eq_false h3, Bool.false_or, vb_eq, nI_1]; exact ih (k + 1) (by omega) (by omega)
  unfold m_X2_someDue
  exact key FU 0 (by omega) (by unfold FU; omega)
abbrev StB : Type := Nat × (Int64 × Nat)
def bsS (T : Nat → Int64) (O : Nat → Nat) (v : Nat) (s : StB) : StB := if v = 0 ∨ T v < s.2.1 ∨ (T v = s.2.1 ∧ O v < s.2.2) then (v, T v, O v) else s
def bsR (T : Nat → Int64) (O : Nat → Nat) : Nat → Nat → StB → StB
  | 0, _, s => s
  | n + 1, v, s => bsR T O n (v + 1) (bsS T O v s)
def tyF (g : Hp) (l : Nat) (L : List Nat) (v : Nat) : Int64 := sumL (truF (layQ L L.length v g) l) 0 L
def oyF (g : Hp) (l : Nat) (L : List Nat) (v : Nat) : Nat := sumN (oaF (layQ L L.length v g) l) 0 L
def dyF (g : Hp) (l : Nat) (L : List Nat) (v : Nat) : Bool := anD (layQ L L.length v g) l L
theorem oy_le (g : Hp) (l : Nat) (L : List Nat) (v : Nat) : oyF g l L v ≤ L.length := by
  have := sumN_le (f := oaF (layQ L L.length v g) l) L 0 1 (fun c => by unfold oaF; split <;> omega)
  unfold oyF; omega
theorem p5 : ∀ m, m < 5 → 1 ≤ 5 ^ m ∧ 5 ^ m ≤ 625 := by decide
theorem C_rows {B m : Nat} {h : Hp} (hm : m ≤ 4) (e : gi h B 10 = nI m) : m_X2_rowCount B h = some (nI (5 ^ m), h) := by
  have key : ∀ n k, k ≤ m → m - k < n → m_X2_rowCount_L4 n B (nI (5 ^ k)) (nI k) h = some (nI (5 ^ m), h) := by
    intro n
    induction n with
    | zero => intro k _ h2; omega
    | succ n ih =>
      intro k h1 h2
      unfold m_X2_rowCount_L4
      rw [e]
      by_cases hk : k = m
      · subst hk
        rw [if_pos (nI_le (Nat.le_refl _) (by omega))]
      · rw [if_neg (nI_ge (by omega) (by omega)), if_neg (show ¬ (4 : Int32) ≤ nI k from nI_ge (a := k) (b := 4) (by omega) (by decide)), vb_eq, vb_eq, nI_1, show (5 : Int32) = nI 5 from rfl, pk_mul, show 5 ^ k * 5 = 5 ^ (k + 1) from rfl]
        exact ih (k + 1) (by omega) (by omega)
  unfold m_X2_rowCount
  exact key FU 0 (by omega) (by unfold FU; omega)
def BestC (B : Nat) (s : StB) (h : Hp) : Prop := gi h B 11 = nI s.1 ∧ gl h B 13 = s.2.1 ∧ gi h B 12 = nI s.2.2 ∧ s.2.2 ≤ 4
theorem C_step {B l v : Nat} {x qd qp : Int32} {g h : Hp} {L : List Nat} (hL : L.length ≤ 4) (hn : L.Nodup) (hv : v < 1000) (C : Cls g x qd qp L) (H : HB B l qd qp g L h) (A : AnsI B l qd qp g L L.length h) : ∃ h', m_X2_answerBy B (nI v) h = some ((), h') ∧ m_X2_paidInTruth B h' = some (tyF g l L v, h') ∧ m_X2_oathsOfDefendant B h' = some (nI (oyF g l L v), h') ∧ m_X2_someDue B h' = some (bI (dyF g l L v), h') ∧ HB B l qd qp g L h' ∧ AnsI B l qd qp g L L.length h' ∧ FrB B h h' ∧ (∀ j, j = 11 ∨ j = 12 → gi h' B j = gi h B j) ∧ gl h' B = gl h B := by
  obtain ⟨h', p, R, H', A', F, e1, e2⟩ := C_answerBy (v := v) (g' := layQ L L.length v g) hL (by omega) H A (layQ_E _ _ _ _) (fun k hk j hj => layQ_i L hn L.length v g k j hk (Nat.le_refl _) hj) (cls_lay L L.length v C)
  exact ⟨h', p, C_truth R, C_oaths R, C_someDue R, H', A', F, e1, e2⟩
theorem HB.st {B l : Nat} {qd qp : Int32} {g : Hp} {L : List Nat} {h : Hp} (H : HB B l qd qp g L h) (b o : Int32) (t : Int64) : HB B l qd qp g L (si (sl (si h B 11 b) B 13 t) B 12 o) := by
  have F : FrB B h (si (sl (si h B 11 b) B 13 t) B 12 o) := fun a ha => ⟨by rw [gi_si_na (by omega), gi_slf, gi_si_na (by omega)], by rw [gl_sif, gl_sl_na (by omega)]; rfl, rfl⟩
  refine H.fr F rfl (fun j hj => ?_) ?_
  · rw [gi_si_nk (by omega), gi_sl, gi_si_nk (by omega)]
  · rw [gi_si_na (by omega), gi_slf, gi_si_na (by omega)]
theorem AnsI.st {B l m : Nat} {qd qp : Int32} {g : Hp} {L : List Nat} {h : Hp} (A : AnsI B l qd qp g L m h) (b o : Int32) (t : Int64) : AnsI B l qd qp g L m (si (sl (si h B 11 b) B 13 t) B 12 o) := fun k hk w hw => (A k hk w hw).eq (fun j _ => by rw [gi_si_ne (by omega), gi_sl, gi_si_ne (by omega)])
theorem C_seek {B l : Nat} {x qd qp : Int32} {g h0 : Hp} {L : List Nat} (hL : L.length ≤ 4) (hn : L.Nodup) (C : Cls g x qd qp L) : ∀ rem v n s h, v + rem = 5 ^ L.length → rem < n → HB B l qd qp g L h → AnsI B l qd qp g L L.length h → FrB B h0 h → (0 < v → BestC B s h) → ∃ h', m_X2_seekBest_L11 n B (nI (5 ^ L.length)) (nI v) h = some ((), h') ∧ HB B l qd qp g L h' ∧ AnsI B l qd qp g L L.length h' ∧ FrB B h0 h' ∧ BestC B (bsR (tyF g l L) (oyF g l L) rem v s) h' := by
  have p625 := p5 L.length (by omega)
  intro rem
  induction rem with
  | zero =>
    intro v n s h h1 h2 H A F Bs
    obtain ⟨n, rfl⟩ := Nat.exists_eq_succ_of_ne_zero (by omega : n ≠ 0)
    unfold m_X2_seekBest_L11
    rw [if_pos (nI_le (by omega) (by omega))]
    exact ⟨h, rfl, H, A, F, Bs (by omega)⟩
  | succ rem ih =>
    intro v n s h h1 h2 H A F Bs
    obtain ⟨n, rfl⟩ := Nat.exists_eq_succ_of_ne_zero (by omega : n ≠ 0)
    obtain ⟨k1, p1, p2, p3, -, H1, A1, F1, e1, e2⟩ := C_step (v := v) hL hn (by omega) C H A
    have ol := oy_le g l L v
    unfold m_X2_seekBest_L11
    rw [if_neg (nI_ge (by omega) (by omega)), p1, cb_some, p2, cb_some, p3, cb_some]
    unfold m_X2_seekBest_L63
    simp only [hb_eq, vb_eq, nI_1]
    have take : ∃ h', m_X2_seekBest_L11 n B (nI (5 ^ L.length)) (nI (v + 1)) (si (sl (si k1 B 11 (nI v)) B 13 (tyF g l L v)) B 12 (nI (oyF g l L v))) = some ((), h') ∧ HB B l qd qp g L h' ∧ AnsI B l qd qp g L L.length h' ∧ FrB B h0 h' ∧ BestC B (bsR (tyF g l L) (oyF g l L) rem (v + 1) (v, tyF g l L v, oyF g l L v)) h' := by
      refine ih (v + 1) n (v, tyF g l L v, oyF g l L v) _ (by omega) (by omega) (H1.st _ _ _) (A1.st _ _ _) ((F.trans F1).trans (fun a ha => ⟨by rw [gi_si_na (by omega), gi_slf, gi_si_na (by omega)], by rw [gl_sif, gl_sl_na (by omega)]; rfl, rfl⟩)) (fun _ => ⟨?_, ?_, ?_, Nat.le_trans ol hL⟩)
      · rw [gi_si_nk (by decide), gi_sl, gi_si]
      · rw [gl_si, gl_sl]
      · rw [gi_si]
    have skip : 0 < v → ∃ h', m_X2_seekBest_L11 n B (nI (5 ^ L.length)) (nI (v + 1)) k1 = some ((), h') ∧ HB B l qd qp g L h' ∧ AnsI B l qd qp g L L.length h' ∧ FrB B h0 h' ∧ BestC B (bsR (tyF g l L) (oyF g l L) rem (v + 1) s) h' := fun hv0 => by
      obtain ⟨b1, b2, b3, b4⟩ := Bs hv0
      exact ih (v + 1) n s k1 (by omega) (by omega) H1 A1 (F.trans F1) (fun _ => ⟨by rw [e1 11 (by omega)]; exact b1, by rw [e2]; exact b2, by rw [e1 12 (by omega)]; exact b3, b4⟩)
    unfold bsR bsS
    by_cases v0 : v = 0
    · subst v0
      rw [if_pos (show nI 0 = 0 from rfl), if_pos (Or.inl rfl)]; exact take
    · rw [if_neg (show ¬ nI v = 0 from fun e => v0 ((nI_eq (b := 0) (by omega) (by decide)).mp e))]
      obtain ⟨b1, b2, b3, b4⟩ := Bs (by omega)
      rw [e2, b2, e1 12 (by omega), b3]
      by_cases c1 : tyF g l L v < s.2.1
      · rw [if_pos c1, if_pos (Or.inr (Or.inl c1))]; exact take
      rw [if_neg c1]
      by_cases c2 : tyF g l L v = s.2.1
      · rw [if_pos c2]
        by_cases c3 : oyF g l L v < s.2.2
        · rw [if_neg (nI_ge (by omega) (by omega)), if_pos (Or.inr (Or.inr ⟨c2, c3⟩))]; exact take
        · rw [if_pos (nI_le (by omega) (by omega)), if_neg (fun q => q.elim v0 (fun q => q.elim c1 (fun q => c3 q.2)))]; exact skip (by omega)
      · rw [if_neg c2, if_neg (fun q => q.elim v0 (fun q => q.elim c1 (fun q => c2 q.1)))]; exact skip (by omega)
def slR (T : Nat → Int64) (D : Nat → Bool) (t : Int64) : Nat → Nat → Nat → Nat
  | 0, _, a => a
  | n + 1, v, a => slR T D t n (v + 1) (if D v = false ∧ T v = t then a + 1 else a)
theorem C_oathless {B l : Nat} {x qd qp : Int32} {g h0 : Hp} {L : List Nat} {t : Int64} (hL : L.length ≤ 4) (hn : L.Nodup) (C : Cls g x qd qp L) (ht : ∀ v, v < 5 ^ L.length → t ≤ tyF g l L v) : ∀ rem v n a h, v + rem = 5 ^ L.length → rem < n → HB B l qd qp g L h → AnsI B l qd qp g L L.length h → FrB B h0 h → gl h B 13 = t → ∃ h', m_X2_oathlessRows_L9 n B (nI a) (nI (5 ^ L.length)) (nI v) h = some (nI (slR (tyF g l L) (dyF g l L) t rem v a), h') ∧ FrB B h0 h' := by
  have p625 := p5 L.length (by omega)
  intro rem
  induction rem with
  | zero =>
    intro v n a h h1 h2 H A F Bs
    obtain ⟨n, rfl⟩ := Nat.exists_eq_succ_of_ne_zero (by omega : n ≠ 0)
    unfold m_X2_oathlessRows_L9
    rw [if_pos (nI_le (by omega) (by omega))]
    exact ⟨h, rfl, F⟩
  | succ rem ih =>
    intro v n a h h1 h2 H A F Bs
    obtain ⟨n, rfl⟩ := Nat.exists_eq_succ_of_ne_zero (by omega : n ≠ 0)
    obtain ⟨k1, p1, p2, -, p4, H1, A1, F1, e1, e2⟩ := C_step (v := v) hL hn (by omega) C H A
    have le := ht v (by omega)
    have ih' := fun a => ih (v + 1) n a k1 (by omega) (by omega) H1 A1 (F.trans F1) (by rw [e2]; exact Bs)
    unfold m_X2_oathlessRows_L9
    rw [if_neg (nI_ge (by omega) (by omega)), p1, cb_some, p4, cb_some, p2, cb_some]
    simp only [vb_eq, nI_1]
    rw [e2, Bs]
    unfold slR
    cases hd : dyF g l L v
    · rw [if_pos (show bI false = 0 from rfl)]
      by_cases c : t < tyF g l L v
      · rw [if_pos c, if_neg (fun q => by rw [q.2] at c; rw [Int64.lt_iff_toInt_lt] at c; omega)]; exact ih' a
      · have e : tyF g l L v = t := by
          apply l_ext
          rw [Int64.le_iff_toInt_le] at le
          rw [Int64.lt_iff_toInt_lt] at c
          omega
        rw [if_neg c, if_pos ⟨rfl, e⟩]; exact ih' (a + 1)
    · rw [if_neg (show ¬ bI true = 0 by decide), if_neg (fun q => Bool.noConfusion q.1)]; exact ih' a
