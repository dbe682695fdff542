/-! ===== pure: a clause ===== -/
def FKc (l k q0 : Nat) (b h : Hp) : Prop := (∀ a j, ¬ ((a = 9 ∧ j = 2) ∨ a = 144 + 6 * l ∨ (144 + 6 * l + 1 ≤ a ∧ a ≤ 144 + 6 * l + 4 ∧ k ≤ j) ∨ (a = 144 + 6 * l + 5 ∧ q0 ≤ j)) → gi h a j = gi b a j) ∧ (∀ a, gl h a = gl b a) ∧ ∀ a, gr h a = gr b a
def FKm (l k q0 : Nat) (b h : Hp) : Prop := (∀ a j, ¬ ((a = 1 ∧ (j = 9 ∨ j = 22 ∨ j = 23 ∨ j = 25 ∨ j = 26)) ∨ a = 19 ∨ (13 ≤ a ∧ a ≤ 17 ∧ j = l) ∨ (9 ≤ a ∧ a ≤ 12 ∧ 8 * l + k ≤ j) ∨ (a = 18 ∧ 100 * l + q0 ≤ j)) → gi h a j = gi b a j) ∧ ∀ a, gl h a = gl b a
theorem FKc.rfl' (l k q0 : Nat) (h : Hp) : FKc l k q0 h h := ⟨fun _ _ _ => rfl, fun _ => rfl, fun _ => rfl⟩
theorem FKm.rfl' (l k q0 : Nat) (h : Hp) : FKm l k q0 h h := ⟨fun _ _ _ => rfl, fun _ => rfl⟩
theorem FKc.trans {l k q0 : Nat} {a b c : Hp} (p : FKc l k q0 a b) (q : FKc l k q0 b c) : FKc l k q0 a c := ⟨fun x j e => (q.1 x j e).trans (p.1 x j e), fun x => (q.2.1 x).trans (p.2.1 x), fun x => (q.2.2 x).trans (p.2.2 x)⟩
theorem FKm.trans {l k q0 : Nat} {a b c : Hp} (p : FKm l k q0 a b) (q : FKm l k q0 b c) : FKm l k q0 a c := ⟨fun x j e => (q.1 x j e).trans (p.1 x j e), fun x => (q.2 x).trans (p.2 x)⟩
theorem fkC_adv {l k q0 : Nat} {h h' : Hp} (q : AdvC h h') : FKc l k q0 h h' := ⟨fun x j e => q.1 x j (fun z => e (Or.inl z)), q.2.1, q.2.2⟩
theorem fkM_adv {l k q0 : Nat} {h h' : Hp} (q : AdvM h h') : FKm l k q0 h h' := ⟨fun x j e => q.1 x j (fun z => e (Or.inl ⟨z.1, z.2.elim Or.inl (fun y => Or.inr (Or.inr (Or.inl y)))⟩)), q.2⟩
theorem fkC_fe {l k q0 : Nat} {h h' : Hp} (q : FEc l k q0 h h') : FKc l k q0 h h' := ⟨fun x j e => q.1 x j (by omega), q.2.1, q.2.2⟩
theorem fkM_fe {l k q0 : Nat} {h h' : Hp} (q : FEm l k q0 h h') : FKm l k q0 h h' := ⟨fun x j e => q.1 x j (by omega), q.2⟩
theorem fkC_si {l k q0 a j : Nat} (h : Hp) (v : Int32) (e : (a = 9 ∧ j = 2) ∨ a = 144 + 6 * l ∨ (144 + 6 * l + 1 ≤ a ∧ a ≤ 144 + 6 * l + 4 ∧ k ≤ j)) : FKc l k q0 h (si h a j v) := ⟨fun x i z => by rw [gi_si_if, if_neg (fun y => z (by omega))], fun _ => rfl, fun _ => rfl⟩
theorem fkM_si {l k q0 a j : Nat} (h : Hp) (v : Int32) (e : (a = 1 ∧ (j = 9 ∨ j = 22 ∨ j = 23 ∨ j = 25 ∨ j = 26)) ∨ (13 ≤ a ∧ a ≤ 17 ∧ j = l) ∨ (9 ≤ a ∧ a ≤ 12 ∧ 8 * l + k ≤ j)) : FKm l k q0 h (si h a j v) := ⟨fun x i z => by rw [gi_si_if, if_neg (fun y => z (by omega))], fun _ => rfl⟩
/-- what the law's shares are -/
def ShI (l : Nat) (hC hM : Hp) : Prop := ∃ a b c d e : Nat, a ≤ 99 ∧ 1 ≤ b ∧ b ≤ 99 ∧ c ≤ 99 ∧ 1 ≤ d ∧ d ≤ 99 ∧ e ≤ 99 ∧ gi hC (144 + 6 * l) 7 = nI a ∧ gi hC (144 + 6 * l) 8 = nI b ∧ gi hC (144 + 6 * l) 9 = nI c ∧ gi hC (144 + 6 * l) 10 = nI d ∧ gi hC (144 + 6 * l) 11 = nI e ∧ gi hM 13 l = nI a ∧ gi hM 14 l = nI b ∧ gi hM 15 l = nI c ∧ gi hM 16 l = nI d ∧ gi hM 17 l = nI e
/-- a clause that is read -/
def DnI (l q k : Nat) (hC hM : Hp) : Prop := ∃ st n : Nat, gi hC (144 + 6 * l + 3) k = nI st ∧ gi hC (144 + 6 * l + 4) k = nI (st + n) ∧ st + n ≤ q ∧
  ((n = 0 ∧ gi hM 9 (8 * l + k) = 6 ∧ (gi hC (144 + 6 * l + 1) k = 4 ∨ gi hC (144 + 6 * l + 1) k = 5 ∨ gi hC (144 + 6 * l + 1) k = 8) ∧ gi hC (144 + 6 * l + 2) k = 0) ∨
   (WordR (gi hC (144 + 6 * l + 1) k) (gi hM 9 (8 * l + k)) ∧ gi hM 11 (8 * l + k) = nI (100 * l + st) ∧ gi hM 12 (8 * l + k) = nI (100 * l + (st + n)) ∧ (∀ i, i < n → TokR (gi hC (144 + 6 * l + 5) (st + i)) (gi hM 18 (100 * l + st + i))) ∧ dpN (gi hM 18) n (100 * l + st) 0 = some 1 ∧
    (if gi hC (144 + 6 * l + 1) k = 2 then gi hC (144 + 6 * l + 2) k = gi hM 10 (8 * l + k) ∧ (∃ j, 1 ≤ j ∧ j ≤ 6 ∧ gi hM 10 (8 * l + k) = nI j) else gi hC (144 + 6 * l + 2) k = 0)))
theorem DnI.fr {l q k kk : Nat} {hC hM kC kM : Hp} (D : DnI l q k hC hM) (c : FKc l kk q hC kC) (m : FKm l kk q hM kM) (hk : k < kk) (q' : Nat) (hq : q ≤ q') : DnI l q' k kC kM := by
  obtain ⟨st, n, d1, d2, d3, d4⟩ := D
  have e1 := c.1 (144 + 6 * l + 1) k (by omega)
  have e2 := c.1 (144 + 6 * l + 2) k (by omega)
  have e3 := c.1 (144 + 6 * l + 3) k (by omega)
  have e4 := c.1 (144 + 6 * l + 4) k (by omega)
  have f9 := m.1 9 (8 * l + k) (by omega)
  have f10 := m.1 10 (8 * l + k) (by omega)
  have f11 := m.1 11 (8 * l + k) (by omega)
  have f12 := m.1 12 (8 * l + k) (by omega)
  refine ⟨st, n, e3.trans d1, e4.trans d2, by omega, ?_⟩
  rw [e1, e2, f9, f10, f11, f12]
  rcases d4 with d4 | ⟨w1, w2, w3, w4, w5, w6⟩
  · exact Or.inl d4
  · refine Or.inr ⟨w1, w2, w3, fun i hi => ?_, ?_, w6⟩
    · rw [c.1 _ _ (by omega), m.1 18 _ (by omega)]; exact w4 i hi
    · rw [dpN_cg (f := gi hM 18) _ _ _ (fun j h1 h2 => m.1 18 j (by omega))]; exact w5
theorem ShI.fr {l : Nat} {hC hM kC kM : Hp} (S : ShI l hC hM) (c : ∀ j, 7 ≤ j → j ≤ 11 → gi kC (144 + 6 * l) j = gi hC (144 + 6 * l) j) (m : ∀ a, 13 ≤ a → a ≤ 17 → gi kM a l = gi hM a l) : ShI l kC kM := by
  unfold ShI
  rw [c 7 (by decide) (by decide), c 8 (by decide) (by decide), c 9 (by decide) (by decide), c 10 (by decide) (by decide), c 11 (by decide) (by decide), m 13 (by decide) (by decide), m 14 (by decide) (by decide), m 15 (by decide) (by decide), m 16 (by decide) (by decide), m 17 (by decide) (by decide)]
  exact S
/-- the state as a clause begins -/
def CS (l nf kk q : Nat) (t : Nat → Nat) (p : Nat) (hC hM : Hp) : Prop := (l < 6 ∧ kk < 8) ∧ PT nf t p hC hM ∧ gr hC 9 3 = 144 + 6 * l ∧ gi hC (144 + 6 * l) 5 = nI kk ∧ gi hC (144 + 6 * l) 6 = nI q ∧ gi hM 1 22 = nI (100 * l + q) ∧ q ≤ p ∧ ShI l hC hM
theorem CS.adv {l nf kk q p p' : Nat} {t : Nat → Nat} {hC hM kC kM : Hp} (C : CS l nf kk q t p hC hM) (c : AdvC hC kC) (m : AdvM hM kM) (P : PT nf t p' kC kM) (hp : p ≤ p') : CS l nf kk q t p' kC kM := by
  obtain ⟨a0, a1, a2, a3, a4, a5, a6, a7⟩ := C
  exact ⟨a0, P, by rw [c.2.2]; exact a2, by rw [c.1 _ _ (by omega)]; exact a3, by rw [c.1 _ _ (by omega)]; exact a4, by rw [m.1 _ _ (by decide)]; exact a5, by omega, a7.fr (fun j _ _ => c.1 _ _ (by omega)) (fun a h1 h2 => m.1 _ _ (by omega))⟩
theorem CS.wr {l nf kk q p a j : Nat} {t : Nat → Nat} {hC hM : Hp} (v : Int32) (C : CS l nf kk q t p hC hM) (ha : 9 ≤ a ∧ a ≤ 12) : CS l nf kk q t p hC (si hM a j v) := by
  obtain ⟨a0, ⟨b1, b2, b3, b4, b5, b6, b7⟩, a2, a3, a4, a5, a6, a7⟩ := C
  exact ⟨a0, ⟨b1, b2, b3, by rw [gi_si_ne (by omega)]; exact b4, b5, by rw [gi_si_ne (by omega)]; exact b6, fun i => by rw [gi_si_ne (by omega)]; exact b7 i⟩, a2, a3, a4, by rw [gi_si_ne (by omega)]; exact a5, a6, a7.fr (fun _ _ _ => rfl) (fun b h1 h2 => gi_si_ne (by omega))⟩
def CLr (l nf kk q : Nat) (t : Nat → Nat) (hC hM : Hp) (X Y : Option (Int32 × Hp)) : Prop :=
  (∃ hC' hM' p', X = some (0, hC') ∧ Y = some (0, hM') ∧ gi hC' 9 2 = nI p' ∧ gi hM' 1 9 = nI p' ∧ FKc l kk q hC hC' ∧ FKm l kk q hM hM') ∨
  (∃ hC' hM' p' q', X = some (1, hC') ∧ Y = some (1, hM') ∧ PT nf t p' hC' hM' ∧ gi hC' (144 + 6 * l) 5 = nI (kk + 1) ∧ gi hC' (144 + 6 * l) 6 = nI q' ∧ gi hM' 1 22 = nI (100 * l + q') ∧ q ≤ q' ∧ q' ≤ p' ∧ ShI l hC' hM' ∧ DnI l q' kk hC' hM' ∧ FKc l kk q hC hC' ∧ FKm l kk q hM hM')
theorem CLr.tr {l nf kk q : Nat} {t : Nat → Nat} {hC hM kC kM : Hp} {X Y : Option (Int32 × Hp)} (R : CLr l nf kk q t kC kM X Y) (c : FKc l kk q hC kC) (m : FKm l kk q hM kM) : CLr l nf kk q t hC hM X Y := by
  rcases R with ⟨a, b, p', r1, r2, r3, r4, r5, r6⟩ | ⟨a, b, p', q', r1, r2, r3, r4, r5, r6, r7, r8, r9, r10, r11, r12⟩
  · exact Or.inl ⟨a, b, p', r1, r2, r3, r4, c.trans r5, m.trans r6⟩
  · exact Or.inr ⟨a, b, p', q', r1, r2, r3, r4, r5, r6, r7, r8, r9, r10, c.trans r11, m.trans r12⟩
def bgC (l kk q : Nat) (s kd : Int32) (h : Hp) : Hp := si (si (si (si (si h (144 + 6 * l + 1) kk s) (144 + 6 * l + 2) kk kd) (144 + 6 * l + 3) kk (nI q)) (144 + 6 * l + 4) kk (nI q)) (144 + 6 * l) 5 (nI (kk + 1))
theorem C_beginC {l kk q : Nat} {s kd : Int32} {h : Hp} (hk : kk < 8) (e5 : gi h (144 + 6 * l) 5 = nI kk) (e6 : gi h (144 + 6 * l) 6 = nI q) : m_X3_beginClause (144 + 6 * l) s kd h = some ((), bgC l kk q s kd h) := by
  have i8 : ∀ K : Option (Unit × Hp), ck (inb (nI kk) 8) K = K := fun K => ck_true K (inb_nI hk (by decide))
  have n1 : ∀ (x : Nat) (j : Nat) (v : Int32) (h : Hp) (i : Nat), 1 ≤ x → gi (si h (144 + 6 * l + x) j v) (144 + 6 * l) i = gi h (144 + 6 * l) i := fun x j v h i hx => gi_si_ne (by omega)
  unfold m_X3_beginClause
  rw [e5, if_pos (show nI kk < 8 from nI_lt (b := 8) hk (by decide)), i8, nI_clamp (by omega), hb_eq, n1 1 _ _ _ _ (by decide), e5, i8, nI_clamp (by omega), hb_eq, n1 2 _ _ _ _ (by decide), n1 1 _ _ _ _ (by decide), e5, i8, nI_clamp (by omega), n1 2 _ _ _ _ (by decide), n1 1 _ _ _ _ (by decide), e6, hb_eq, n1 3 _ _ _ _ (by decide), n1 2 _ _ _ _ (by decide), n1 1 _ _ _ _ (by decide), e5, i8, nI_clamp (by omega), n1 3 _ _ _ _ (by decide), n1 2 _ _ _ _ (by decide), n1 1 _ _ _ _ (by decide), e6, hb_eq, n1 4 _ _ _ _ (by decide), n1 3 _ _ _ _ (by decide), n1 2 _ _ _ _ (by decide), n1 1 _ _ _ _ (by decide), e5, nI_1, hb_eq]
  rfl
theorem bgC_fr (l kk q q0 : Nat) (s kd : Int32) (h : Hp) : FKc l kk q0 h (bgC l kk q s kd h) :=
  ((((fkC_si h s (by omega)).trans (fkC_si _ kd (by omega))).trans (fkC_si _ (nI q) (by omega))).trans (fkC_si _ (nI q) (by omega))).trans (fkC_si _ (nI (kk + 1)) (by omega))
theorem bgC_o {l kk q a j : Nat} {s kd : Int32} {h : Hp} (e : ¬ ((144 + 6 * l + 1 ≤ a ∧ a ≤ 144 + 6 * l + 4) ∨ (a = 144 + 6 * l ∧ j = 5))) : gi (bgC l kk q s kd h) a j = gi h a j := by
  unfold bgC
  rw [gi_si_if, if_neg (fun y => e (by omega)), gi_si_ne (by omega), gi_si_ne (by omega), gi_si_ne (by omega), gi_si_ne (by omega)]
theorem bgC_k (l kk q : Nat) (s kd : Int32) (h : Hp) : gi (bgC l kk q s kd h) (144 + 6 * l + 1) kk = s ∧ gi (bgC l kk q s kd h) (144 + 6 * l + 2) kk = kd ∧ gi (bgC l kk q s kd h) (144 + 6 * l + 3) kk = nI q ∧ gi (bgC l kk q s kd h) (144 + 6 * l + 4) kk = nI q ∧ gi (bgC l kk q s kd h) (144 + 6 * l) 5 = nI (kk + 1) := by
  unfold bgC
  refine ⟨?_, ?_, ?_, ?_, gi_si _ _ _ _⟩
  · rw [gi_si_ne (by omega), gi_si_ne (by omega), gi_si_ne (by omega), gi_si_ne (by omega), gi_si]
  · rw [gi_si_ne (by omega), gi_si_ne (by omega), gi_si_ne (by omega), gi_si]
  · rw [gi_si_ne (by omega), gi_si_ne (by omega), gi_si]
  · rw [gi_si_ne (by omega), gi_si]
