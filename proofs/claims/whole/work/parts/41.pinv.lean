/-! ===== pure: what ties class and reference together ===== -/
/-- row f: the ten numbers of a claim -/
def RowOK (ns : Nat) (f : Nat → Int32) : Prop := (∃ s, s < ns ∧ f 0 = nI s) ∧ ∃ a n w : Nat, f 3 = nI a ∧ f 1 = nI n ∧ f 9 = nI w ∧ a ≤ n ∧ 1 ≤ n ∧ n ≤ 99 ∧ w ≤ 99
def cntR (f : Nat → Int32) (x : Int32) : Nat → Nat
  | 0 => 0
  | c + 1 => cntR f x c + (if f (10 * c) = x then 1 else 0)
def RowsI (ns n b : Nat) (hC : Hp) (f : Nat → Int32) : Prop :=
  (∀ c, c < n → (∀ k, k < 10 → gi hC (b + 2 * c) k = f (10 * c + k)) ∧ RowOK ns (fun k => f (10 * c + k))) ∧ ∀ x, cntR f x n ≤ 6
def TokR (s t : Int32) : Prop := (s = -1 ∧ t = -33) ∨ (s = -2 ∧ t = -38) ∨ (s = -3 ∧ t = -124) ∨ ∃ f g n : Nat, f < 10 ∧ g < 3 ∧ n < 100 ∧ s = nI ((f * 3 + g) * 100 + n) ∧ t = nI (10000 * f + 100 * (60 + g) + n)
def dpS (t : Int32) (d : Nat) : Option Nat := if t = -33 then (if 1 ≤ d then some d else none) else if t = -38 ∨ t = -124 then (if 2 ≤ d then some (d - 1) else none) else if d < 60 then some (d + 1) else none
def dpN (f : Nat → Int32) : Nat → Nat → Nat → Option Nat
  | 0, _, d => some d
  | n + 1, i, d => match dpS (f i) d with | none => none | some e => dpN f n (i + 1) e
def WordR (s w : Int32) : Prop := (s = 0 ∧ w = 0) ∨ (s = 1 ∧ w = 1) ∨ (s = 2 ∧ w = 2) ∨ (s = 3 ∧ w = 3) ∨ (s = 6 ∧ w = 4) ∨ (s = 7 ∧ w = 5)
def ClI (hC hM : Hp) (l k : Nat) : Prop := ∃ st n : Nat, gi hC (144 + 6 * l + 3) k = nI st ∧ gi hC (144 + 6 * l + 4) k = nI (st + n) ∧ st + n ≤ 100 ∧ gi hM 11 (8 * l + k) = nI (100 * l + st) ∧ gi hM 12 (8 * l + k) = nI (100 * l + (st + n)) ∧
  (∀ i, i < n → TokR (gi hC (144 + 6 * l + 5) (st + i)) (gi hM 18 (100 * l + st + i))) ∧ dpN (gi hM 18) n (100 * l + st) 0 = some 1
def NoClI (hC hM : Hp) (l k : Nat) : Prop := gi hM 9 (8 * l + k) = 6 ∧ (gi hC (144 + 6 * l + 1) k = 4 ∨ gi hC (144 + 6 * l + 1) k = 5 ∨ gi hC (144 + 6 * l + 1) k = 8) ∧ gi hC (144 + 6 * l + 2) k = 0 ∧ ∃ st : Nat, gi hC (144 + 6 * l + 3) k = nI st ∧ gi hC (144 + 6 * l + 4) k = nI st ∧ st ≤ 100
def LawI (hC hM : Hp) (l : Nat) : Prop := (∃ n : Nat, n ≤ 8 ∧ gi hC (144 + 6 * l) 5 = nI n ∧ gi hM 8 l = nI n ∧
  ∀ k, k < n → NoClI hC hM l k ∨ (WordR (gi hC (144 + 6 * l + 1) k) (gi hM 9 (8 * l + k)) ∧ ClI hC hM l k ∧ (if gi hC (144 + 6 * l + 1) k = 2 then gi hC (144 + 6 * l + 2) k = gi hM 10 (8 * l + k) ∧ (∃ j, 1 ≤ j ∧ j ≤ 6 ∧ gi hM 10 (8 * l + k) = nI j) else gi hC (144 + 6 * l + 2) k = 0))) ∧
  ∃ a b c d e : Nat, a ≤ 99 ∧ 1 ≤ b ∧ b ≤ 99 ∧ c ≤ 99 ∧ 1 ≤ d ∧ d ≤ 99 ∧ e ≤ 99 ∧ gi hC (144 + 6 * l) 7 = nI a ∧ gi hC (144 + 6 * l) 8 = nI b ∧ gi hC (144 + 6 * l) 9 = nI c ∧ gi hC (144 + 6 * l) 10 = nI d ∧ gi hC (144 + 6 * l) 11 = nI e ∧ gi hM 13 l = nI a ∧ gi hM 14 l = nI b ∧ gi hM 15 l = nI c ∧ gi hM 16 l = nI d ∧ gi hM 17 l = nI e
def CountI (ns nc nl nf : Nat) (hC hM : Hp) : Prop := (gi hC 1 11 = nI ns ∧ gi hM 1 0 = nI ns ∧ ns ≤ 5) ∧ (gi hC 1 12 = nI nc ∧ gi hM 1 1 = nI nc ∧ nc ≤ 24) ∧ (gi hC 1 13 = nI nl ∧ gi hM 1 7 = nI nl ∧ nl ≤ 6) ∧ (gi hC 9 1 = nI nf ∧ gi hM 1 8 = nI nf ∧ nf ≤ 100)
def KnowI (hC hM : Hp) : Prop := ∀ p, p < 8 → gi hC 2 p = gi hM 2 p
def SuitI (ns nl : Nat) (hC hM : Hp) : Prop := ∀ s, s < ns → ∃ p d l : Nat, p < 8 ∧ d < 8 ∧ l < nl ∧ (gi hC (91 + s) 0 = nI p ∧ gi hC (91 + s) 1 = nI d ∧ gi hC (91 + s) 2 = nI l) ∧ (gi hM 3 s = nI p ∧ gi hM 4 s = nI d ∧ gi hM 5 s = nI l)
def TextI (nf : Nat) (hC hM : Hp) : Prop := ∀ i, i < nf → ∃ b : Nat, b < 256 ∧ gi hC 10 i = nI b ∧ gi hM 7 i = (nI b).toInt8.toInt32
def ImgI (ns : Nat) (hC hM : Hp) : Prop := (gi hC 1 15 = 0 ∧ gi hM 1 36 < 0) ∨ ∃ n : Nat, n ≤ 24 ∧ gi hC 1 15 = 1 ∧ gi hC 1 14 = nI n ∧ gi hM 1 36 = nI n ∧ RowsI ns n 97 hC (gi hM 23) ∧ ∀ p, p < 8 → gi hC 3 p = gi hM 24 p
def DeedI (hC hM : Hp) : Prop := gi hC 89 3 = gi hM 1 37 ∧ ∀ i, i < 20 → gi hC 90 i = gi hM 25 i
def TapeI (hC hM : Hp) : Prop := ∀ t, t < 6 → (∃ n : Nat, n ≤ 60 ∧ gi hC (180 + 2 * t) 2 = nI n ∧ gi hM 27 t = nI n ∧ (gi hM 26 t = -1 → n = 0)) ∧ gi hC (180 + 2 * t) 1 = gi hM 26 t ∧ (gi hM 26 t = -1 ∨ ∃ j : Nat, j ≤ 4 ∧ gi hM 26 t = nI j) ∧ ∀ i, i < 60 → gl hC (180 + 2 * t + 1) i = gl hM 28 (60 * t + i)
def RefI (hC : Hp) : Prop := ∀ k, k < 24 → gr hC 5 k = 96 + 2 * k ∧ gr hC 6 k = 97 + 2 * k
def Inv (ns nc nl nf : Nat) (hC hM : Hp) : Prop := CountI ns nc nl nf hC hM ∧ KnowI hC hM ∧ SuitI ns nl hC hM ∧ RowsI ns nc 96 hC (gi hM 6) ∧ ImgI ns hC hM ∧ TextI nf hC hM ∧ (∀ l, l < nl → LawI hC hM l) ∧ DeedI hC hM ∧ TapeI hC hM ∧ RefI hC
def InvE (hC hM : Hp) : Prop := ∃ ns nc nl nf, Inv ns nc nl nf hC hM
def Both {α : Type} (F G : Hp → Option (α × Hp)) : Prop := ∀ hC hM, InvE hC hM → Ok (F hC) fun v hC' => Ok (G hM) fun w hM' => v = w ∧ InvE hC' hM'
/-! what a part of Inv stands on -/
theorem LawI.fr {hC hM kC kM : Hp} {l : Nat} (h : LawI hC hM l) (c1 : ∀ a, 144 + 6 * l ≤ a → a ≤ 144 + 6 * l + 5 → gi kC a = gi hC a) (m1 : ∀ a, 8 ≤ a → a ≤ 17 → gi kM a = gi hM a) (m2 : gi kM 18 = gi hM 18) : LawI kC kM l := by
  have e0 := c1 (144 + 6 * l) (by omega) (by omega)
  have e1 := c1 (144 + 6 * l + 1) (by omega) (by omega)
  have e2 := c1 (144 + 6 * l + 2) (by omega) (by omega)
  have e3 := c1 (144 + 6 * l + 3) (by omega) (by omega)
  have e4 := c1 (144 + 6 * l + 4) (by omega) (by omega)
  have e5 := c1 (144 + 6 * l + 5) (by omega) (by omega)
  have f8 := m1 8 (by omega) (by omega)
  have f9 := m1 9 (by omega) (by omega)
  have f10 := m1 10 (by omega) (by omega)
  have f11 := m1 11 (by omega) (by omega)
  have f12 := m1 12 (by omega) (by omega)
  have f13 := m1 13 (by omega) (by omega)
  have f14 := m1 14 (by omega) (by omega)
  have f15 := m1 15 (by omega) (by omega)
  have f16 := m1 16 (by omega) (by omega)
  have f17 := m1 17 (by omega) (by omega)
  unfold LawI NoClI ClI at *
  rw [e0, e1, e2, e3, e4, e5, f8, f9, f10, f11, f12, f13, f14, f15, f16, f17, m2]
  exact h
theorem RowsI.fr {ns n b : Nat} {hC kC : Hp} {f g : Nat → Int32} (h : RowsI ns n b hC f) (c1 : ∀ c, c < n → gi kC (b + 2 * c) = gi hC (b + 2 * c)) (e : g = f) : RowsI ns n b kC g := by
  subst e
  refine ⟨fun c hc => ?_, h.2⟩
  rw [c1 c hc]; exact h.1 c hc
theorem RowsI.ns {ns ns' n b : Nat} {hC : Hp} {f : Nat → Int32} (h : RowsI ns n b hC f) (q : ns ≤ ns') : RowsI ns' n b hC f := by
  refine ⟨fun c hc => ⟨(h.1 c hc).1, ?_⟩, h.2⟩
  obtain ⟨⟨s, h1, h2⟩, h3⟩ := (h.1 c hc).2
  exact ⟨⟨s, by omega, h2⟩, h3⟩
theorem CountI.fr {ns nc nl nf : Nat} {hC hM kC kM : Hp} (h : CountI ns nc nl nf hC hM) (c1 : gi kC 1 11 = gi hC 1 11) (c2 : gi kC 1 12 = gi hC 1 12) (c3 : gi kC 1 13 = gi hC 1 13) (c4 : gi kC 9 1 = gi hC 9 1) (m1 : gi kM 1 0 = gi hM 1 0) (m2 : gi kM 1 1 = gi hM 1 1) (m3 : gi kM 1 7 = gi hM 1 7) (m4 : gi kM 1 8 = gi hM 1 8) : CountI ns nc nl nf kC kM := by
  unfold CountI; rw [c1, c2, c3, c4, m1, m2, m3, m4]; exact h
theorem KnowI.fr {hC hM kC kM : Hp} (h : KnowI hC hM) (c : gi kC 2 = gi hC 2) (m : gi kM 2 = gi hM 2) : KnowI kC kM := by
  unfold KnowI; rw [c, m]; exact h
theorem SuitI.fr {ns nl : Nat} {hC hM kC kM : Hp} (h : SuitI ns nl hC hM) (c : ∀ s, s < ns → gi kC (91 + s) = gi hC (91 + s)) (m3 : gi kM 3 = gi hM 3) (m4 : gi kM 4 = gi hM 4) (m5 : gi kM 5 = gi hM 5) : SuitI ns nl kC kM := by
  intro s hs
  rw [c s hs, m3, m4, m5]; exact h s hs
theorem ImgI.fr {ns : Nat} {hC hM kC kM : Hp} (h : ImgI ns hC hM) (c1 : gi kC 1 15 = gi hC 1 15) (c2 : gi kC 1 14 = gi hC 1 14) (c3 : gi kC 3 = gi hC 3) (c4 : ∀ c, c < 24 → gi kC (97 + 2 * c) = gi hC (97 + 2 * c)) (m1 : gi kM 1 36 = gi hM 1 36) (m2 : gi kM 23 = gi hM 23) (m3 : gi kM 24 = gi hM 24) : ImgI ns kC kM := by
  unfold ImgI
  rw [c1, c2, c3, m1, m2, m3]
  rcases h with h | ⟨n, h1, h2, h3, h4, h5, h6⟩
  · exact Or.inl h
  · exact Or.inr ⟨n, h1, h2, h3, h4, h5.fr (fun c hc => c4 c (by omega)) rfl, h6⟩
theorem ImgI.ns {ns ns' : Nat} {hC hM : Hp} (h : ImgI ns hC hM) (q : ns ≤ ns') : ImgI ns' hC hM := by
  rcases h with h | ⟨n, h1, h2, h3, h4, h5, h6⟩
  · exact Or.inl h
  · exact Or.inr ⟨n, h1, h2, h3, h4, h5.ns q, h6⟩
theorem TextI.fr {nf : Nat} {hC hM kC kM : Hp} (h : TextI nf hC hM) (c : gi kC 10 = gi hC 10) (m : gi kM 7 = gi hM 7) : TextI nf kC kM := by
  unfold TextI; rw [c, m]; exact h
theorem DeedI.fr {hC hM kC kM : Hp} (h : DeedI hC hM) (c1 : gi kC 89 3 = gi hC 89 3) (c2 : gi kC 90 = gi hC 90) (m1 : gi kM 1 37 = gi hM 1 37) (m2 : gi kM 25 = gi hM 25) : DeedI kC kM := by
  unfold DeedI; rw [c1, c2, m1, m2]; exact h
theorem TapeI.fr {hC hM kC kM : Hp} (h : TapeI hC hM) (c1 : ∀ t, t < 6 → gi kC (180 + 2 * t) = gi hC (180 + 2 * t)) (c2 : ∀ t, t < 6 → gl kC (180 + 2 * t + 1) = gl hC (180 + 2 * t + 1)) (m1 : gi kM 26 = gi hM 26) (m2 : gi kM 27 = gi hM 27) (m3 : gl kM 28 = gl hM 28) : TapeI kC kM := by
  intro t ht
  rw [c1 t ht, c2 t ht, m1, m2, m3]; exact h t ht
theorem RefI.fr {hC kC : Hp} (h : RefI hC) (c5 : gr kC 5 = gr hC 5) (c6 : gr kC 6 = gr hC 6) : RefI kC := by
  unfold RefI; rw [c5, c6]; exact h
/-- all that Inv reads stays: nothing but hearings and scratch was written -/
def EqC (h k : Hp) : Prop := ∀ a, a < 11 ∨ 88 < a → gi k a = gi h a ∧ gl k a = gl h a ∧ gr k a = gr h a
def EqM (h k : Hp) : Prop := (∀ a j, a ≠ 20 → (a = 1 → j ≠ 28) → gi k a j = gi h a j) ∧ ∀ a, gl k a = gl h a
theorem EqC.rfl' (h : Hp) : EqC h h := fun _ _ => ⟨rfl, rfl, rfl⟩
theorem EqC.trans {h k l : Hp} (p : EqC h k) (q : EqC k l) : EqC h l := fun a ha => by
  obtain ⟨p1, p2, p3⟩ := p a ha
  obtain ⟨q1, q2, q3⟩ := q a ha
  exact ⟨q1.trans p1, q2.trans p2, q3.trans p3⟩
theorem EqM.rfl' (h : Hp) : EqM h h := ⟨fun _ _ _ _ => rfl, fun _ => rfl⟩
theorem EqM.trans {h k l : Hp} (p : EqM h k) (q : EqM k l) : EqM h l := ⟨fun a j h1 h2 => (q.1 a j h1 h2).trans (p.1 a j h1 h2), fun a => (q.2 a).trans (p.2 a)⟩
theorem EqM.i {h k : Hp} (p : EqM h k) {a : Nat} (j : Nat) (h1 : a ≠ 20) (h2 : a ≠ 1) : gi k a j = gi h a j := p.1 a j h1 (fun e => absurd e h2)
theorem EqM.f {h k : Hp} (p : EqM h k) {a : Nat} (h1 : a ≠ 20) (h2 : a ≠ 1) : gi k a = gi h a := funext fun j => p.i j h1 h2
theorem EqM.o {h k : Hp} (p : EqM h k) {j : Nat} (h1 : j ≠ 28) : gi k 1 j = gi h 1 j := p.1 1 j (by decide) (fun _ => h1)
theorem Inv.eq {ns nc nl nf : Nat} {hC hM kC kM : Hp} (I : Inv ns nc nl nf hC hM) (c : EqC hC kC) (m : EqM hM kM) : Inv ns nc nl nf kC kM := by
  obtain ⟨i1, i2, i3, i4, i5, i6, i7, i8, i9, i10⟩ := I
  have ci : ∀ a, a < 11 ∨ 88 < a → gi kC a = gi hC a := fun a ha => (c a ha).1
  refine ⟨i1.fr (by rw [ci 1 (by omega)]) (by rw [ci 1 (by omega)]) (by rw [ci 1 (by omega)]) (by rw [ci 9 (by omega)]) (m.o (by decide)) (m.o (by decide)) (m.o (by decide)) (m.o (by decide)),
    i2.fr (ci _ (by omega)) (m.f (by decide) (by decide)),
    i3.fr (fun s _ => ci _ (by omega)) (m.f (by decide) (by decide)) (m.f (by decide) (by decide)) (m.f (by decide) (by decide)),
    i4.fr (fun c _ => ci _ (by omega)) (m.f (by decide) (by decide)),
    i5.fr (by rw [ci 1 (by omega)]) (by rw [ci 1 (by omega)]) (ci _ (by omega)) (fun c _ => ci _ (by omega)) (m.o (by decide)) (m.f (by decide) (by decide)) (m.f (by decide) (by decide)),
    i6.fr (ci _ (by omega)) (m.f (by decide) (by decide)),
    fun l hl => (i7 l hl).fr (fun a _ _ => ci _ (by omega)) (fun a _ _ => m.f (by omega) (by omega)) (m.f (by decide) (by decide)),
    i8.fr (by rw [ci 89 (by omega)]) (ci _ (by omega)) (m.o (by decide)) (m.f (by decide) (by decide)),
    i9.fr (fun t _ => ci _ (by omega)) (fun t _ => (c _ (by omega)).2.1) (m.f (by decide) (by decide)) (m.f (by decide) (by decide)) (m.2 _),
    i10.fr (c 5 (by omega)).2.2 (c 6 (by omega)).2.2⟩
theorem InvE.eq {hC hM kC kM : Hp} (I : InvE hC hM) (c : EqC hC kC) (m : EqM hM kM) : InvE kC kM := by
  obtain ⟨ns, nc, nl, nf, I⟩ := I
  exact ⟨ns, nc, nl, nf, I.eq c m⟩
