/-! ===== pure: a suit is heard ===== -/
def FrB (B : Nat) (h h' : Hp) : Prop := ∀ a, a < B ∨ B + 38 < a → gi h' a = gi h a ∧ gl h' a = gl h a ∧ gr h' a = gr h a
theorem FrB.rfl' (B : Nat) (h : Hp) : FrB B h h := fun _ _ => ⟨rfl, rfl, rfl⟩
theorem FrB.trans {B : Nat} {h k l : Hp} (p : FrB B h k) (q : FrB B k l) : FrB B h l := fun a ha => ⟨(q a ha).1.trans (p a ha).1, (q a ha).2.1.trans (p a ha).2.1, (q a ha).2.2.trans (p a ha).2.2⟩
theorem FrB.eqC {B : Nat} {h k : Hp} (p : FrB B h k) (hB : B = 11 ∨ B = 50) : EqC h k := fun a ha => p a (by omega)
theorem FrB.ofI {B a : Nat} {h k : Hp} (f : FrI a h k) (h1 : B ≤ a) (h2 : a ≤ B + 38) : FrB B h k := fun b hb => ⟨f.2.2 b (by omega), f.1 b, f.2.1 b⟩
theorem frB_si {B a : Nat} (k : Nat) (v : Int32) (h : Hp) (h1 : B ≤ a) (h2 : a ≤ B + 38) : FrB B h (si h a k v) := FrB.ofI (frI_one a k v h) h1 h2
theorem frB_sr {B a : Nat} (k : Nat) (v : Nat) (h : Hp) (h1 : B ≤ a) (h2 : a ≤ B + 38) : FrB B h (sr h a k v) := fun b hb => ⟨rfl, rfl, gr_sr_na (by omega)⟩
theorem FrB.ofT {B m : Nat} {sa : Nat → Nat} {h k : Hp} (f : FrT B m sa h k) (hs : ∀ k, k < m → B ≤ sa k ∧ sa k ≤ B + 38) : FrB B h k := fun a ha => ⟨f.2.1 a (by omega) (fun k hk => by have := hs k hk; omega), (f.1 a).1, (f.1 a).2⟩
theorem LawI.frB {B l : Nat} {h h' g : Hp} (L : LawI h g l) (f : FrB B h h') (hB : B = 11 ∨ B = 50) : LawI h' g l := L.fr (fun a h1 h2 => (f a (by omega)).1) (fun _ _ _ => rfl) rfl
/-- the copies of the claims, as they were brought -/
def BrI (B : Nat) (P : List Nat) (g h : Hp) : Prop := ∀ k, k < P.length → ∀ j, j < 10 → gi h (B + 8 + 2 * k) j = rowS g (P.getD k 0) j
def saO (B : Nat) : Nat → Nat := fun k => B + 7 + 2 * k
theorem C_bring {B l c a2 : Nat} {qd qp : Int32} {g h : Hp} {P : List Nat} (hB : B = 11 ∨ B = 50) (hP : P.length < 6) (hl : l < 6) (L : LawI h g l) (ha : 88 < a2) (H : HU B l qd qp g P (saO B) h) (Br : BrI B P g h) (hr : ∀ k, k < 10 → gi h a2 k = rowS g c k) : ∃ h', m_X2_bring B (nI c) a2 h = some ((), h') ∧ HU B l qd qp g (P ++ [c]) (saO B) h' ∧ BrI B (P ++ [c]) g h' ∧ FrB B h h' := by
  obtain ⟨⟨e1, e2, e3, e4⟩, hk⟩ := H
  have F1 := frB_si (B := B) (a := B + 5) P.length (nI c) h (by omega) (by omega)
  obtain ⟨k2, p2, f2a, f2b, f2c, -⟩ := copy_ok (B + 8 + 2 * P.length) a2 (by omega) (si h (B + 5) P.length (nI c))
  have F2 : FrB B (si h (B + 5) P.length (nI c)) k2 := fun a ha => ⟨f2a a (by omega), (f2b a).1, (f2b a).2⟩
  have F3 := frB_sr (B := B) (a := B + 1) P.length (B + 7 + 2 * P.length) k2 (by omega) (by omega)
  have F := (F1.trans F2).trans F3
  have c4 : gi k2 B 10 = nI P.length := by rw [f2a B (by omega), gi_si_ne (by omega)]; exact e4
  have W : WC B l a2 (rowS g c) qd qp g (sr k2 (B + 1) P.length (B + 7 + 2 * P.length)) := by
    refine ⟨hl, L.frB F hB, ?_, ?_, ?_, fun k hk => ?_⟩
    · rw [gr_sr_ne (by omega), (f2b B).2]; exact e1
    · rw [gi_sr, f2a B (by omega), gi_si_ne (by omega)]; exact e2
    · rw [gi_sr, f2a B (by omega), gi_si_ne (by omega)]; exact e3
    · rw [(F a2 (by omega)).1]; exact hr k hk
  obtain ⟨k4, p4, f4, s4, -⟩ := C_weigh (a2 := B + 7 + 2 * P.length) W (by omega) (by omega) (by omega)
  have F4 := FrB.ofI (B := B) f4 (by omega) (by omega)
  have c5 : gi k4 B 10 = nI P.length := by rw [f4.2.2 B (by omega), gi_sr]; exact c4
  refine ⟨si k4 B 10 (nI (P.length + 1)), ?_, ⟨⟨?_, ?_, ?_, ?_⟩, fun k hk' => ?_⟩, fun k hk' j hj => ?_, (F.trans F4).trans (frB_si 10 _ k4 (by omega) (by omega))⟩
  · unfold m_X2_bring
    have i6 : ∀ K : Option (Unit × Hp), ck (inb (nI P.length) 6) K = K := fun K => ck_true K (inb_nI hP (by decide))
    simp only [e4, hb_eq, gi_si_ne (show B ≠ B + 5 by omega), gi_sr, nI_clamp (show P.length < 2 ^ 31 by omega), i6]
    rw [if_pos (show nI P.length < 6 from nI_lt (a := P.length) (b := 6) hP (by decide)), p2, cb_some]
    simp only [c4, nI_clamp (show P.length < 2 ^ 31 by omega), i6]
    rw [p4, cb_some, c5, nI_1]
  · rw [gr_si, f4.2.1, gr_sr_ne (by omega), (f2b B).2]; exact e1
  · rw [gi_si_nk (by decide), f4.2.2 B (by omega), gi_sr, f2a B (by omega), gi_si_ne (by omega)]; exact e2
  · rw [gi_si_nk (by decide), f4.2.2 B (by omega), gi_sr, f2a B (by omega), gi_si_ne (by omega)]; exact e3
  · rw [gi_si]; congr 1; simp
  · rw [List.length_append, List.length_singleton] at hk'
    rw [gi_si_ne (by omega), f4.2.2 (B + 5) (by omega), gi_sr, f2a (B + 5) (by omega), gr_si, f4.2.1]
    by_cases e : k = P.length
    · subst e
      rw [gi_si, getD_app2, gr_sr]
      exact ⟨rfl, rfl, Or.inl rfl, s4.eq (fun j hj => gi_si_ne (by omega))⟩
    · obtain ⟨b1, b2, b3, b4⟩ := hk k (by omega)
      rw [gi_si_nk e, getD_app1 (by omega), gr_sr_nk e, (f2b _).2]
      refine ⟨b1, b2, b3, b4.eq (fun j hj => ?_)⟩
      unfold saO
      rw [gi_si_ne (by omega), f4.2.2 _ (by omega), gi_sr, f2a _ (by omega), gi_si_ne (by omega)]
  · rw [List.length_append, List.length_singleton] at hk'
    rw [gi_si_ne (by omega), f4.2.2 _ (by omega), gi_sr]
    by_cases e : k = P.length
    · subst e
      rw [f2c j hj, gi_si_ne (by omega), getD_app2]; exact hr j hj
    · rw [f2a _ (by omega), gi_si_ne (by omega), getD_app1 (by omega)]; exact Br k (by omega) j hj
/-- all that is found once a suit was heard -/
def Hrd (B l : Nat) (x qd qp : Int32) (g : Hp) (L : List Nat) (sa : Nat → Nat) (h : Hp) : Prop := (B = 11 ∨ B = 50) ∧ l < 6 ∧ LawI h g l ∧ HU B l qd qp g L sa h ∧ (∀ j, j < L.length → StS h (sa j) g l (L.getD j 0)) ∧ gi h B 9 = kI (rOn g l qd qp L) ∧ Cls g x qd qp L ∧ L.length ≤ 6
theorem C_hear_loop {B l nc : Nat} {x qd qp : Int32} {g h0 : Hp} (hB : B = 11 ∨ B = 50) (hl : l < 6) (L0 : LawI h0 g l) (n24 : nc ≤ 24) (e0 : gi h0 1 12 = nI nc) (en : gi g 1 1 = nI nc) (hx : ∀ c, c < nc → ∀ k, k < 10 → gi h0 (96 + 2 * c) k = rowS g c k) (hL : (LsS g x).length ≤ 6) (C : Cls g x qd qp (LsS g x)) : ∀ n c h, c ≤ nc → nc - c < n → FrB B h0 h → HU B l qd qp g (clF g x c 0) (saO B) h → BrI B (clF g x c 0) g h → ∃ h', m_X8_hear_L41 n B x (nI c) h = some ((), h') ∧ Hrd B l x qd qp g (LsS g x) (saO B) h' ∧ BrI B (LsS g x) g h' ∧ FrB B h0 h' := by
  have eL : LsS g x = clF g x nc 0 := by unfold LsS; rw [en, nI_clamp (by omega)]
  intro n
  induction n with
  | zero => intro c h _ h2; omega
  | succ n ih =>
    intro c h h1 h2 F H Br
    unfold m_X8_hear_L41
    rw [(F 1 (by omega)).1, e0]
    by_cases hc : c = nc
    · subst hc
      rw [if_pos (nI_le (Nat.le_refl _) (by omega))]
      rw [← eL] at H Br
      have hs : ∀ k, k < (LsS g x).length → B ≤ saO B k ∧ saO B k ≤ B + 38 := fun k hk => by unfold saO; omega
      obtain ⟨h', p, H', S, T, e9⟩ := C_settle hB hL C H
      refine ⟨h', by rw [p, cb_some], ⟨hB, hl, L0.frB (F.trans (FrB.ofT T hs)) hB, H', S, e9, C, hL⟩, fun k hk j hj => ?_, F.trans (FrB.ofT T hs)⟩
      rw [T.2.1 _ (by omega) (fun i hi => by unfold saO; omega)]
      exact Br k hk j hj
    · rw [if_neg (nI_ge (by omega) (by omega)), ck_true _ (inb_nI (by omega) (by decide)), nI_clamp (by omega), (F (96 + 2 * c) (by omega)).1, hx c (by omega) 0 (by decide)]
      have ec : clF g x (c + 1) 0 = clF g x c 0 ++ clF g x 1 c := by rw [clF_app, Nat.zero_add]
      by_cases hq : gi g 6 (10 * c) = x
      · rw [if_pos (show rowS g c 0 = x from hq)]
        have e1 : clF g x 1 c = [c] := by rw [clF_t hq]; rfl
        rw [e1] at ec
        have el : LsS g x = clF g x (c + 1) 0 ++ clF g x (nc - (c + 1)) (c + 1) := by
          rw [eL]
          have := clF_app (g := g) (x := x) (c + 1) (nc - (c + 1)) 0
          rwa [show c + 1 + (nc - (c + 1)) = nc by omega, Nat.zero_add] at this
        have hP : (clF g x c 0).length < 6 := by
          rw [el, ec] at hL
          simp only [List.length_append, List.length_singleton] at hL
          omega
        obtain ⟨h', p, H', Br', F'⟩ := C_bring (a2 := 96 + 2 * c) hB hP hl (L0.frB F hB) (by omega) H Br (fun k hk => by rw [(F _ (by omega)).1]; exact hx c (by omega) k hk)
        rw [p, cb_some, vb_eq, nI_1]
        rw [← ec] at H' Br'
        exact ih (c + 1) h' (by omega) (by omega) (F.trans F') H' Br'
      · rw [if_neg (show ¬ rowS g c 0 = x from hq), vb_eq, nI_1]
        have e1 : clF g x 1 c = [] := by rw [clF_f hq]; rfl
        rw [e1, List.append_nil] at ec
        rw [← ec] at H Br
        exact ih (c + 1) h (by omega) (by omega) F H Br
theorem C_open (B a1 : Nat) (a2 a3 : Int32) (h : Hp) : ∃ h', m_X2_open B a1 a2 a3 h = some ((), h') ∧ FrB B h h' ∧ gr h' B 6 = a1 ∧ gi h' B 7 = a2 ∧ gi h' B 8 = a3 ∧ gi h' B 10 = 0 := by
  unfold m_X2_open
  simp only [hb_eq]
  refine ⟨_, rfl, ?_, ?_, ?_, ?_, ?_⟩
  · exact (((frB_sr 6 a1 h (Nat.le_refl _) (by omega)).trans (frB_si 7 a2 _ (Nat.le_refl _) (by omega))).trans (frB_si 8 a3 _ (Nat.le_refl _) (by omega))).trans (frB_si 10 0 _ (Nat.le_refl _) (by omega))
  · rw [gr_si, gr_si, gr_si, gr_sr]
  · rw [gi_si_nk (by decide), gi_si_nk (by decide), gi_si]
  · rw [gi_si_nk (by decide), gi_si]
  · rw [gi_si]
theorem Inv.cls {ns nc nl nf : Nat} {hC hM : Hp} (I : Inv ns nc nl nf hC hM) {s p d : Nat} (hs : s < ns) (hp : gi hM 3 s = nI p) (hd : gi hM 4 s = nI d) (p8 : p < 8) (d8 : d < 8) : Cls hM (nI s) (gi hM 2 d) (gi hM 2 p) (LsS hM (nI s)) ∧ (LsS hM (nI s)).length ≤ 6 := by
  have n5 := I.1.1.2.2
  have n24 := I.1.2.1.2.2
  have en : (gi hM 1 1).toNatClampNeg = nc := by rw [I.1.2.1.2.1, nI_clamp (by omega)]
  refine ⟨⟨rfl, fun k hk => ?_⟩, ?_⟩
  · have m := getD_mem hk
    unfold LsS at m
    rw [clF_mem] at m
    obtain ⟨-, -, e⟩ := m
    refine ⟨e, ?_, ?_⟩
    · unfold qD
      rw [show clF hM (nI s) (gi hM 1 1).toNatClampNeg 0 = LsS hM (nI s) from rfl] at e
      rw [e, nI_clamp (by omega), hd, nI_clamp (by omega)]
    · unfold qP
      rw [show clF hM (nI s) (gi hM 1 1).toNatClampNeg 0 = LsS hM (nI s) from rfl] at e
      rw [e, nI_clamp (by omega), hp, nI_clamp (by omega)]
  · have := clF_len (g := hM) (x := nI s) nc 0
    have c6 := I.2.2.2.1.2 (nI s)
    unfold LsS
    rw [en]
    simp only [Nat.zero_add, cntR, Nat.add_zero] at this
    omega
theorem C_hear {ns nc nl nf s l B : Nat} {hC hM : Hp} (I : Inv ns nc nl nf hC hM) (hB : B = 11 ∨ B = 50) (hs : s < ns) (hl : l < nl) : ∃ h' qd qp, m_X8_hear B (nI s) (nI l) hC = some ((), h') ∧ Hrd B l (nI s) qd qp hM (LsS hM (nI s)) (saO B) h' ∧ BrI B (LsS hM (nI s)) hM h' ∧ FrB B hC h' := by
  obtain ⟨p, d, l', p8, d8, -, ⟨s0, s1, -⟩, s3, s4, -⟩ := I.2.2.1 s hs
  have n5 := I.1.1.2.2
  have n24 := I.1.2.1.2.2
  have n6 := I.1.2.2.1.2.2
  obtain ⟨C, hL⟩ := I.cls hs s3 s4 p8 d8
  have kn := I.2.1
  unfold m_X8_hear
  rw [ck_true _ (inb_nI (by omega) (by decide)), ck_true _ (inb_nI (by omega) (by decide)), nI_clamp (by omega), nI_clamp (by omega), Nat.one_mul, s0, s1, ck_true _ (inb_nI p8 (by decide)), ck_true _ (inb_nI d8 (by decide)), nI_clamp (by omega), nI_clamp (by omega), kn p p8, kn d d8]
  obtain ⟨h1, q, F, o6, o7, o8, o10⟩ := C_open B (144 + 6 * l) (gi hM 2 p) (gi hM 2 d) hC
  rw [q, cb_some]
  obtain ⟨h', p', R, Br, F'⟩ := C_hear_loop (h0 := h1) hB (by omega) ((I.2.2.2.2.2.2.1 l hl).frB F hB) n24 (by rw [(F 1 (by omega)).1]; exact I.1.2.1.1) I.1.2.1.2.1 (fun c hc k hk => by rw [(F _ (by omega)).1]; exact (I.2.2.2.1.1 c hc).1 k hk) hL C FU 0 h1 (by omega) (by unfold FU; omega) (FrB.rfl' _ _) ⟨⟨o6, o7, o8, o10⟩, fun k hk => absurd hk (Nat.not_lt_zero _)⟩ (fun k hk => absurd hk (Nat.not_lt_zero _))
  exact ⟨h', _, _, p', R, Br, F.trans F'⟩
