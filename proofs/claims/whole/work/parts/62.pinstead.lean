/-! ===== pure: a claim with another sum: wise, ways ===== -/
def E6 (g1 g2 : Hp) : Prop := ∀ a, 7 < a → a < 19 → gi g2 a = gi g1 a
theorem fact_cg {r1 r2 : Nat → Int32} (er : ∀ k, k < 10 → r2 k = r1 k) : factS r2 = factS r1 := by
  funext q f
  unfold factS
  rw [er 1 (by decide), er 2 (by decide), er 3 (by decide), er 4 (by decide), er 5 (by decide), er 6 (by decide), er 7 (by decide), er 8 (by decide)]
theorem step_cg {r1 r2 : Nat → Int32} (er : ∀ k, k < 10 → r2 k = r1 k) : stepS r2 = stepS r1 := by
  funext q t st
  unfold stepS
  rw [fact_cg er]
theorem run_cg {r1 r2 : Nat → Int32} {q : Int32} {f : Nat → Int32} (er : ∀ k, k < 10 → r2 k = r1 k) : ∀ n i st, runS r2 q f n i st = runS r1 q f n i st
  | 0, _, _ => rfl
  | n + 1, i, st => by
    unfold runS
    rw [step_cg er, run_cg er n (i + 1)]
theorem hold_cg {g1 g2 : Hp} {kk : Nat} {r1 r2 : Nat → Int32} {q : Int32} (E : E6 g1 g2) (er : ∀ k, k < 10 → r2 k = r1 k) : holdS g2 kk r2 q = holdS g1 kk r1 q := by
  unfold holdS
  rw [E 18 (by decide) (by decide), E 12 (by decide) (by decide), E 11 (by decide) (by decide), run_cg er]
theorem some_cg {g1 g2 : Hp} {l : Nat} {w : Int32} {r1 r2 : Nat → Int32} {q : Int32} (E : E6 g1 g2) (er : ∀ k, k < 10 → r2 k = r1 k) : someS g2 l w r2 q = someS g1 l w r1 q := by
  unfold someS ncS
  rw [E 8 (by decide) (by decide), E 9 (by decide) (by decide)]
  congr 1
  funext k
  rw [hold_cg E er]
theorem oath_cg {g1 g2 : Hp} {l : Nat} {r1 r2 : Nat → Int32} {qd qp : Int32} (E : E6 g1 g2) (er : ∀ k, k < 10 → r2 k = r1 k) : oathS g2 l r2 qd qp = oathS g1 l r1 qd qp := by
  unfold oathS ncS
  rw [E 8 (by decide) (by decide), E 9 (by decide) (by decide), E 10 (by decide) (by decide)]
  congr 1
  funext k
  rw [hold_cg E er]
theorem due_cg {g1 g2 : Hp} {l : Nat} {r1 r2 : Nat → Int32} {qd qp : Int32} (E : E6 g1 g2) (er : ∀ k, k < 10 → r2 k = r1 k) : dueS g2 l r2 qd qp = dueS g1 l r1 qd qp := by
  unfold dueS
  rw [some_cg E er, some_cg E er, oath_cg E er, E 17 (by decide) (by decide), er 1 (by decide), er 3 (by decide)]
theorem who_cg {g1 g2 : Hp} {l : Nat} {r1 r2 : Nat → Int32} {qd qp k : Int32} (E : E6 g1 g2) (er : ∀ k, k < 10 → r2 k = r1 k) : whoS g2 l r2 qd qp k = whoS g1 l r1 qd qp k := by
  unfold whoS
  rw [some_cg E er, some_cg E er]
theorem kind_cg {g1 g2 : Hp} {l : Nat} {o : Option Nat} (E : E6 g1 g2) : kindS g2 l o = kindS g1 l o := by
  unfold kindS
  rw [E 10 (by decide) (by decide)]
theorem alone_cg {g1 g2 : Hp} {l : Nat} {r1 r2 : Nat → Int32} {qd qp : Int32} (E : E6 g1 g2) (er : ∀ k, k < 10 → r2 k = r1 k) : aloneS g2 l r2 qd qp = aloneS g1 l r1 qd qp := by
  unfold aloneS
  rw [some_cg E er, some_cg E er, some_cg E er, due_cg E er, er 1 (by decide), er 3 (by decide)]
theorem StW.cg {h : Hp} {a : Nat} {g1 g2 : Hp} {l : Nat} {r1 r2 : Nat → Int32} {qd qp : Int32} (s : StW h a g1 l r1 qd qp) (E : E6 g1 g2) (er : ∀ k, k < 10 → r2 k = r1 k) : StW h a g2 l r2 qd qp := by
  unfold StW goesS dcanS pcanS at *
  rw [some_cg E er, some_cg E er, alone_cg E er, oath_cg E er, kind_cg E, who_cg E er, who_cg E er, er 1 (by decide), er 3 (by decide), er 9 (by decide)]
  exact s
theorem LawI.e6 {h g1 g2 : Hp} {l : Nat} (L : LawI h g1 l) (E : E6 g1 g2) : LawI h g2 l := L.fr (fun _ _ _ => rfl) (fun a h1 h2 => E a (by omega) (by omega)) (E 18 (by decide) (by decide))
theorem C_instead {B l c : Nat} {x qd qp v : Int32} {g1 g2 h : Hp} {L : List Nat} {sa : Nat → Nat} {r0 : Nat → Int32} (R : Hrd B l x qd qp g1 L sa h) (hn : L.Nodup) (hc : c ∈ L) (n24 : ∀ d ∈ L, d < 24) (E : E6 g1 g2) (o : ∀ d ∈ L, d ≠ c → ∀ k, k < 10 → rowS g2 d k = rowS g1 d k) (C2 : Cls g2 x qd qp L) (hr : ∀ k, k < 10 → gi h (96 + 2 * c) k = r0 k)
    (r1 : rowS g2 c 1 = v) (r3 : rowS g2 c 3 = if v < r0 3 then v else r0 3) (rk : ∀ k, k < 10 → k ≠ 1 → k ≠ 3 → rowS g2 c k = r0 k) : ∃ h', m_X2_claimInstead B (nI c) (96 + 2 * c) v h = some ((), h') ∧ Hrd B l x qd qp g2 L sa h' ∧ FrB B h h' := by
  obtain ⟨k, hk, ek, p⟩ := C_placeOf (nc := 0) R hn hc n24
  have R' := R
  obtain ⟨hB, hl, L0, H, S, e9, C, hL⟩ := R
  have c24 := n24 c hc
  obtain ⟨k1, p1, f1a, f1b, f1c, -⟩ := copy_ok (B + 6) (96 + 2 * c) (by omega) h
  have F1 : FrB B h k1 := fun a ha => ⟨f1a a (by omega), (f1b a).1, (f1b a).2⟩
  have F2 := frB_si (B := B) (a := B + 6) 1 v k1 (by omega) (by omega)
  have F3 := frB_si (B := B) (a := B + 6) 3 (if v < r0 3 then v else r0 3) (si k1 (B + 6) 1 v) (by omega) (by omega)
  have F := (F1.trans F2).trans F3
  have kp : ∀ a, a ≠ B + 6 → gi (si (si k1 (B + 6) 1 v) (B + 6) 3 (if v < r0 3 then v else r0 3)) a = gi h a := fun a ha => by rw [gi_si_na ha, gi_si_na ha, f1a a ha]
  have kr : ∀ a, gr (si (si k1 (B + 6) 1 v) (B + 6) 3 (if v < r0 3 then v else r0 3)) a = gr h a := fun a => (f1b a).2
  obtain ⟨b1, b2, b3, b4⟩ := H.2 k hk
  have lt := b3.lt (show k < 6 by omega)
  have W : WC B l (B + 6) (rowS g2 c) qd qp g2 (si (si k1 (B + 6) 1 v) (B + 6) 3 (if v < r0 3 then v else r0 3)) := by
    refine ⟨hl, (L0.frB F hB).e6 E, by rw [kr]; exact H.1.1, by rw [kp B (by omega)]; exact H.1.2.1, by rw [kp B (by omega)]; exact H.1.2.2.1, fun j hj => ?_⟩
    by_cases j3 : j = 3
    · subst j3; rw [gi_si, r3]
    by_cases j1 : j = 1
    · subst j1; rw [gi_si_nk (by decide), gi_si, r1]
    rw [gi_si_nk j3, gi_si_nk j1, f1c j hj, hr j hj, rk j hj j1 j3]
  obtain ⟨k4, p4, f4, s4, -⟩ := C_weigh (a2 := sa k) W (by omega) (by omega) (by omega)
  have H4 : HU B l qd qp g2 L sa k4 := by
    refine ⟨⟨by rw [f4.2.1, kr]; exact H.1.1, by rw [f4.2.2 B (by omega), kp B (by omega)]; exact H.1.2.1, by rw [f4.2.2 B (by omega), kp B (by omega)]; exact H.1.2.2.1, by rw [f4.2.2 B (by omega), kp B (by omega)]; exact H.1.2.2.2⟩, fun j hj => ?_⟩
    obtain ⟨d1, d2, d3, d4⟩ := H.2 j hj
    have ltj := d3.lt (show j < 6 by omega)
    rw [f4.2.2 (B + 5) (by omega), kp (B + 5) (by omega), f4.2.1, kr]
    refine ⟨d1, d2, d3, ?_⟩
    by_cases e : j = k
    · subst e; rw [ek]; exact s4
    · have ne : L.getD j 0 ≠ c := fun q => e (getD_inj hn hj hk (q.trans ek.symm))
      refine (d4.cg E (o _ (getD_mem hj) ne)).eq (fun i _ => ?_)
      rw [f4.2.2 _ (d3.ne b3 (by omega) (by omega) e), kp _ (by omega)]
  obtain ⟨h', p5, H', S', T, e9'⟩ := C_settle hB hL C2 H4
  have F4 := FrB.ofI (B := B) f4 (by omega) (by omega)
  have F5 := FrB.ofT T (fun j hj => by have := (H.2 j hj).2.2.1.lt (show j < 6 by omega); omega)
  have FF := (F.trans F4).trans F5
  refine ⟨h', ?_, ⟨hB, hl, (L0.frB FF hB).e6 E, H', S', e9', C2, hL⟩, FF⟩
  unfold m_X2_claimInstead
  have a3 : gi (si k1 (B + 6) 1 v) (96 + 2 * c) 3 = r0 3 := by rw [gi_si_ne (by omega), f1a _ (by omega)]; exact hr 3 (by decide)
  rw [p, cb_some, if_pos (nI_pos' (by omega)), p1, cb_some, hb_eq, a3, hb_eq, ck_true _ (inb_nI (by omega) (by decide)), nI_clamp (by omega), kr, b2, ck_true _ (b3.kC (by omega) hB), p4, cb_some, p5, cb_some]
/-- the reference's rows with another sum -/
def xSm (g : Hp) (c adm v : Nat) : Hp := si (si g 6 (10 * c + 1) (nI v)) 6 (10 * c + 3) (nI (min v adm))
theorem xSm_6 (g : Hp) (c adm v j : Nat) : gi (xSm g c adm v) 6 j = if j = 10 * c + 3 then nI (min v adm) else if j = 10 * c + 1 then nI v else gi g 6 j := by
  unfold xSm
  rw [gi_si_if, gi_si_if]
  by_cases h3 : j = 10 * c + 3
  · rw [if_pos ⟨rfl, h3⟩, if_pos h3]
  · rw [if_neg (fun q => h3 q.2), if_neg h3]
    by_cases h1 : j = 10 * c + 1
    · rw [if_pos ⟨rfl, h1⟩, if_pos h1]
    · rw [if_neg (fun q => h1 q.2), if_neg h1]
theorem xSm_o (g : Hp) (c adm v a : Nat) (ha : a ≠ 6) : gi (xSm g c adm v) a = gi g a := by
  unfold xSm
  rw [gi_si_na ha, gi_si_na ha]
theorem xSm_E (g : Hp) (c adm v w : Nat) : E6 (xSm g c adm v) (xSm g c adm w) := fun a h1 h2 => by rw [xSm_o _ _ _ _ _ (by omega), xSm_o _ _ _ _ _ (by omega)]
theorem xSm_k {g : Hp} {c adm v d k : Nat} (hk : k < 10) (h : d ≠ c ∨ (k ≠ 1 ∧ k ≠ 3)) : gi (xSm g c adm v) 6 (10 * d + k) = gi g 6 (10 * d + k) := by
  rw [xSm_6, if_neg (by omega), if_neg (by omega)]
theorem M_sums {c v adm : Nat} (hc : c < 24) (hv : v ≤ 99) (ha : adm ≤ 99) (h : Hp) : m_X9_sums (nI c) (nI v) (nI adm) h = some ((), xSm h c adm v) := by
  unfold m_X9_sums m_X9_sums_L32
  rw [show (10 : Int32) = nI 10 from rfl, show (1 : Int32) = nI 1 from rfl, show (3 : Int32) = nI 3 from rfl, pk_mul, nI_add, nI_add, ck_true _ (inb_nI (by omega) (by decide)), nI_clamp (show 10 * c + 1 < 2 ^ 31 by omega), nI_clamp (show 10 * c + 3 < 2 ^ 31 by omega)]
  simp only [hb_eq]
  rw [ck_true _ (inb_nI (by omega) (by decide)), ck_true _ (inb_nI (by omega) (by decide))]
  unfold xSm
  by_cases q : v ≤ adm
  · rw [if_pos (nI_le q (by omega)), Nat.min_eq_left q]
  · rw [if_neg (nI_ge (by omega) (by omega)), Nat.min_eq_right (by omega)]
theorem eqK_xSm {z : Int32} {g h : Hp} {c adm v : Nat} (w : Nat) (e : EqK z (xSm g c adm v) h) : EqK z (xSm g c adm w) (xSm h c adm w) := by
  refine ⟨⟨fun a j h1 h2 => ?_, fun a => e.1.2 a⟩, by rw [xSm_o _ _ _ _ _ (by decide)]; exact e.2⟩
  by_cases a6 : a = 6
  · subst a6
    rw [xSm_6, xSm_6]
    by_cases j3 : j = 10 * c + 3
    · rw [if_pos j3, if_pos j3]
    rw [if_neg j3, if_neg j3]
    by_cases j1 : j = 10 * c + 1
    · rw [if_pos j1, if_pos j1]
    rw [if_neg j1, if_neg j1, e.i j (by decide) (by decide), xSm_6, if_neg j3, if_neg j1]
  · rw [xSm_o _ _ _ _ _ a6, xSm_o _ _ _ _ _ a6]
    have := e.1.1 a j h1 h2
    rw [xSm_o _ _ _ _ _ a6] at this
    exact this
theorem eqK_xSm0 {z : Int32} {g h : Hp} {c adm : Nat} (w : Nat) (e : EqK z g h) : EqK z (xSm g c adm w) (xSm h c adm w) := by
  refine ⟨⟨fun a j h1 h2 => ?_, fun a => e.1.2 a⟩, by rw [xSm_o _ _ _ _ _ (by decide)]; exact e.2⟩
  by_cases a6 : a = 6
  · subst a6
    rw [xSm_6, xSm_6, e.i j (by decide) (by decide)]
  · rw [xSm_o _ _ _ _ _ a6, xSm_o _ _ _ _ _ a6]
    exact e.1.1 a j h1 h2
theorem EqK.back {z : Int32} {g h : Hp} {c adm n : Nat} (h1 : gi g 6 (10 * c + 1) = nI n) (h3 : gi g 6 (10 * c + 3) = nI adm) (ha : adm ≤ n) (e : EqK z (xSm g c adm n) h) : EqM g h := by
  refine ⟨fun a j q1 q2 => ?_, fun a => e.1.2 a⟩
  rw [e.1.1 a j q1 q2]
  by_cases a6 : a = 6
  · subst a6
    rw [xSm_6]
    by_cases j3 : j = 10 * c + 3
    · rw [if_pos j3, j3, h3, Nat.min_eq_right ha]
    rw [if_neg j3]
    by_cases j1 : j = 10 * c + 1
    · rw [if_pos j1, j1, h1]
    rw [if_neg j1]
  · rw [xSm_o _ _ _ _ _ a6]
theorem goM_xSm {ns nc nl c adm v : Nat} {g : Hp} (G : GoM ns nc nl g) (hc : c < nc) (v1 : 1 ≤ v) (v2 : v ≤ 99) : GoM ns nc nl (xSm g c adm v) := by
  obtain ⟨a1, a2, a3, a4, a5, a6, a7⟩ := G
  have o := fun a (ha : a ≠ 6) => xSm_o g c adm v a ha
  refine ⟨by rw [o 1 (by decide)]; exact a1, by rw [o 1 (by decide)]; exact a2, fun s hs => by rw [o 3 (by decide), o 4 (by decide), o 5 (by decide)]; exact a3 s hs, fun d hd => ?_, fun x => ?_, a6, fun l hl => ?_⟩
  · obtain ⟨s0, x, n, w, r3, r1, r9, z1, z2, z3, z4⟩ := a4 d hd
    by_cases e : d = c
    · subst e
      refine ⟨?_, min v adm, v, w, ?_, ?_, ?_, Nat.min_le_left _ _, v1, v2, z4⟩
      · show ∃ s, s < ns ∧ gi (xSm g d adm v) 6 (10 * d + 0) = nI s
        rw [xSm_k (by decide) (Or.inr ⟨by decide, by decide⟩)]; exact s0
      · show gi (xSm g d adm v) 6 (10 * d + 3) = _
        rw [xSm_6, if_pos rfl]
      · show gi (xSm g d adm v) 6 (10 * d + 1) = _
        rw [xSm_6, if_neg (by omega), if_pos rfl]
      · show gi (xSm g d adm v) 6 (10 * d + 9) = _
        rw [xSm_k (by decide) (Or.inr ⟨by decide, by decide⟩)]; exact r9
    · exact (a4 d hd).congr (fun k hk => xSm_k hk (Or.inl e))
  · rw [cntR_congr (g := gi g 6) nc (fun d _ => xSm_k (k := 0) (by decide) (Or.inr ⟨by decide, by decide⟩))]
    exact a5 x
  · obtain ⟨hC, L⟩ := a7 l hl
    exact ⟨hC, L.e6 (fun a h1 h2 => o a (by omega))⟩
theorem cls_xSm {g : Hp} {x qd qp : Int32} {L : List Nat} (c adm v : Nat) (C : Cls g x qd qp L) : Cls (xSm g c adm v) x qd qp L := by
  obtain ⟨e, C⟩ := C
  have o := fun a (ha : a ≠ 6) => xSm_o g c adm v a ha
  have z : ∀ d, gi (xSm g c adm v) 6 (10 * d) = gi g 6 (10 * d) := fun d => xSm_k (k := 0) (by decide) (Or.inr ⟨by decide, by decide⟩)
  refine ⟨?_, fun k hk => ?_⟩
  · rw [e]
    unfold LsS
    rw [o 1 (by decide), clF_congr _ _ (fun d _ _ => z d)]
  · obtain ⟨c1, c2, c3⟩ := C k hk
    refine ⟨by rw [z]; exact c1, ?_, ?_⟩
    · unfold qD at *; rw [z, o 2 (by decide), o 4 (by decide)]; exact c2
    · unfold qP at *; rw [z, o 2 (by decide), o 3 (by decide)]; exact c3
theorem C_sum {B l c adm v : Nat} {x qd qp : Int32} {g g1 h : Hp} {L : List Nat} {sa : Nat → Nat} (R : Hrd B l x qd qp g1 L sa h) (hg : g1 = g ∨ ∃ w, g1 = xSm g c adm w) (C0 : Cls g x qd qp L) (hc : c ∈ L) (hn : L.Nodup) (n24 : ∀ d ∈ L, d < 24) (v99 : v ≤ 99) (ha : adm ≤ 99) (hr : ∀ k, k < 10 → gi h (96 + 2 * c) k = rowS g c k) (r3 : rowS g c 3 = nI adm) : ∃ h', m_X2_claimInstead B (nI c) (96 + 2 * c) (nI v) h = some ((), h') ∧ Hrd B l x qd qp (xSm g c adm v) L sa h' ∧ FrB B h h' := by
  have E : E6 g1 (xSm g c adm v) := by
    rcases hg with rfl | ⟨w, rfl⟩
    · exact fun a h1 h2 => xSm_o _ _ _ _ _ (by omega)
    · exact xSm_E _ _ _ _ _
  refine C_instead (r0 := rowS g c) R hn hc n24 E (fun d hd ne k hk => ?_) (cls_xSm c adm v C0) hr ?_ ?_ (fun k hk k1 k3 => ?_)
  · rcases hg with rfl | ⟨w, rfl⟩
    · exact xSm_k hk (Or.inl ne)
    · exact (xSm_k hk (Or.inl ne)).trans (xSm_k hk (Or.inl ne)).symm
  · show gi (xSm g c adm v) 6 (10 * c + 1) = _
    rw [xSm_6, if_neg (by omega), if_pos rfl]
  · show gi (xSm g c adm v) 6 (10 * c + 3) = _
    rw [xSm_6, if_pos rfl, r3]
    by_cases q : v < adm
    · rw [if_pos (nI_lt q (by omega)), Nat.min_eq_left (by omega)]
    · rw [if_neg (fun z => q ((by
        rw [Int32.lt_iff_toInt_lt, nI_toInt (by omega), nI_toInt (by omega)] at z; omega))), Nat.min_eq_right (by omega)]
  · exact xSm_k hk (Or.inr ⟨k1, k3⟩)
