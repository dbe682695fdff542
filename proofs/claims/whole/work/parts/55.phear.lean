/-! ===== pure: the claims of a suit ===== -/
def clF (g : Hp) (x : Int32) : Nat → Nat → List Nat
  | 0, _ => []
  | n + 1, c => if gi g 6 (10 * c) = x then c :: clF g x n (c + 1) else clF g x n (c + 1)
theorem clF_t {g : Hp} {x : Int32} {n c : Nat} (h : gi g 6 (10 * c) = x) : clF g x (n + 1) c = c :: clF g x n (c + 1) := by
  conv => lhs; unfold clF
  rw [if_pos h]
theorem clF_f {g : Hp} {x : Int32} {n c : Nat} (h : ¬ gi g 6 (10 * c) = x) : clF g x (n + 1) c = clF g x n (c + 1) := by
  conv => lhs; unfold clF
  rw [if_neg h]
def LsS (g : Hp) (x : Int32) : List Nat := clF g x (gi g 1 1).toNatClampNeg 0
theorem clF_mem {g : Hp} {x : Int32} {d : Nat} : ∀ n c, d ∈ clF g x n c ↔ c ≤ d ∧ d < c + n ∧ gi g 6 (10 * d) = x
  | 0, c => by simp [clF]; omega
  | n + 1, c => by
    by_cases h : gi g 6 (10 * c) = x
    · rw [clF_t h, List.mem_cons, clF_mem n (c + 1)]
      constructor
      · rintro (rfl | ⟨h1, h2, h3⟩)
        · exact ⟨Nat.le_refl _, by omega, h⟩
        · exact ⟨by omega, by omega, h3⟩
      · rintro ⟨h1, h2, h3⟩
        by_cases e : d = c
        · exact Or.inl e
        · exact Or.inr ⟨by omega, by omega, h3⟩
    · rw [clF_f h, clF_mem n (c + 1)]
      constructor
      · rintro ⟨h1, h2, h3⟩
        exact ⟨by omega, by omega, h3⟩
      · rintro ⟨h1, h2, h3⟩
        have e : d ≠ c := fun e => h (e ▸ h3)
        exact ⟨by omega, by omega, h3⟩
theorem clF_len {g : Hp} {x : Int32} : ∀ n c, (clF g x n c).length + cntR (gi g 6) x c = cntR (gi g 6) x (c + n)
  | 0, c => by simp [clF]
  | n + 1, c => by
    have ih := clF_len n (c + 1) (g := g) (x := x)
    rw [show c + (n + 1) = c + 1 + n by omega, ← ih]
    by_cases h : gi g 6 (10 * c) = x
    · rw [clF_t h, List.length_cons]
      simp only [cntR, if_pos h]; omega
    · rw [clF_f h]
      simp only [cntR, if_neg h]; omega
theorem clF_app {g : Hp} {x : Int32} : ∀ n m c, clF g x (n + m) c = clF g x n c ++ clF g x m (c + n)
  | 0, m, c => by simp [clF]
  | n + 1, m, c => by
    rw [show n + 1 + m = (n + m) + 1 by omega, show c + (n + 1) = c + 1 + n by omega]
    by_cases h : gi g 6 (10 * c) = x
    · rw [clF_t h, clF_t h, clF_app n m (c + 1)]; rfl
    · rw [clF_f h, clF_f h, clF_app n m (c + 1)]
theorem clF_congr {g g' : Hp} {x : Int32} : ∀ n c, (∀ d, c ≤ d → d < c + n → gi g' 6 (10 * d) = gi g 6 (10 * d)) → clF g' x n c = clF g x n c
  | 0, c, _ => rfl
  | n + 1, c, e => by
    have ih := clF_congr (g := g) (g' := g') (x := x) n (c + 1) (fun d h1 h2 => e d (by omega) (by omega))
    by_cases h : gi g 6 (10 * c) = x
    · rw [clF_t h, clF_t (by rw [e c (by omega) (by omega)]; exact h), ih]
    · rw [clF_f h, clF_f (by rw [e c (by omega) (by omega)]; exact h), ih]
theorem clF_nodup {g : Hp} {x : Int32} : ∀ n c, (clF g x n c).Nodup
  | 0, c => by simp [clF]
  | n + 1, c => by
    by_cases h : gi g 6 (10 * c) = x
    · rw [clF_t h, List.nodup_cons]
      refine ⟨fun q => ?_, clF_nodup n (c + 1)⟩
      rw [clF_mem] at q; omega
    · rw [clF_f h]; exact clF_nodup n (c + 1)
theorem dropc {L : List Nat} {k : Nat} (h : k < L.length) : L.drop k = L.getD k 0 :: L.drop (k + 1) := by
  rw [List.drop_eq_getElem_cons h, List.getD_eq_getElem?_getD, List.getElem?_eq_getElem h]; rfl
theorem getD_mem {L : List Nat} {k : Nat} (h : k < L.length) : L.getD k 0 ∈ L := by
  rw [List.getD_eq_getElem?_getD, List.getElem?_eq_getElem h]
  exact List.getElem_mem h
theorem getD_app1 {L M : List Nat} {k : Nat} (h : k < L.length) : (L ++ M).getD k 0 = L.getD k 0 := by
  rw [List.getD_eq_getElem?_getD, List.getD_eq_getElem?_getD, List.getElem?_append_left h]
theorem getD_app2 {L : List Nat} {c : Nat} : (L ++ [c]).getD L.length 0 = c := by
  rw [List.getD_eq_getElem?_getD, List.getElem?_append_right (Nat.le_refl _)]; simp
theorem getD_inj : ∀ {L : List Nat}, L.Nodup → ∀ {j k : Nat}, j < L.length → k < L.length → L.getD j 0 = L.getD k 0 → j = k
  | [], _, j, _, hj, _, _ => absurd hj (Nat.not_lt_zero _)
  | a :: L, hn, 0, 0, _, _, _ => rfl
  | a :: L, hn, 0, k + 1, _, hk, e => by
    rw [List.nodup_cons] at hn
    have m := getD_mem (L := L) (k := k) (by simpa using hk)
    simp only [List.getD_cons_zero, List.getD_cons_succ] at e
    rw [← e] at m
    exact absurd m hn.1
  | a :: L, hn, j + 1, 0, hj, _, e => by
    rw [List.nodup_cons] at hn
    have m := getD_mem (L := L) (k := j) (by simpa using hj)
    simp only [List.getD_cons_zero, List.getD_cons_succ] at e
    rw [e] at m
    exact absurd m hn.1
  | a :: L, hn, j + 1, k + 1, hj, hk, e => by
    rw [List.nodup_cons] at hn
    simp only [List.getD_cons_succ] at e
    rw [getD_inj hn.2 (by simpa using hj) (by simpa using hk) e]
theorem mem_getD {L : List Nat} {c : Nat} (h : c ∈ L) : ∃ k, k < L.length ∧ L.getD k 0 = c := by
  obtain ⟨k, hk, e⟩ := List.mem_iff_getElem.mp h
  exact ⟨k, hk, by rw [List.getD_eq_getElem?_getD, List.getElem?_eq_getElem hk]; exact e⟩
theorem fiB_find {g : Hp} {x : Int32} {P : Nat → Bool} : ∀ n c, fiB (fun c => decide (gi g 6 (10 * c) = x) && P c) n c = (clF g x n c).find? P
  | 0, c => rfl
  | n + 1, c => by
    have ih := fiB_find (g := g) (x := x) (P := P) n (c + 1)
    by_cases h : gi g 6 (10 * c) = x
    · rw [clF_t h, List.find?_cons]
      have e : (fun c => decide (gi g 6 (10 * c) = x) && P c) c = P c := by simp only [h, decide_true, Bool.true_and]
      cases hp : P c
      · rw [fiB_f (e.trans hp)]; exact ih
      · rw [fiB_t (e.trans hp)]
    · rw [clF_f h, fiB_f (by simp only [h, decide_false, Bool.false_and])]; exact ih
theorem find_fiB {L : List Nat} {P : Nat → Bool} : ∀ n i, i + n = L.length → (L.drop i).find? P = (fiB (fun k => P (L.getD k 0)) n i).map (fun k => L.getD k 0)
  | 0, i, h => by rw [List.drop_eq_nil_of_le (by omega)]; rfl
  | n + 1, i, h => by
    rw [dropc (by omega), List.find?_cons]
    have ih := find_fiB (L := L) (P := P) n (i + 1) (by omega)
    cases hp : P (L.getD i 0)
    · rw [fiB_f (p := fun k => P (L.getD k 0)) hp]; exact ih
    · rw [fiB_t (p := fun k => P (L.getD k 0)) hp]; rfl
theorem ontoS_L (g : Hp) (l : Nat) (x : Int32) : ontoS g l x = (fiB (fun k => ontoB g l (rowS g ((LsS g x).getD k 0)) (qD g ((LsS g x).getD k 0)) (qP g ((LsS g x).getD k 0))) (LsS g x).length 0).map (fun k => (LsS g x).getD k 0) := by
  unfold ontoS
  rw [fiB_find (P := fun c => ontoB g l (rowS g c) (qD g c) (qP g c)), ← find_fiB (L := LsS g x) (P := fun c => ontoB g l (rowS g c) (qD g c) (qP g c)) _ 0 (by omega)]
  rfl
/-! a claim alone, and in its suit -/
theorem due_oath {g : Hp} {l k : Nat} {r : Nat → Int32} {qd qp : Int32} (h : dueS g l r qd qp = some k) : oathS g l r qd qp = some k := by
  unfold dueS at h
  split at h
  · cases h
  · split at h
    · split at h
      · cases h
      · split at h
        · cases h
        · exact h
    · cases h
theorem alone_due {g : Hp} {l k : Nat} {r : Nat → Int32} {qd qp : Int32} (h : dueS g l r qd qp = some k) : aloneS g l r qd qp = 3 := by
  have h' := h
  unfold dueS at h
  unfold aloneS
  split at h
  · cases h
  · rename_i h0
    rw [if_neg h0]
    split at h
    · split at h
      · cases h
      · rename_i h1
        rw [if_neg h1]
        split at h
        · cases h
        · rename_i h2
          rw [if_neg h2, h']
    · cases h
theorem alone_not {g : Hp} {l : Nat} {r : Nat → Int32} {qd qp : Int32} (h : dueS g l r qd qp = none) : aloneS g l r qd qp ≠ 3 := by
  unfold aloneS
  rw [h]
  split
  · decide
  · split
    · decide
    · split
      · decide
      · dsimp only
        split <;> decide
theorem comes_alone (g : Hp) (l c : Nat) : comesS g l c = if aloneS g l (rowS g c) (qD g c) (qP g c) = 4 then (match ontoS g l (gi g 6 (10 * c)) with | none => 5 | some _ => 4) else aloneS g l (rowS g c) (qD g c) (qP g c) := by
  unfold comesS aloneS
  by_cases h0 : rowS g c 1 - rowS g c 3 = 0
  · rw [if_pos h0, if_pos h0, if_neg (by decide)]
  rw [if_neg h0, if_neg h0]
  by_cases h1 : someS g l 0 (rowS g c) (qD g c) = true
  · rw [if_pos h1, if_pos h1, if_neg (by decide)]
  rw [if_neg h1, if_neg h1]
  by_cases h2 : someS g l 1 (rowS g c) (qD g c) = true
  · rw [if_pos h2, if_pos h2, if_neg (by decide)]
  rw [if_neg h2, if_neg h2]
  cases dueS g l (rowS g c) (qD g c) (qP g c) with
  | some k => dsimp only; rw [if_neg (by decide)]
  | none =>
    dsimp only
    by_cases h5 : someS g l 5 (rowS g c) (qD g c) = true
    · rw [if_pos h5, if_pos h5, if_pos rfl]; rfl
    · rw [if_neg h5, if_neg h5, if_neg (by decide)]
theorem alone4_due {g : Hp} {l : Nat} {r : Nat → Int32} {qd qp : Int32} (h : aloneS g l r qd qp = 4) : dueS g l r qd qp = none := by
  cases hd : dueS g l r qd qp with
  | none => rfl
  | some k => rw [alone_due hd] at h; exact absurd h (by decide)
theorem alone3_due {g : Hp} {l : Nat} {r : Nat → Int32} {qd qp : Int32} (h : aloneS g l r qd qp = 3) : ∃ k, dueS g l r qd qp = some k := by
  cases hd : dueS g l r qd qp with
  | none => exact absurd h (alone_not hd)
  | some k => exact ⟨k, rfl⟩
def SaOK (B k a : Nat) : Prop := a = B + 7 + 2 * k ∨ ∃ w, w < 5 ∧ k < 4 ∧ a = B + 19 + (5 * k + w)
theorem SaOK.ne {B j k a b : Nat} (h1 : SaOK B j a) (h2 : SaOK B k b) (hj : j < 6) (hk : k < 6) (e : j ≠ k) : a ≠ b := by
  rcases h1 with rfl | ⟨w, w1, w2, rfl⟩ <;> rcases h2 with rfl | ⟨v, v1, v2, rfl⟩ <;> omega
theorem SaOK.lt {B k a : Nat} (h : SaOK B k a) (hk : k < 6) : B + 7 ≤ a ∧ a ≤ B + 38 ∧ ∀ j, j < 6 → a ≠ B + 8 + 2 * j := by
  rcases h with rfl | ⟨w, w1, w2, rfl⟩
  · exact ⟨by omega, by omega, fun j hj => by omega⟩
  · exact ⟨by omega, by omega, fun j hj => by omega⟩
theorem kC5a : ∀ k, k < 6 → kC 5 (11 + 7 + 2 * k) = true ∧ kC 5 (50 + 7 + 2 * k) = true := by decide +kernel
theorem kC5b : ∀ k, k < 20 → kC 5 (11 + 19 + k) = true ∧ kC 5 (50 + 19 + k) = true := by decide +kernel
theorem SaOK.kC {B k a : Nat} (h : SaOK B k a) (hk : k < 6) (hB : B = 11 ∨ B = 50) : kC 5 a = true := by
  rcases h with rfl | ⟨w, w1, w2, rfl⟩
  · rcases hB with rfl | rfl
    · exact (kC5a k hk).1
    · exact (kC5a k hk).2
  · rcases hB with rfl | rfl
    · exact (kC5b _ (by omega)).1
    · exact (kC5b _ (by omega)).2
/-- a hearing: its law, what is known, its claims weighed -/
def HU (B l : Nat) (qd qp : Int32) (g : Hp) (L : List Nat) (sa : Nat → Nat) (h : Hp) : Prop := (gr h B 6 = 144 + 6 * l ∧ gi h B 7 = qp ∧ gi h B 8 = qd ∧ gi h B 10 = nI L.length) ∧ ∀ k, k < L.length → gi h (B + 5) k = nI (L.getD k 0) ∧ gr h (B + 1) k = sa k ∧ SaOK B k (sa k) ∧ StW h (sa k) g l (rowS g (L.getD k 0)) qd qp
theorem StW.eq {h h' : Hp} {a l : Nat} {g : Hp} {r : Nat → Int32} {qd qp : Int32} (s : StW h a g l r qd qp) (e : ∀ k, k < 10 → gi h' a k = gi h a k) : StW h' a g l r qd qp := by
  unfold StW at *
  rw [e 0 (by decide), e 1 (by decide), e 2 (by decide), e 3 (by decide), e 4 (by decide), e 5 (by decide), e 6 (by decide), e 7 (by decide), e 8 (by decide), e 9 (by decide)]
  exact s
/-- nothing that a settling leaves alone was written -/
def FrT (B m : Nat) (sa : Nat → Nat) (h h' : Hp) : Prop := (∀ a, gl h' a = gl h a ∧ gr h' a = gr h a) ∧ (∀ a, a ≠ B → (∀ k, k < m → a ≠ sa k) → gi h' a = gi h a) ∧ (∀ j, j ≠ 9 → gi h' B j = gi h B j) ∧ ∀ k, k < m → ∀ j, j < 10 → gi h' (sa k) j = gi h (sa k) j
theorem FrT.rfl' (B m : Nat) (sa : Nat → Nat) (h : Hp) : FrT B m sa h h := ⟨fun _ => ⟨rfl, rfl⟩, fun _ _ _ => rfl, fun _ _ => rfl, fun _ _ _ _ => rfl⟩
theorem FrT.trans {B m : Nat} {sa : Nat → Nat} {h h' h'' : Hp} (p : FrT B m sa h h') (q : FrT B m sa h' h'') : FrT B m sa h h'' := ⟨fun a => ⟨(q.1 a).1.trans (p.1 a).1, (q.1 a).2.trans (p.1 a).2⟩, fun a h1 h2 => (q.2.1 a h1 h2).trans (p.2.1 a h1 h2), fun j hj => (q.2.2.1 j hj).trans (p.2.2.1 j hj), fun k hk j hj => (q.2.2.2 k hk j hj).trans (p.2.2.2 k hk j hj)⟩
theorem HU.fr {B l : Nat} {qd qp : Int32} {g : Hp} {L : List Nat} {sa : Nat → Nat} {h h' : Hp} (H : HU B l qd qp g L sa h) (f : FrT B L.length sa h h') (hL : L.length ≤ 6) : HU B l qd qp g L sa h' := by
  obtain ⟨⟨a1, a2, a3, a4⟩, b⟩ := H
  refine ⟨⟨by rw [(f.1 B).2]; exact a1, by rw [f.2.2.1 7 (by decide)]; exact a2, by rw [f.2.2.1 8 (by decide)]; exact a3, by rw [f.2.2.1 10 (by decide)]; exact a4⟩, fun k hk => ?_⟩
  obtain ⟨b1, b2, b3, b4⟩ := b k hk
  refine ⟨?_, by rw [(f.1 _).2]; exact b2, b3, b4.eq (f.2.2.2 k hk)⟩
  rw [f.2.1 (B + 5) (by omega) (fun j hj => by
    have := ((b j hj).2.2.1.lt (by omega)).1
    omega)]
  exact b1
theorem si_si (h : Hp) (a k : Nat) (v w : Int32) : si (si h a k v) a k w = si h a k w := by
  unfold si u2
  congr 1
  funext b j
  by_cases q : b = a ∧ j = k
  · simp [q]
  · simp [q]
theorem si_id (h : Hp) (a k : Nat) : si h a k (gi h a k) = h := by
  unfold si u2 gi
  obtain ⟨h1, h2⟩ := h
  congr 1
  funext b j
  by_cases q : b = a ∧ j = k
  · obtain ⟨rfl, rfl⟩ := q; simp
  · simp [q]
theorem FrT.b9 (B m : Nat) (sa : Nat → Nat) (h : Hp) (v : Int32) (hs : ∀ k, k < m → sa k ≠ B) : FrT B m sa h (si h B 9 v) := ⟨fun _ => ⟨rfl, rfl⟩, fun a h1 _ => gi_si_na h1, fun j hj => gi_si_nk hj, fun k hk j _ => gi_si_ne (hs k hk)⟩
theorem C_can {h : Hp} {a l : Nat} {g : Hp} {r : Nat → Int32} {qd qp : Int32} (s : StW h a g l r qd qp) : m_X5_canBeRolledOnto a h = some (bI (ontoB g l r qd qp), h) := by
  obtain ⟨-, -, -, -, -, s5, s6, s7, s8, s9⟩ := s
  unfold m_X5_canBeRolledOnto ontoB
  rw [s5, s7, s8]
  cases hd : dueS g l r qd qp with
  | none => rw [if_neg (alone_not hd)]; rfl
  | some k =>
    rw [if_pos (alone_due hd), due_oath hd]
    show (if gi g 10 (8 * l + k) = 6 then _ else if whoS g l r qd qp (gi g 10 (8 * l + k)) = 0 then _ else _) = _
    by_cases h6 : gi g 10 (8 * l + k) = 6
    · rw [if_pos h6]; simp only [h6, decide_true, Bool.not_true, Bool.false_and]; rfl
    · rw [if_neg h6]
      by_cases h0 : whoS g l r qd qp (gi g 10 (8 * l + k)) = 0
      · rw [if_pos h0]; simp only [h6, h0, decide_true, decide_false, Bool.not_false, Bool.true_and]; rfl
      · rw [if_neg h0]; simp only [h6, h0, decide_false, Bool.not_false, Bool.and_false]; rfl
theorem C_settleWith (a t : Nat) (h : Hp) (ht : t = 0 ∨ kC 5 t = true) : ∃ h', m_X5_settleWith a t h = some ((), h') ∧ FrI a h h' ∧ (∀ k, k < 10 → gi h' a k = gi h a k) ∧ gi h' a 10 = (if gi h a 5 = 4 then (if t = 0 then 5 else 4) else gi h a 5) ∧ (¬ gi h a 5 = 4 → gi h' a 11 = gi h a 6 ∧ gi h' a 12 = gi h a 7 ∧ gi h' a 13 = gi h a 8) ∧ (gi h a 5 = 4 → t ≠ 0 → gi h' a 11 = gi h t 6 ∧ gi h' a 12 = gi h t 7 ∧ gi h' a 13 = gi h a 9) := by
  have q : ∀ (b k : Nat) (v w x y : Int32), k < 10 → gi (si (si (si (si h a 10 v) a 11 w) a 12 x) a 13 y) b k = gi h b k := fun b k v w x y hk => by
    rw [gi_si_nk (by omega), gi_si_nk (by omega), gi_si_nk (by omega), gi_si_nk (by omega)]
  have q2 : ∀ (b k : Nat) (v w x : Int32), k < 10 → gi (si (si (si h a 10 v) a 11 w) a 12 x) b k = gi h b k := fun b k v w x hk => by
    rw [gi_si_nk (by omega), gi_si_nk (by omega), gi_si_nk (by omega)]
  have q3 : ∀ (b k : Nat) (v w : Int32), k < 10 → gi (si (si h a 10 v) a 11 w) b k = gi h b k := fun b k v w hk => by
    rw [gi_si_nk (by omega), gi_si_nk (by omega)]
  have q4 : ∀ (b k : Nat) (v : Int32), k < 10 → gi (si h a 10 v) b k = gi h b k := fun b k v hk => by
    rw [gi_si_nk (by omega)]
  unfold m_X5_settleWith
  simp only [hb_eq]
  rw [q4 a 6 _ (by decide), q3 a 7 _ _ (by decide), q2 a 8 _ _ _ (by decide), q a 5 _ _ _ _ (by decide)]
  have F : FrI a h (si (si (si (si h a 10 (gi h a 5)) a 11 (gi h a 6)) a 12 (gi h a 7)) a 13 (gi h a 8)) := (((frI_one a 10 _ h).trans (frI_one a 11 _ _)).trans (frI_one a 12 _ _)).trans (frI_one a 13 _ _)
  by_cases h4 : gi h a 5 = 4
  · rw [if_pos h4]
    by_cases h0 : t = 0
    · rw [if_pos h0]
      refine ⟨_, rfl, F.trans (frI_one a 10 5 _), fun k hk => ?_, ?_, fun h => absurd h4 h, fun _ h => absurd h0 h⟩
      · rw [gi_si_nk (by omega), q a k _ _ _ _ hk]
      · rw [gi_si, if_pos h4, if_pos h0]
    · rw [if_neg h0, ck_true _ (ht.resolve_left h0)]
      rw [q t 6 _ _ _ _ (by decide), gi_si_nk (show 7 ≠ 11 by decide), q t 7 _ _ _ _ (by decide), gi_si_nk (show 9 ≠ 12 by decide), gi_si_nk (show 9 ≠ 11 by decide), q a 9 _ _ _ _ (by decide)]
      refine ⟨_, rfl, ((F.trans (frI_one a 11 _ _)).trans (frI_one a 12 _ _)).trans (frI_one a 13 _ _), fun k hk => ?_, ?_, fun h => absurd h4 h, fun _ _ => ⟨?_, ?_, ?_⟩⟩
      · rw [gi_si_nk (by omega), gi_si_nk (by omega), gi_si_nk (by omega), q a k _ _ _ _ hk]
      · rw [if_pos h4, if_neg h0]
        rw [gi_si_nk (by decide), gi_si_nk (by decide), gi_si_nk (by decide), gi_si_nk (by decide), gi_si_nk (by decide), gi_si_nk (by decide), gi_si]
        exact h4
      · rw [gi_si_nk (by decide), gi_si_nk (by decide), gi_si]
      · rw [gi_si_nk (by decide), gi_si]
      · rw [gi_si]
  · rw [if_neg h4]
    refine ⟨_, rfl, F, fun k hk => q a k _ _ _ _ hk, ?_, fun _ => ⟨?_, ?_, ?_⟩, fun h => absurd h h4⟩
    · rw [if_neg h4, gi_si_nk (by decide), gi_si_nk (by decide), gi_si_nk (by decide), gi_si]
    · rw [gi_si_nk (by decide), gi_si_nk (by decide), gi_si]
    · rw [gi_si_nk (by decide), gi_si]
    · rw [gi_si]
/-- what a claim comes to in its suit, written down -/
def StS (h : Hp) (a : Nat) (g : Hp) (l c : Nat) : Prop := gi h a 10 = comesS g l c ∧ (comesS g l c = 3 ∨ comesS g l c = 4 → gi h a 11 = kI (okS g l c) ∧ gi h a 12 = kindS g l (okS g l c) ∧ gi h a 13 = wS g l c)
/-- the claims that a hearing has: all of one suit -/
def Cls (g : Hp) (x qd qp : Int32) (L : List Nat) : Prop := L = LsS g x ∧ ∀ k, k < L.length → gi g 6 (10 * L.getD k 0) = x ∧ qD g (L.getD k 0) = qd ∧ qP g (L.getD k 0) = qp
def rOn (g : Hp) (l : Nat) (qd qp : Int32) (L : List Nat) : Option Nat := fiB (fun k => ontoB g l (rowS g (L.getD k 0)) qd qp) L.length 0
theorem fiB_congr {p q : Nat → Bool} : ∀ n i, (∀ k, i ≤ k → k < i + n → p k = q k) → fiB p n i = fiB q n i
  | 0, _, _ => rfl
  | n + 1, i, h => by
    unfold fiB
    rw [h i (by omega) (by omega), fiB_congr n (i + 1) (fun k h1 h2 => h k (by omega) (by omega))]
theorem onto_r {g : Hp} {l : Nat} {x qd qp : Int32} {L : List Nat} (C : Cls g x qd qp L) : ontoS g l x = (rOn g l qd qp L).map (fun k => L.getD k 0) := by
  obtain ⟨rfl, C⟩ := C
  rw [ontoS_L]
  unfold rOn
  congr 1
  exact fiB_congr _ _ (fun k _ hk => by
    obtain ⟨-, e1, e2⟩ := C k (by omega)
    rw [e1, e2])
theorem who0 {g : Hp} {l : Nat} {r : Nat → Int32} {qd qp k : Int32} (h : k ≠ 6) : whoS g l r qd qp k = whoS g l r qd qp 0 := by
  unfold whoS
  rw [if_neg h, if_neg (show ¬ (0 : Int32) = 6 by decide)]
theorem C_settle1 {B l : Nat} {x qd qp : Int32} {g h : Hp} {L : List Nat} {sa : Nat → Nat} {t k : Nat} (hB : B = 11 ∨ B = 50) (hL : L.length ≤ 6) (C : Cls g x qd qp L) (H : HU B l qd qp g L sa h) (ht : t = match rOn g l qd qp L with | none => 0 | some j => sa j) (hk : k < L.length) : ∃ h', m_X5_settleWith (sa k) t h = some ((), h') ∧ FrI (sa k) h h' ∧ (∀ j, j < 10 → gi h' (sa k) j = gi h (sa k) j) ∧ StS h' (sa k) g l (L.getD k 0) := by
  obtain ⟨b1, b2, b3, b4⟩ := H.2 k hk
  obtain ⟨c1, c2, c3⟩ := C.2 k hk
  obtain ⟨s0, s1, s2, s3, s4, s5, s6, s7, s8, s9⟩ := b4
  have hr := onto_r (l := l) C
  have ht' : t = 0 ∨ kC 5 t = true := by
    cases hR : rOn g l qd qp L with
    | none => rw [hR] at ht; exact Or.inl ht
    | some j =>
      rw [hR] at ht
      have := fiB_some _ _ hR
      right; rw [ht]
      exact ((H.2 j (by omega)).2.2.1).kC (by omega) hB
  obtain ⟨h', p, f, q0, q1, q2, q3⟩ := C_settleWith (sa k) t h ht'
  refine ⟨h', p, f, q0, ?_⟩
  rw [s5] at q1 q2 q3
  have ec := comes_alone g l (L.getD k 0)
  rw [c1, c2, c3] at ec
  by_cases h4 : aloneS g l (rowS g (L.getD k 0)) qd qp = 4
  · rw [if_pos h4] at ec q1
    have hn := alone4_due h4
    cases hR : rOn g l qd qp L with
    | none =>
      rw [hR] at hr ht
      have h5 : comesS g l (L.getD k 0) = 5 := by rw [ec, hr]; rfl
      refine ⟨?_, fun e => ?_⟩
      · rw [q1, ht, if_pos rfl, h5]
      · rw [h5] at e; exact absurd e (by decide)
    | some j =>
      rw [hR] at hr ht
      obtain ⟨-, j2, j3⟩ := fiB_some _ _ hR
      have jj := H.2 j (by omega)
      have c0 := C.2 j (by omega)
      have tn : t ≠ 0 := by
        rw [ht]
        show sa j ≠ 0
        have := (jj.2.2.1.lt (by omega)).1
        omega
      have h5 : comesS g l (L.getD k 0) = 4 := by rw [ec, hr]; rfl
      obtain ⟨t6, t7, t9⟩ := q3 h4 tn
      obtain ⟨k', d1, d2, d3⟩ := onto_due j3
      have ok : okS g l (L.getD k 0) = some k' := by
        unfold okS
        rw [c1, c2, c3, hn, hr]
        show dueS g l (rowS g (L.getD j 0)) (qD g (L.getD j 0)) (qP g (L.getD j 0)) = _
        rw [c0.2.1, c0.2.2]; exact d1
      obtain ⟨-, -, -, -, -, -, u6, u7, -, -⟩ := jj.2.2.2
      refine ⟨?_, fun _ => ⟨?_, ?_, ?_⟩⟩
      · rw [q1, if_neg tn, h5]
      · rw [t6, ok, ht, u6, due_oath d1]
      · rw [t7, ok, ht, u7, due_oath d1]
      · rw [t9, s9]
        unfold wS
        rw [ok, c2, c3]
        exact (who0 d2).symm
  · rw [if_neg h4] at ec q1
    obtain ⟨t6, t7, t8⟩ := q2 h4
    refine ⟨q1.trans ec.symm, fun e => ?_⟩
    have h3 : aloneS g l (rowS g (L.getD k 0)) qd qp = 3 := by
      rw [ec] at e
      exact e.resolve_right h4
    obtain ⟨k', hd⟩ := alone3_due h3
    have ok : okS g l (L.getD k 0) = some k' := by
      unfold okS
      rw [c2, c3, hd]
    refine ⟨?_, ?_, ?_⟩
    · rw [t6, s6, due_oath hd, ok]
    · rw [t7, s7, due_oath hd, ok]
    · rw [t8, s8, due_oath hd]
      unfold wS
      rw [ok, c2, c3]
theorem StS.eq {h h' : Hp} {a : Nat} {g : Hp} {l c : Nat} (s : StS h a g l c) (e : gi h' a = gi h a) : StS h' a g l c := by
  unfold StS at *
  rw [e]; exact s
theorem C_settle62 {B l : Nat} {x qd qp : Int32} {g : Hp} {L : List Nat} {sa : Nat → Nat} {t : Nat} (hB : B = 11 ∨ B = 50) (hL : L.length ≤ 6) (C : Cls g x qd qp L) (ht : t = match rOn g l qd qp L with | none => 0 | some j => sa j) : ∀ n k h, k ≤ L.length → L.length - k < n → HU B l qd qp g L sa h → (∀ j, j < k → StS h (sa j) g l (L.getD j 0)) → ∃ h', m_X2_settle_L62 n B t (nI k) h = some ((), h') ∧ HU B l qd qp g L sa h' ∧ (∀ j, j < L.length → StS h' (sa j) g l (L.getD j 0)) ∧ FrT B L.length sa h h' ∧ gi h' B 9 = gi h B 9 := by
  intro n
  induction n with
  | zero => intro k h _ h2; omega
  | succ n ih =>
    intro k h h1 h2 H S
    unfold m_X2_settle_L62
    rw [H.1.2.2.2]
    by_cases hk : k = L.length
    · subst hk
      rw [if_pos (nI_le (Nat.le_refl _) (by omega))]
      exact ⟨h, rfl, H, S, FrT.rfl' _ _ _ _, rfl⟩
    · have hk' : k < L.length := by omega
      obtain ⟨b1, b2, b3, b4⟩ := H.2 k hk'
      obtain ⟨h1', p, f, q0, s⟩ := C_settle1 hB hL C H ht hk'
      have lt := b3.lt (by omega)
      have F : FrT B L.length sa h h1' := by
        refine ⟨fun a => ⟨f.1 a, f.2.1 a⟩, fun a _ h2 => f.2.2 a (h2 k hk'), fun j _ => by rw [f.2.2 B (by omega)], fun j hj i hi => ?_⟩
        by_cases e : j = k
        · subst e; exact q0 i hi
        · rw [f.2.2 _ ((H.2 j hj).2.2.1.ne b3 (by omega) (by omega) e)]
      obtain ⟨h', p', H', S', F', e9⟩ := ih (k + 1) h1' (by omega) (by omega) (H.fr F hL) (fun j hj => by
        by_cases e : j = k
        · subst e; exact s
        · exact (S j (by omega)).eq (f.2.2 _ ((H.2 j (by omega)).2.2.1.ne b3 (by omega) (by omega) e)))
      refine ⟨h', ?_, H', S', F.trans F', ?_⟩
      · rw [if_neg (nI_ge (by omega) (by omega)), ck_true _ (inb_nI (by omega) (by decide)), nI_clamp (by omega), b2, ck_true _ (b3.kC (by omega) hB), p, cb_some, vb_eq, nI_1]
        exact p'
      · rw [e9, f.2.2 B (by omega)]
theorem C_settle {B l : Nat} {x qd qp : Int32} {g h : Hp} {L : List Nat} {sa : Nat → Nat} (hB : B = 11 ∨ B = 50) (hL : L.length ≤ 6) (C : Cls g x qd qp L) (H : HU B l qd qp g L sa h) : ∃ h', m_X2_settle B h = some ((), h') ∧ HU B l qd qp g L sa h' ∧ (∀ j, j < L.length → StS h' (sa j) g l (L.getD j 0)) ∧ FrT B L.length sa h h' ∧ gi h' B 9 = kI (rOn g l qd qp L) := by
  have hsB : ∀ k, k < L.length → sa k ≠ B := fun k hk => by
    have := ((H.2 k hk).2.2.1.lt (by omega)).1
    omega
  have key : ∀ j n, j ≤ L.length → j < n → ∃ h', m_X2_settle_L12 n B (nI j - 1) (si h B 9 (kI (fiB (fun k => ontoB g l (rowS g (L.getD k 0)) qd qp) (L.length - j) j))) = some ((), h') ∧ HU B l qd qp g L sa h' ∧ (∀ j, j < L.length → StS h' (sa j) g l (L.getD j 0)) ∧ FrT B L.length sa h h' ∧ gi h' B 9 = kI (rOn g l qd qp L) := by
    intro j
    induction j with
    | zero =>
      intro n _ hn
      obtain ⟨n, rfl⟩ := Nat.exists_eq_succ_of_ne_zero (by omega : n ≠ 0)
      unfold m_X2_settle_L12
      rw [if_pos (by decide), gi_si, Nat.sub_zero, show fiB (fun k => ontoB g l (rowS g (L.getD k 0)) qd qp) L.length 0 = rOn g l qd qp L from rfl]
      have F := FrT.b9 B L.length sa h (kI (rOn g l qd qp L)) hsB
      have t : ∀ t, (t = match rOn g l qd qp L with | none => 0 | some j => sa j) → ∃ h', m_X2_settle_L59 B t (si h B 9 (kI (rOn g l qd qp L))) = some ((), h') ∧ HU B l qd qp g L sa h' ∧ (∀ j, j < L.length → StS h' (sa j) g l (L.getD j 0)) ∧ FrT B L.length sa h h' ∧ gi h' B 9 = kI (rOn g l qd qp L) := by
        intro t ht
        obtain ⟨h', p, a, b, c, d⟩ := C_settle62 hB hL C ht FU 0 _ (by omega) (by unfold FU; omega) (H.fr F hL) (fun j hj => by omega)
        exact ⟨h', p, a, b, F.trans c, d.trans (gi_si _ _ _ _)⟩
      cases hR : rOn g l qd qp L with
      | none =>
        rw [if_neg (by decide)]
        have := t 0 (by rw [hR])
        rw [hR] at this; exact this
      | some i =>
        have hi := fiB_some _ _ hR
        rw [if_pos (show 0 ≤ kI (some i) from nI_pos' (by omega)), show kI (some i) = nI i from rfl, ck_true _ (inb_nI (by omega) (by decide)), nI_clamp (by omega)]
        obtain ⟨-, b2, b3, -⟩ := H.2 i (by omega)
        rw [gr_si, b2, ck_true _ (b3.kC (by omega) hB)]
        have := t (sa i) (by rw [hR])
        rw [hR] at this; exact this
    | succ j ih =>
      intro n h1 hn
      obtain ⟨n, rfl⟩ := Nat.exists_eq_succ_of_ne_zero (by omega : n ≠ 0)
      obtain ⟨-, b2, b3, b4⟩ := H.2 j (by omega)
      unfold m_X2_settle_L12
      have ih' := ih n (by omega) (by omega)
      have e : nI j + (-1) = nI j - 1 := by rw [Int32.sub_eq_add_neg]
      rw [nI_pred, if_neg (nI_pos (by omega)), ck_true _ (inb_nI (by omega) (by decide)), nI_clamp (by omega)]
      simp only [gr_si]
      rw [b2, ck_true _ (b3.kC (by omega) hB), C_can (b4.eq (fun k _ => gi_si_ne (hsB j (by omega)))), cb_some]
      simp only [vb_eq, hb_eq, si_si, e]
      rw [show L.length - j = (L.length - (j + 1)) + 1 by omega] at ih'
      cases hb : ontoB g l (rowS g (L.getD j 0)) qd qp
      · rw [fiB_f (p := fun k => ontoB g l (rowS g (L.getD k 0)) qd qp) hb] at ih'
        rw [if_pos (show bI false = 0 from rfl)]; exact ih'
      · rw [fiB_t (p := fun k => ontoB g l (rowS g (L.getD k 0)) qd qp) hb] at ih'
        rw [if_neg (show ¬ bI true = 0 by decide)]; exact ih'
  have := key L.length FU (Nat.le_refl _) (by unfold FU; omega)
  rw [Nat.sub_self] at this
  unfold m_X2_settle
  rw [hb_eq, vb_eq, gi_si_nk (by decide), H.1.2.2.2]
  exact this
