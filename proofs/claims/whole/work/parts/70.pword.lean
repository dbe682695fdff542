/-! ===== pure: words and single letters of THE TEXT ===== -/
def hZ : Hp := (fun _ _ => 0, fun _ _ => 0, fun _ _ => 0)
theorem ix_nat : ∀ n a0 a3 c i (h : Hp), m_J1_indexOfChar_4cfef_L7 n a0 a3 c i h = (m_J1_indexOfChar_4cfef_L7 n a0 a3 c i hZ).map (fun q => (q.1, h))
  | 0, _, _, _, _, _ => rfl
  | n + 1, a0, a3, c, i, h => by
    have ih := ix_nat n a0 a3 c (i + 1) h
    unfold m_J1_indexOfChar_4cfef_L7
    by_cases q : a3 ≤ i
    · rw [if_pos q, if_pos q]; rfl
    · rw [if_neg q, if_neg q]
      unfold ck
      by_cases q2 : inb i (sLen.getD a0 0) = true
      · rw [if_pos q2, if_pos q2]
        by_cases q3 : (sByt.getD a0 []).getD i.toNatClampNeg 0 = c
        · rw [if_pos q3, if_pos q3]; rfl
        · rw [if_neg q3, if_neg q3]; exact ih
      · rw [if_neg q2, if_neg q2]; rfl
theorem ixO_nat (a : Nat) (c : Int32) (h : Hp) : m_J0_indexOf_0f7a4 a c h = (m_J0_indexOf_0f7a4 a c hZ).map (fun q => (q.1, h)) := by
  have e : ∀ h, m_J0_indexOf_0f7a4 a c h = cb (m_J1_indexOf_4cfef a c 0 (Int32.ofNat (sLen.getD a 0) >>> ((0 : Int32) &&& 31)) h) fun v h => some (v, h) := fun h => by
    show (cb (cb (m_J1_indexOf_4cfef a c 0 (Int32.ofNat (sLen.getD a 0) >>> ((0 : Int32) &&& 31)) h) fun v8 h9 => some (v8, h9)) fun v1 h2 => some (v1, h2)) = _
    cases m_J1_indexOf_4cfef a c 0 (Int32.ofNat (sLen.getD a 0) >>> ((0 : Int32) &&& 31)) h <;> rfl
  rw [e h, e hZ]
  unfold m_J1_indexOf_4cfef m_J1_canEncode_9a6ad m_J1_indexOfChar_4cfef
  by_cases c1 : c < 0
  · rw [if_pos c1, if_pos c1]; rfl
  rw [if_neg c1, if_neg c1]
  by_cases c2 : 255 < c
  · rw [if_pos c2, if_pos c2]; rfl
  rw [if_neg c2, if_neg c2, cb_some, cb_some, if_neg (show ¬ (1 : Int32) = 0 by decide), if_neg (show ¬ (1 : Int32) = 0 by decide)]
  simp only [vb_eq]
  rw [if_neg (show ¬ (0 : Int32) < 0 by decide)]
  generalize (if Int32.ofNat (sLen.getD a 0) < Int32.ofNat (sLen.getD a 0) >>> ((0 : Int32) &&& 31) then Int32.ofNat (sLen.getD a 0) else Int32.ofNat (sLen.getD a 0) >>> ((0 : Int32) &&& 31)) = z
  by_cases q : 0 < z
  · rw [if_pos q, if_pos q, ix_nat _ _ _ _ _ h]
    cases m_J1_indexOfChar_4cfef_L7 FU a z c.toInt8.toInt32 0 hZ <;> rfl
  · rw [if_neg q, if_neg q]; rfl
def ixV (a : Nat) (b : Nat) : Option Int32 := (m_J0_indexOf_0f7a4 a (((nI b).toUInt32 % 65536).toInt32) hZ).map (fun q => q.1)
def letN (t : Nat) : Int32 := if t = 97 then 0 else if t = 121 then 1 else if t = 111 then 2 else if t = 119 then 3 else if t = 115 then 4 else if t = 117 then 5 else if t = 120 then 6 else if t = 98 then 7 else if t = 104 then 8 else if t = 113 then 9 else -1
def sigN (t : Nat) : Int32 := if t = 60 then 0 else if t = 61 then 1 else if t = 62 then 2 else -1
def kinN (t : Nat) : Int32 := if t = 112 then 0 else if t = 111 then 1 else if t = 103 then 2 else if t = 104 then 3 else if t = 99 then 4 else if t = 116 then 5 else -1
theorem ix10 : ∀ b, b < 256 → ixV 10 b = some (letN (if b < 128 then b else 128)) := by decide +kernel
theorem ix11 : ∀ b, b < 256 → ixV 11 b = some (sigN (if b < 128 then b else 128)) := by decide +kernel
theorem ix9 : ∀ b, b < 256 → ixV 9 b = some (kinN (if b < 128 then b else 128)) := by decide +kernel
theorem C_oneOf {nf p a : Nat} {t : Nat → Nat} {hC hM : Hp} (P : PT nf t p hC hM) (f : Nat → Int32) (hf : ∀ b, b < 256 → ixV a b = some (f (if b < 128 then b else 128))) (f0 : f 128 = -1) : m_X4_readOneOf a hC = some (f (t p), if f (t p) < 0 then hC else si hC 9 2 (nI (p + 1))) := by
  have key : ∀ b, b < 256 → (if p < nf then gi hC 10 p else -1) = nI b → t p = (if b < 128 then b else 128) → m_X4_readOneOf a hC = some (f (t p), if f (t p) < 0 then hC else si hC 9 2 (nI (p + 1))) := by
    intro b hb6 e et
    have hx := hf b hb6
    unfold ixV at hx
    unfold m_X4_readOneOf m_X4_readOneOf_L20
    rw [C_here P, cb_some, e, if_pos (nI_pos' (by omega)), C_here P, cb_some, e, ixO_nat]
    cases hm : m_J0_indexOf_0f7a4 a (((nI b).toUInt32 % 65536).toInt32) hZ with
    | none => rw [hm] at hx; cases hx
    | some q =>
      rw [hm] at hx
      have hq : q.1 = f (t p) := by rw [et]; exact Option.some.inj hx
      show (cb (some (q.1, hC)) fun v6 h7 => if v6 < 0 then some (v6, h7) else hb (si h7 9 2 ((gi h7 9 2) + 1)) fun h2 => some (v6, h2)) = _
      rw [cb_some, hq, hb_eq, P.2.2.2.2.1, nI_1]
      by_cases c : f (t p) < 0
      · rw [if_pos c, if_pos c]
      · rw [if_neg c, if_neg c]
  rcases P.2.2.2.2.2.2 p with ⟨h1, h2, -⟩ | ⟨h1, h2, -⟩
  · exact key (t p) (by omega) h2 (by rw [if_pos h1])
  · rcases h2 with h2 | ⟨c, c1, c2, h2⟩
    · unfold m_X4_readOneOf m_X4_readOneOf_L20
      rw [C_here P, cb_some, h2, if_neg (by decide), if_pos (by decide), h1, f0, if_pos (by decide)]
    · exact key c c2 h2 (by rw [if_neg (by omega)]; exact h1)
theorem ite_c {c : Prop} [Decidable c] {v : Int32} {h : Hp} {B B0 : Option (Int32 × Hp)} (hb : B = B0.map (fun q => (q.1, h))) : (if c then some (v, h) else B) = (if c then some (v, hZ) else B0).map (fun q => (q.1, h)) := by
  by_cases q : c
  · rw [if_pos q, if_pos q]; rfl
  · rw [if_neg q, if_neg q]; exact hb
theorem letter_nat (x : Int32) (h : Hp) : m_X9_letter x h = (m_X9_letter x hZ).map (fun q => (q.1, h)) := by
  unfold m_X9_letter
  refine ite_c ?_
  refine ite_c ?_
  refine ite_c ?_
  refine ite_c ?_
  refine ite_c ?_
  refine ite_c ?_
  refine ite_c ?_
  refine ite_c ?_
  refine ite_c ?_
  refine ite_c ?_
  refine ite_c ?_
  refine ite_c ?_
  refine ite_c ?_
  refine ite_c ?_
  refine ite_c ?_
  refine ite_c ?_
  refine ite_c ?_
  refine ite_c ?_
  refine ite_c ?_
  refine ite_c ?_
  refine ite_c ?_
  refine ite_c ?_
  refine ite_c ?_
  refine ite_c ?_
  refine ite_c ?_
  rfl
theorem letter_dec : ∀ t, t < 128 → (m_X9_letter (nI t) hZ).map (fun q => q.1) = some (letN t) := by decide +kernel
theorem letter_neg {x : Int32} (hx : x < 0) (h : Hp) : m_X9_letter x h = some (-1, h) := by
  have n : ∀ k, k < 128 → ¬ x = nI k := fun k hk e => absurd (e ▸ hx) (nI_pos (by omega))
  unfold m_X9_letter
  simp only [show ¬ x = 97 from n 97 (by decide), show ¬ x = 98 from n 98 (by decide), show ¬ x = 99 from n 99 (by decide), show ¬ x = 100 from n 100 (by decide), show ¬ x = 101 from n 101 (by decide), show ¬ x = 102 from n 102 (by decide), show ¬ x = 103 from n 103 (by decide), show ¬ x = 104 from n 104 (by decide), show ¬ x = 105 from n 105 (by decide), show ¬ x = 106 from n 106 (by decide), show ¬ x = 107 from n 107 (by decide), show ¬ x = 108 from n 108 (by decide), show ¬ x = 109 from n 109 (by decide), show ¬ x = 110 from n 110 (by decide), show ¬ x = 111 from n 111 (by decide), show ¬ x = 112 from n 112 (by decide), show ¬ x = 113 from n 113 (by decide), show ¬ x = 114 from n 114 (by decide), show ¬ x = 115 from n 115 (by decide), show ¬ x = 116 from n 116 (by decide), show ¬ x = 117 from n 117 (by decide), show ¬ x = 118 from n 118 (by decide), show ¬ x = 119 from n 119 (by decide), show ¬ x = 120 from n 120 (by decide), show ¬ x = 121 from n 121 (by decide), if_false]
theorem M_let {nf p : Nat} {t : Nat → Nat} {hC hM : Hp} (P : PT nf t p hC hM) (h : Hp) : m_X9_letter (if p < nf then gi hM 7 p else -1) h = some (letN (t p), h) := by
  rcases P.2.2.2.2.2.2 p with ⟨h1, -, h2⟩ | ⟨h1, -, h2⟩
  · rw [h2, letter_nat]
    have := letter_dec _ h1
    cases hm : m_X9_letter (nI (t p)) hZ with
    | none => rw [hm] at this; cases this
    | some q =>
      rw [hm] at this
      have e : q.1 = letN (t p) := Option.some.inj this
      show some (q.1, h) = _
      rw [e]
  · rw [letter_neg h2, h1]; rfl
theorem letN_c : ∀ t, t ≤ 128 → letN t = -1 ∨ ∃ f, f < 10 ∧ letN t = nI f := by
  intro t _
  unfold letN
  repeat' split
  all_goals first | exact Or.inl rfl | exact Or.inr ⟨0, by decide, rfl⟩ | exact Or.inr ⟨1, by decide, rfl⟩ | exact Or.inr ⟨2, by decide, rfl⟩ | exact Or.inr ⟨3, by decide, rfl⟩ | exact Or.inr ⟨4, by decide, rfl⟩ | exact Or.inr ⟨5, by decide, rfl⟩ | exact Or.inr ⟨6, by decide, rfl⟩ | exact Or.inr ⟨7, by decide, rfl⟩ | exact Or.inr ⟨8, by decide, rfl⟩ | exact Or.inr ⟨9, by decide, rfl⟩
theorem M_sig {nf p : Nat} {t : Nat → Nat} {hC hM : Hp} (P : PT nf t p hC hM) (h : Hp) : (sigN (t p) = -1 ∧ m_X9_in (if p < nf then gi hM 7 p else -1) 60 62 h = some (0, h)) ∨ ∃ g, g < 3 ∧ t p = 60 + g ∧ sigN (t p) = nI g ∧ (if p < nf then gi hM 7 p else -1) = nI (60 + g) ∧ m_X9_in (if p < nf then gi hM 7 p else -1) 60 62 h = some (1, h) := by
  have z : (60 : Int32).toInt = 60 := rfl
  have z2 : (62 : Int32).toInt = 62 := rfl
  have z0 : (0 : Int32).toInt = 0 := rfl
  unfold m_X9_in
  rcases P.2.2.2.2.2.2 p with ⟨h1, -, h2⟩ | ⟨h1, -, h2⟩
  · have e := nI_toInt (show t p < 2 ^ 31 by omega)
    rw [h2]
    by_cases q : t p < 60
    · refine Or.inl ⟨?_, by rw [if_pos (by rw [Int32.lt_iff_toInt_lt]; omega)]⟩
      unfold sigN; rw [if_neg (by omega), if_neg (by omega), if_neg (by omega)]
    · by_cases q2 : 62 < t p
      · refine Or.inl ⟨?_, by rw [if_neg (by rw [Int32.lt_iff_toInt_lt]; omega), if_pos (by rw [Int32.lt_iff_toInt_lt]; omega)]⟩
        unfold sigN; rw [if_neg (by omega), if_neg (by omega), if_neg (by omega)]
      · refine Or.inr ⟨t p - 60, by omega, by omega, ?_, by rw [show 60 + (t p - 60) = t p by omega], by rw [if_neg (by rw [Int32.lt_iff_toInt_lt]; omega), if_neg (by rw [Int32.lt_iff_toInt_lt]; omega)]⟩
        rcases (show t p = 60 ∨ t p = 61 ∨ t p = 62 by omega) with e | e | e <;> rw [e] <;> rfl
  · refine Or.inl ⟨by rw [h1]; rfl, by rw [if_pos (by rw [Int32.lt_iff_toInt_lt] at *; omega)]⟩
/-! the nine words -/
def wByt : List (List Nat) := [[102, 114, 101, 101], [98, 105, 110, 100], [111, 97, 116, 104], [98, 97, 114], [108, 111, 115, 101], [98, 111, 116, 104], [111, 118, 101, 114], [114, 111, 108, 108], [108, 101, 97, 115, 116]]
def wch (w k : Nat) : Nat := (wByt.getD w []).getD k 0
def wlen (w : Nat) : Nat := (wByt.getD w []).length
def wco (w : Nat) : Nat := ([215205, 75204, 493192, 2098, 409189, 81544, 514226, 605580, 12748404] : List Nat).getD w 0
theorem cases9 {w : Nat} (h : w < 9) : w = 0 ∨ w = 1 ∨ w = 2 ∨ w = 3 ∨ w = 4 ∨ w = 5 ∨ w = 6 ∨ w = 7 ∨ w = 8 := by omega
theorem wlen_le : ∀ w, w < 9 → 3 ≤ wlen w ∧ wlen w ≤ 5 := by decide
theorem wch_lt : ∀ w, w < 9 → ∀ k, k < wlen w → wch w k < 128 := by decide
theorem C_wordOf {w : Nat} (hw : w < 9) (h : Hp) : m_X4_wordOf (nI w) h = some (w, h) := by
  rcases cases9 hw with rfl | rfl | rfl | rfl | rfl | rfl | rfl | rfl | rfl <;> rfl
theorem wlen_dec : ∀ w, w < 9 → Int32.ofNat (sLen.getD w 0) >>> ((0 : Int32) &&& 31) = nI (wlen w) := by decide +kernel
theorem C_wlen {w : Nat} (hw : w < 9) (h : Hp) : m_J0_length_8abf5 w h = some (nI (wlen w), h) := by
  show some (Int32.ofNat (sLen.getD w 0) >>> ((0 : Int32) &&& 31), h) = _
  rw [wlen_dec w hw]
theorem narC (x : Int32) : narrow .char (.int (x.toUInt32 % 65536).toInt32) = .int (x.toUInt32 % 65536).toInt32 := pk_nc x
theorem wch_dec : ∀ w, w < 9 → ∀ k, k < wlen w → ((((sByt.getD w []).getD (nI k).toNatClampNeg 0) &&& 255).toUInt32 % 65536).toInt32 = nI (wch w k) ∧ sLen.getD w 0 = wlen w := by decide +kernel
theorem C_charAt {w k : Nat} (hw : w < 9) (hk : k < wlen w) (h : Hp) : m_J0_charAt_5068e w (nI k) h = some (nI (wch w k), h) := by
  obtain ⟨e1, e2⟩ := wch_dec w hw k hk
  have l5 := (wlen_le w hw).2
  have c128 := wch_lt w hw k hk
  show (cb (m_J1_charAt_3b067 w (nI k) h) fun v4 h5 => ck (decide (narrow .char (.int v4) = .int v4)) (some (v4, h5))) = _
  unfold m_J1_charAt_3b067 m_J0_checkIndex_df160 m_J3_checkIndex_8e157
  rw [e1, e2, if_neg (nI_pos (by omega)), if_pos (show nI k < Int32.ofNat (wlen w) from nI_lt hk (by omega)), cb_some, cb_some, ck_true _ (inb_nI hk (by omega)), ck_true _ (decide_eq_true (pk_charN (by omega)).1), cb_some, ck_true _ (decide_eq_true (pk_charN (by omega)).1)]
def inW (k c : Nat) : Nat → Nat → Int32 → Int32 → Int32 × Int32
  | 0, _, m, wh => (m, wh)
  | n + 1, w, m, wh => if wlen w ≤ k then inW k c n (w + 1) (m &&& ((1 <<< (nI w &&& 31)) ^^^ (-1))) wh
    else if wch w k = c then (if ((m >>> (nI w &&& 31)) &&& 1) = 1 then (if k + 1 = wlen w then inW k c n (w + 1) m (nI w) else inW k c n (w + 1) m wh) else inW k c n (w + 1) m wh)
    else inW k c n (w + 1) (m &&& ((1 <<< (nI w &&& 31)) ^^^ (-1))) wh
def finW (k6 : Int32 → Int32 → Hp → Option (Int32 × Hp)) (k : Nat) (r : Int32 × Int32) (h : Hp) : Option (Int32 × Hp) := if r.1 = 0 then some (-1, h) else hb (si h 9 2 ((gi h 9 2) + 1)) fun h3 => if r.2 < 0 then vb (nI k + 1) fun v5 => k6 r.1 v5 h3 else some (r.2, h3)
theorem C_inner {nf p k : Nat} {t : Nat → Nat} {hC hM : Hp} (P : PT nf t p hC hM) (k6 : Int32 → Int32 → Hp → Option (Int32 × Hp)) (hk : k < 5) : ∀ n w N m wh, w + n = 9 → n < N → m_X4_readWord_L16 k6 N m (nI k) wh (nI w) hC = finW k6 k (inW k (t p) n w m wh) hC := by
  intro n
  induction n with
  | zero =>
    intro w N m wh h1 h2
    obtain ⟨N, rfl⟩ := Nat.exists_eq_succ_of_ne_zero (by omega : N ≠ 0)
    unfold m_X4_readWord_L16 finW inW
    rw [if_pos (show (9 : Int32) ≤ nI w from nI_le (a := 9) (b := w) (by omega) (by omega))]
  | succ n ih =>
    intro w N m wh h1 h2
    obtain ⟨N, rfl⟩ := Nat.exists_eq_succ_of_ne_zero (by omega : N ≠ 0)
    have hw : w < 9 := by omega
    have wl := wlen_le w hw
    unfold m_X4_readWord_L16 inW m_X4_readWord_L52
    rw [if_neg (show ¬ (9 : Int32) ≤ nI w from nI_ge (a := w) (b := 9) (by omega) (by decide)), C_wordOf hw, cb_some, ck_true _ (decide_eq_true (by omega)), C_wlen hw, cb_some]
    simp only [vb_eq, nI_1]
    have ih' := fun m wh => ih (w + 1) N m wh (by omega) (by omega)
    by_cases hl : wlen w ≤ k
    · rw [if_pos (nI_le hl (by omega)), if_pos hl]; exact ih' _ _
    · rw [if_neg (nI_ge (by omega) (by omega)), if_neg hl, C_charAt hw (by omega), cb_some, C_here P, cb_some]
      have c128 := wch_lt w hw k (by omega)
      have cc := (P.2.2.2.2.2.2 p).a c128
      by_cases hc : wch w k = t p
      · rw [if_pos (show nI (wch w k) = (if p < nf then gi hC 10 p else -1) from (cc.mpr hc.symm).symm), if_pos hc]
        by_cases hb : ((m >>> (nI w &&& 31)) &&& 1) = 1
        · rw [if_pos hb, if_pos hb, C_wlen hw, cb_some]
          by_cases hl2 : k + 1 = wlen w
          · rw [if_pos (show nI (k + 1) = nI (wlen w) by rw [hl2]), if_pos hl2]; exact ih' _ _
          · rw [if_neg (show ¬ nI (k + 1) = nI (wlen w) from fun e => hl2 ((nI_eq (by omega) (by omega)).mp e)), if_neg hl2]; exact ih' _ _
        · rw [if_neg hb, if_neg hb]; exact ih' _ _
      · rw [if_neg (show ¬ nI (wch w k) = (if p < nf then gi hC 10 p else -1) from fun e => hc (cc.mp e.symm).symm), if_neg hc]; exact ih' _ _
/-- which words are alive when k letters of w were read -/
def mkW (w k : Nat) : Int32 := if k = 0 then 511 else if k = 1 then (if w = 1 ∨ w = 3 ∨ w = 5 then 42 else if w = 2 ∨ w = 6 then 68 else if w = 4 ∨ w = 8 then 272 else nI (2 ^ w)) else nI (2 ^ w)
def okW (w k c : Nat) : Bool := inW k c 9 0 (mkW w k) (-1) == (if c = wch w k then (mkW w (k + 1), if k + 1 = wlen w then nI w else -1) else (0, -1))
def firW (c : Nat) : Bool := c == 102 || c == 98 || c == 111 || c == 108 || c == 114
def secW (w c : Nat) : Bool := if w = 1 ∨ w = 3 ∨ w = 5 then (c == 105 || c == 97 || c == 111) else if w = 2 ∨ w = 6 then (c == 97 || c == 118) else if w = 4 ∨ w = 8 then (c == 111 || c == 101) else false
set_option maxRecDepth 100000 in
theorem okW0 : ∀ w, w < 9 → ∀ c, c < 129 → (c = wch w 0 ∨ firW c = false) → okW w 0 c = true := by decide +kernel
set_option maxRecDepth 100000 in
theorem okW1 : ∀ w, w < 9 → ∀ c, c < 129 → (c = wch w 1 ∨ secW w c = false) → okW w 1 c = true := by decide +kernel
set_option maxRecDepth 100000 in
theorem okW2 : ∀ w, w < 9 → ∀ k, k < wlen w → 2 ≤ k → ∀ c, c < 129 → okW w k c = true := by decide +kernel
def tgtW (c0 c1 : Nat) : Nat := if c0 = 98 then (if c1 = 105 then 1 else if c1 = 97 then 3 else 5) else if c0 = 102 then 0 else if c0 = 108 then (if c1 = 101 then 8 else 4) else if c0 = 111 then (if c1 = 118 then 6 else 2) else 7
