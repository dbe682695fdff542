/-! ===== pure: rules of the combinators ===== -/
def Ok {α : Type} (x : Option (α × Hp)) (P : α → Hp → Prop) : Prop := ∃ v h, x = some (v, h) ∧ P v h
theorem Ok.ret {α : Type} {v : α} {h : Hp} {P : α → Hp → Prop} (p : P v h) : Ok (some (v, h)) P := ⟨v, h, rfl, p⟩
theorem Ok.cb {α β : Type} {F : Option (α × Hp)} {K : α → Hp → Option (β × Hp)} {P : α → Hp → Prop} {Q : β → Hp → Prop} (h1 : Ok F P) (h2 : ∀ v h, P v h → Ok (K v h) Q) : Ok (cb F K) Q := by
  obtain ⟨v, h, rfl, p⟩ := h1; exact h2 v h p
theorem Ok.mono {α : Type} {x : Option (α × Hp)} {P Q : α → Hp → Prop} (h : Ok x P) (i : ∀ v h, P v h → Q v h) : Ok x Q := by
  obtain ⟨v, k, e, p⟩ := h; exact ⟨v, k, e, i v k p⟩
theorem cb_some {α ρ : Type} (v : α) (h : Hp) (K : α → Hp → Option ρ) : cb (some (v, h)) K = K v h := Eq.trans rfl rfl
theorem hb_eq {ρ : Type} (h : Hp) (K : Hp → Option ρ) : hb h K = K h := Eq.trans rfl rfl
theorem vb_eq {α ρ : Type} (v : α) (K : α → Option ρ) : vb v K = K v := Eq.trans rfl rfl
theorem ck_true {ρ : Type} {b : Bool} (K : Option ρ) (hb : b = true) : ck b K = K := by simp [ck, hb]
theorem if10 {α : Type} (A B : α) : (if (1 : Int32) = 0 then A else B) = B := if_neg (by decide)
theorem if00 {α : Type} (A B : α) : (if (0 : Int32) = 0 then A else B) = A := Eq.trans (if_pos rfl) rfl
theorem FU_8 {k : Nat} (h : k ≤ 1200) : k ≤ FU := h
/-! numbers -/
theorem inb_nI {j N : Nat} (h : j < N) (hN : N ≤ 2 ^ 30) : inb (nI j) N = true := by
  have hj : j < 2 ^ 31 := by omega
  unfold inb
  rw [nI_clamp hj, decide_eq_false (nI_pos hj), decide_eq_false (by omega : ¬ N ≤ j)]; rfl
theorem isb_0 : isb 0 = true := rfl
theorem isb_1 : isb 1 = true := rfl
def bI (b : Bool) : Int32 := if b = true then 1 else 0
theorem bI_t : bI true = 1 := rfl
theorem bI_f : bI false = 0 := rfl
theorem isb_bI (b : Bool) : isb (bI b) = true := by cases b <;> rfl
theorem bI_0 (b : Bool) : bI b = 0 ↔ b = false := by cases b <;> simp [bI]
theorem bI_1 (b : Bool) : bI b = 1 ↔ b = true := by cases b <;> simp [bI]
theorem i_add {a b : Int32} (h1 : -2 ^ 31 ≤ a.toInt + b.toInt) (h2 : a.toInt + b.toInt < 2 ^ 31) : (a + b).toInt = a.toInt + b.toInt := by
  rw [Int32.toInt_add]; exact Int.bmod_eq_of_le (by omega) (by omega)
theorem i_sub {a b : Int32} (h1 : -2 ^ 31 ≤ a.toInt - b.toInt) (h2 : a.toInt - b.toInt < 2 ^ 31) : (a - b).toInt = a.toInt - b.toInt := by
  rw [Int32.toInt_sub]; exact Int.bmod_eq_of_le (by omega) (by omega)
theorem i_neg {a : Int32} (h1 : -2 ^ 31 < a.toInt) : (-a).toInt = -a.toInt := by
  have := Int32.toInt_lt a
  rw [Int32.toInt_neg]; exact Int.bmod_eq_of_le (by omega) (by omega)
theorem i_ext {a b : Int32} (h : a.toInt = b.toInt) : a = b := Int32.toInt_inj.mp h
theorem l_ext {a b : Int64} (h : a.toInt = b.toInt) : a = b := Int64.toInt_inj.mp h
theorem l_add {a b : Int64} (h1 : -2 ^ 63 ≤ a.toInt + b.toInt) (h2 : a.toInt + b.toInt < 2 ^ 63) : (a + b).toInt = a.toInt + b.toInt := by
  rw [Int64.toInt_add]; exact Int.bmod_eq_of_le (by omega) (by omega)
theorem l_sub {a b : Int64} (h1 : -2 ^ 63 ≤ a.toInt - b.toInt) (h2 : a.toInt - b.toInt < 2 ^ 63) : (a - b).toInt = a.toInt - b.toInt := by
  rw [Int64.toInt_sub]; exact Int.bmod_eq_of_le (by omega) (by omega)
theorem l_mul {a b : Int64} (h1 : -2 ^ 63 ≤ a.toInt * b.toInt) (h2 : a.toInt * b.toInt < 2 ^ 63) : (a * b).toInt = a.toInt * b.toInt := by
  rw [Int64.toInt_mul]; exact Int.bmod_eq_of_le (by omega) (by omega)
theorem nI_in_lt {x : Int32} {n : Nat} (h0 : ¬ x < 0) (hn : n < 2 ^ 31) (h : x < nI n) : ∃ j, j < n ∧ x = nI j := by
  rcases pk_ix x hn with q | q | q
  · exact absurd q h0
  · rw [Int32.le_iff_toInt_le] at q; rw [Int32.lt_iff_toInt_lt] at h; omega
  · exact q
/-! heaps -/
theorem gi_si_ne {h : Hp} {a k b j : Nat} {v : Int32} (q : b ≠ a) : gi (si h a k v) b j = gi h b j := u2_ne _ _ (fun e => q e.1)
theorem gi_si_nk {h : Hp} {a k b j : Nat} {v : Int32} (q : j ≠ k) : gi (si h a k v) b j = gi h b j := u2_ne _ _ (fun e => q e.2)
theorem gl_sl_ne {h : Hp} {a k b j : Nat} {v : Int64} (q : b ≠ a) : gl (sl h a k v) b j = gl h b j := u2_ne _ _ (fun e => q e.1)
theorem gl_sl_nk {h : Hp} {a k b j : Nat} {v : Int64} (q : j ≠ k) : gl (sl h a k v) b j = gl h b j := u2_ne _ _ (fun e => q e.2)
theorem gr_sr_ne {h : Hp} {a k b j : Nat} {v : Nat} (q : b ≠ a) : gr (sr h a k v) b j = gr h b j := u2_ne _ _ (fun e => q e.1)
theorem gr_sr_nk {h : Hp} {a k b j : Nat} {v : Nat} (q : j ≠ k) : gr (sr h a k v) b j = gr h b j := u2_ne _ _ (fun e => q e.2)
theorem gi_si_if (h : Hp) (a k b j : Nat) (v : Int32) : gi (si h a k v) b j = if b = a ∧ j = k then v else gi h b j := rfl
theorem gl_sl_if (h : Hp) (a k b j : Nat) (v : Int64) : gl (sl h a k v) b j = if b = a ∧ j = k then v else gl h b j := rfl
theorem gr_sr_if (h : Hp) (a k b j : Nat) (v : Nat) : gr (sr h a k v) b j = if b = a ∧ j = k then v else gr h b j := rfl
theorem gi_sl (h : Hp) (a k b j : Nat) (v : Int64) : gi (sl h a k v) b j = gi h b j := rfl
theorem gi_sr (h : Hp) (a k b j : Nat) (v : Nat) : gi (sr h a k v) b j = gi h b j := rfl
theorem gl_si (h : Hp) (a k b j : Nat) (v : Int32) : gl (si h a k v) b j = gl h b j := rfl
theorem gl_sr (h : Hp) (a k b j : Nat) (v : Nat) : gl (sr h a k v) b j = gl h b j := rfl
theorem gr_si (h : Hp) (a k b j : Nat) (v : Int32) : gr (si h a k v) b j = gr h b j := rfl
theorem gr_sl (h : Hp) (a k b j : Nat) (v : Int64) : gr (sl h a k v) b j = gr h b j := rfl
theorem gi_si_na {h : Hp} {a k b : Nat} {v : Int32} (q : b ≠ a) : gi (si h a k v) b = gi h b := u2_na _ _ q
theorem gl_sl_na {h : Hp} {a k b : Nat} {v : Int64} (q : b ≠ a) : gl (sl h a k v) b = gl h b := u2_na _ _ q
theorem gr_sr_na {h : Hp} {a k b : Nat} {v : Nat} (q : b ≠ a) : gr (sr h a k v) b = gr h b := u2_na _ _ q
theorem gi_slf (h : Hp) (a k b : Nat) (v : Int64) : gi (sl h a k v) b = gi h b := rfl
theorem gi_srf (h : Hp) (a k b : Nat) (v : Nat) : gi (sr h a k v) b = gi h b := rfl
theorem gl_sif (h : Hp) (a k b : Nat) (v : Int32) : gl (si h a k v) b = gl h b := rfl
theorem gl_srf (h : Hp) (a k b : Nat) (v : Nat) : gl (sr h a k v) b = gl h b := rfl
theorem gr_sif (h : Hp) (a k b : Nat) (v : Int32) : gr (si h a k v) b = gr h b := rfl
theorem gr_slf (h : Hp) (a k b : Nat) (v : Int64) : gr (sl h a k v) b = gr h b := rfl
