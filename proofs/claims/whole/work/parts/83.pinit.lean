/-! ===== pure: how it all begins ===== -/
theorem ckI_at {h : Hp} {l : List (Nat × (Nat × Int32))} (hc : ckI h l = true) {a k : Nat} {v : Int32} (hm : (a, (k, v)) ∈ l) : gi h a k = v :=
  beq_iff_eq.mp (List.all_eq_true.mp hc (a, (k, v)) hm)
def iniX_C (h : Hp) : Bool := ((List.range 20).all fun i => gi h 90 i == 0) && (List.range 6).all fun t => (List.range 60).all fun i => gl h (180 + 2 * t + 1) i == 0
def iniX_M (h : Hp) : Bool := ((List.range 20).all fun i => gi h 25 i == 0) && (List.range 6).all fun t => (List.range 60).all fun i => gl h 28 (60 * t + i) == 0
set_option maxRecDepth 100000 in
theorem iniC_x : (match m_X8_init 1 1 (zr h00 1) with | some q => iniX_C q.2 | none => false) = true := by decide +kernel
set_option maxRecDepth 100000 in
theorem iniM_x : (match m_X9_init 1 1 (zr h00 1) with | some q => iniX_M q.2 | none => false) = true := by decide +kernel
theorem initC2 {n : Nat} {hC : Hp} (e : m_X8_init 1 1 (zr h00 1) = some (n, hC)) : iniX_C hC = true := by
  have h := iniC_x
  rw [e] at h
  exact h
theorem initM2 {n : Nat} {hM : Hp} (e : m_X9_init 1 1 (zr h00 1) = some (n, hM)) : iniX_M hM = true := by
  have h := iniM_x
  rw [e] at h
  exact h
theorem inv_init {hC hM : Hp} (hC2 : ∀ a k r, SC a k = some r → gr hC a k = r) (hC3 : ckI hC iniI_C = true) (hC4 : iniX_C hC = true) (hM3 : ckI hM iniI_M = true) (hM4 : iniX_M hM = true) : InvE hC hM := by
  have c1 := (Bool.and_eq_true _ _).mp hC4
  have m1 := (Bool.and_eq_true _ _).mp hM4
  refine ⟨0, 0, 0, 0, ⟨⟨ckI_at hC3 (by decide +kernel), ckI_at hM3 (by decide +kernel), by decide⟩, ⟨ckI_at hC3 (by decide +kernel), ckI_at hM3 (by decide +kernel), by decide⟩, ⟨ckI_at hC3 (by decide +kernel), ckI_at hM3 (by decide +kernel), by decide⟩, ⟨ckI_at hC3 (by decide +kernel), ckI_at hM3 (by decide +kernel), by decide⟩⟩, fun p hp => ?_, fun s hs => absurd hs (Nat.not_lt_zero s), ⟨fun c hc => absurd hc (Nat.not_lt_zero c), fun x => Nat.zero_le 6⟩, Or.inl ⟨ckI_at hC3 (by decide +kernel), ?_⟩, fun i hi => absurd hi (Nat.not_lt_zero i), fun l hl => absurd hl (Nat.not_lt_zero l), ⟨?_, fun i hi => ?_⟩, fun t ht => ⟨⟨0, by decide, ?_, ?_, fun _ => rfl⟩, ?_, Or.inl ?_, fun i hi => ?_⟩, fun k hk => ⟨?_, ?_⟩⟩
  · have a1 : ∀ p, p < 8 → (2, (p, (0 : Int32))) ∈ iniI_C := by decide +kernel
    have a2 : ∀ p, p < 8 → (2, (p, (0 : Int32))) ∈ iniI_M := by decide +kernel
    exact (ckI_at hC3 (a1 p hp)).trans (ckI_at hM3 (a2 p hp)).symm
  · have a1 : gi hM 1 36 = -1 := ckI_at hM3 (by decide +kernel)
    rw [a1]; decide
  · have a1 : gi hC 89 3 = 0 := ckI_at hC3 (by decide +kernel)
    have a2 : gi hM 1 37 = 0 := ckI_at hM3 (by decide +kernel)
    rw [a1, a2]
  · have a1 : gi hC 90 i = 0 := beq_iff_eq.mp (List.all_eq_true.mp c1.1 i (List.mem_range.mpr hi))
    have a2 : gi hM 25 i = 0 := beq_iff_eq.mp (List.all_eq_true.mp m1.1 i (List.mem_range.mpr hi))
    rw [a1, a2]
  · have a1 : ∀ t, t < 6 → (180 + 2 * t, (2, nI 0)) ∈ iniI_C := by decide +kernel
    exact ckI_at hC3 (a1 t ht)
  · have a1 : ∀ t, t < 6 → (27, (t, nI 0)) ∈ iniI_M := by decide +kernel
    exact ckI_at hM3 (a1 t ht)
  · have a1 : ∀ t, t < 6 → (180 + 2 * t, (1, (-1 : Int32))) ∈ iniI_C := by decide +kernel
    have a2 : ∀ t, t < 6 → (26, (t, (-1 : Int32))) ∈ iniI_M := by decide +kernel
    exact (ckI_at hC3 (a1 t ht)).trans (ckI_at hM3 (a2 t ht)).symm
  · have a2 : ∀ t, t < 6 → (26, (t, (-1 : Int32))) ∈ iniI_M := by decide +kernel
    exact ckI_at hM3 (a2 t ht)
  · have a1 : gl hC (180 + 2 * t + 1) i = 0 := beq_iff_eq.mp (List.all_eq_true.mp (List.all_eq_true.mp c1.2 t (List.mem_range.mpr ht)) i (List.mem_range.mpr hi))
    have a2 : gl hM 28 (60 * t + i) = 0 := beq_iff_eq.mp (List.all_eq_true.mp (List.all_eq_true.mp m1.2 t (List.mem_range.mpr ht)) i (List.mem_range.mpr hi))
    rw [a1, a2]
  · have a1 : ∀ k, k < 24 → SC 5 k = some (96 + 2 * k) := by decide +kernel
    exact hC2 5 k _ (a1 k hk)
  · have a1 : ∀ k, k < 24 → SC 6 k = some (97 + 2 * k) := by decide +kernel
    exact hC2 6 k _ (a1 k hk)
