/-! ===== what the makings come to ===== -/
def h00 : Hp := (fun _ _ => 0, fun _ _ => 0, fun _ _ => 0)
def ckS (h : Hp) (S : Nat → Nat → Option Nat) (N K : Nat) : Bool := (List.range N).all fun a => (List.range K).all fun k => match S a k with | none => true | some r => gr h a k == r
def ckI (h : Hp) (l : List (Nat × (Nat × Int32))) : Bool := l.all fun q => gi h q.1 q.2.1 == q.2.2
def iniI_C : List (Nat × (Nat × Int32)) := [(1, 11, 0), (1, 12, 0), (1, 13, 0), (1, 14, 0), (1, 15, 0), (9, 1, 0), (9, 2, 0), (89, 3, 0), (2, 0, 0), (2, 1, 0), (2, 2, 0), (2, 3, 0), (2, 4, 0), (2, 5, 0), (2, 6, 0), (2, 7, 0), (180, 1, -1), (182, 1, -1), (184, 1, -1), (186, 1, -1), (188, 1, -1), (190, 1, -1), (180, 2, 0), (182, 2, 0), (184, 2, 0), (186, 2, 0), (188, 2, 0), (190, 2, 0)]
def iniI_M : List (Nat × (Nat × Int32)) := [(1, 0, 0), (1, 1, 0), (1, 7, 0), (1, 8, 0), (1, 36, -1), (1, 37, 0), (2, 0, 0), (2, 1, 0), (2, 2, 0), (2, 3, 0), (2, 4, 0), (2, 5, 0), (2, 6, 0), (2, 7, 0), (26, 0, -1), (26, 1, -1), (26, 2, -1), (26, 3, -1), (26, 4, -1), (26, 5, -1), (27, 0, 0), (27, 1, 0), (27, 2, 0), (27, 3, 0), (27, 4, 0), (27, 5, 0)]
set_option maxRecDepth 100000 in
theorem iniC_ok : (match m_X8_init 1 1 (zr h00 1) with | some q => (q.1 == 191) && (ckS q.2 SC 192 24 && ckI q.2 iniI_C) | none => false) = true := by decide +kernel
set_option maxRecDepth 100000 in
theorem iniM_ok : (match m_X9_init 1 1 (zr h00 1) with | some q => (q.1 == 29) && (ckS q.2 SM 30 43 && ckI q.2 iniI_M) | none => false) = true := by decide +kernel
theorem wl_7 : Cond.classLink RL 7 (cN 8) ∈ GW := gw_at 105 (by decide +kernel) (by decide +kernel)
theorem wi_8 : Cond.instantiable (cN 8) (cK 8) ∈ GW := gw_at 106 (by decide +kernel) (by decide +kernel)
theorem wn_8 : Cond.initialized (cN 8) ∈ GW := gw_at 87 (by decide +kernel) (by decide +kernel)
theorem vi_L_9 : VCb RL 9 yX8_init cX8_init 2 none 0 := ⟨gw_at 107 (by decide +kernel) (by decide +kernel), gw_at 109 (by decide +kernel) (by decide +kernel), gw_at 87 (by decide +kernel) (by decide +kernel), by decide +kernel, by decide⟩
theorem wm_8 : Cond.instanceMethod yX8_init ∈ GW := gw_at 108 (by decide +kernel) (by decide +kernel)
theorem wl_10 : Cond.classLink RL 10 (cN 9) ∈ GW := gw_at 1061 (by decide +kernel) (by decide +kernel)
theorem wi_9 : Cond.instantiable (cN 9) (cK 9) ∈ GW := gw_at 1062 (by decide +kernel) (by decide +kernel)
theorem wn_9 : Cond.initialized (cN 9) ∈ GW := gw_at 96 (by decide +kernel) (by decide +kernel)
theorem vi_L_12 : VCb RL 12 yX9_init cX9_init 1 none 0 := ⟨gw_at 1063 (by decide +kernel) (by decide +kernel), gw_at 1065 (by decide +kernel) (by decide +kernel), gw_at 96 (by decide +kernel) (by decide +kernel), by decide +kernel, by decide⟩
theorem wm_9 : Cond.instanceMethod yX9_init ∈ GW := gw_at 1064 (by decide +kernel) (by decide +kernel)
