/-! ===== what the makings come to ===== -/
def h00 : Hp := (fun _ _ => 0, fun _ _ => 0, fun _ _ => 0)
def ckS (h : Hp) (S : Nat → Nat → Option Nat) (N K : Nat) : Bool := (List.range N).all fun a => (List.range K).all fun k => match S a k with | none => true | some r => gr h a k == r
def ckI (h : Hp) (l : List (Nat × (Nat × Int32))) : Bool := l.all fun q => gi h q.1 q.2.1 == q.2.2
def iniI_C : List (Nat × (Nat × Int32)) := [(1, 11, 0), (1, 12, 0), (1, 13, 0), (1, 14, 0), (1, 15, 0), (9, 1, 0), (9, 2, 0), (89, 3, 0), (2, 0, 0), (2, 1, 0), (2, 2, 0), (2, 3, 0), (2, 4, 0), (2, 5, 0), (2, 6, 0), (2, 7, 0), (180, 1, -1), (182, 1, -1), (184, 1, -1), (186, 1, -1), (188, 1, -1), (190, 1, -1), (180, 2, 0), (182, 2, 0), (184, 2, 0), (186, 2, 0), (188, 2, 0), (190, 2, 0)]
set_option maxRecDepth 100000 in
theorem iniC_ok : (match m_X8_init 1 1 (zr h00 1) with | some q => (q.1 == 191) && (ckS q.2 SC 192 24 && ckI q.2 iniI_C) | none => false) = true := by decide +kernel
set_option maxRecDepth 100000 in
theorem iniM_ok : (match m_X9_init 1 1 (zr h00 1) with | some q => (q.1 == 29) && ckS q.2 SM 30 43 | none => false) = true := by decide +kernel
