/-! ===== the start ===== -/
def flT : List Cond := flatC (Jvm.Cond.and given_1 narrow_1)
def tmS (i : Nat) : Term := Term.string RX4 (sIx i)
set_option maxRecDepth 100000 in
theorem fl_ex : ∀ i : Nat, i < 12 → Cond.exactly (tmS i) "java/lang/String" ∈ flT := by decide +kernel
set_option maxRecDepth 100000 in
theorem fl_co : ∀ i : Nat, i < 12 → Cond.eq (.field (tmS i) "java/lang/String" "coder" "B") (.int 0) ∈ flT := by decide +kernel
set_option maxRecDepth 100000 in
theorem fl_ar : ∀ i : Nat, i < 12 → Cond.arrayOf (.field (tmS i) "java/lang/String" "value" "[B") .byte ∈ flT := by decide +kernel
set_option maxRecDepth 100000 in
theorem fl_le : ∀ i : Nat, i < 12 → Cond.eq (.length (.field (tmS i) "java/lang/String" "value" "[B")) (.int (Int32.ofNat (sLen.getD i 0))) ∈ flT := by decide +kernel
set_option maxRecDepth 100000 in
theorem fl_el : ∀ i : Nat, i < 12 → ∀ j : Nat, j < sLen.getD i 0 → Cond.eq (.elem (.field (tmS i) "java/lang/String" "value" "[B") (.int (Int32.ofNat j))) (.int ((sByt.getD i []).getD j 0)) ∈ flT := by decide +kernel
def neT : List (List Nat) := [[0, 109, 118, 127, 138, 150, 163, 177, 193, 211, 234, 251], [109, 0, 119, 128, 139, 151, 164, 178, 194, 212, 235, 252], [118, 119, 0, 129, 140, 152, 165, 179, 195, 213, 236, 253], [127, 128, 129, 0, 141, 153, 166, 180, 196, 214, 237, 254], [138, 139, 140, 141, 0, 154, 167, 181, 197, 215, 238, 255], [150, 151, 152, 153, 154, 0, 168, 182, 198, 216, 239, 256], [163, 164, 165, 166, 167, 168, 0, 183, 199, 217, 240, 257], [177, 178, 179, 180, 181, 182, 183, 0, 200, 218, 241, 258], [193, 194, 195, 196, 197, 198, 199, 200, 0, 219, 242, 259], [211, 212, 213, 214, 215, 216, 217, 218, 219, 0, 243, 260], [234, 235, 236, 237, 238, 239, 240, 241, 242, 243, 0, 261], [251, 252, 253, 254, 255, 256, 257, 258, 259, 260, 261, 0]]
def neI (i j : Nat) : Nat := (neT.getD i []).getD j 0
set_option maxRecDepth 100000 in
theorem fl_ne0 : ∀ i : Nat, i < 12 → ∀ j : Nat, j < 12 → i ≠ j → (flT[neI i j]? = some (Cond.not (Cond.eq (tmS i) (tmS j))) ∨ flT[neI i j]? = some (Cond.not (Cond.eq (tmS j) (tmS i)))) := by decide +kernel
theorem fl_ne : ∀ i : Nat, i < 12 → ∀ j : Nat, j < 12 → i ≠ j → (Cond.not (Cond.eq (tmS i) (tmS j)) ∈ flT ∨ Cond.not (Cond.eq (tmS j) (tmS i)) ∈ flT) := by
  intro i hi j hj hij
  rcases fl_ne0 i hi j hj hij with h | h
  · exact Or.inl (List.mem_of_getElem? h)
  · exact Or.inr (List.mem_of_getElem? h)
set_option maxRecDepth 100000 in
theorem fl_bd : ∀ j : Nat, j < 21 → Cond.eq (.elem (.static "WhoMustSwear$Deeds" "BODIES" "[I") (.int (Int32.ofNat j))) (.int (bodT j)) ∈ flT := by decide +kernel
set_option maxRecDepth 100000 in
theorem fl_ab : ∀ j : Nat, j < 7 → Cond.eq (.elem (.static "WhoMustSwear" "ABOVE" "[I") (.int (Int32.ofNat j))) (.int (abvT j)) ∈ flT := by decide +kernel
set_option maxRecDepth 100000 in
theorem fl_one : Cond.eq (.static "java/lang/String" "COMPACT_STRINGS" "Z") (.int 1) ∈ flT ∧ Cond.isRef (.static "jdk/internal/util/Preconditions" "SIOOBE_FORMATTER" "Ljava/util/function/BiFunction;") ∈ flT ∧ Cond.arrayOf (.static "WhoMustSwear$Deeds" "BODIES" "[I") .int ∈ flT ∧ Cond.eq (.length (.static "WhoMustSwear$Deeds" "BODIES" "[I")) (.int 21) ∈ flT ∧ Cond.arrayOf (.static "WhoMustSwear" "ABOVE" "[I") .int ∈ flT ∧ Cond.eq (.length (.static "WhoMustSwear" "ABOVE" "[I")) (.int 7) ∈ flT := by decide +kernel
set_option maxRecDepth 100000 in
theorem tb_str : ∀ i : Nat, i < 12 → Cond.stringRef RX4 (sIx i) (sTx i) ∈ lw_tbl := by decide +kernel
set_option maxRecDepth 100000 in
theorem tb_ao : ∀ j : Nat, j < 5 → Cond.arrayOver (.object (cN (acl j))) ∈ lw_tbl := by decide +kernel
set_option maxRecDepth 100000 in
theorem tb_in : ∀ c : Nat, c < 10 → Cond.instantiable (cN c) (cK c) ∈ lw_tbl := by decide +kernel
set_option maxRecDepth 100000 in
theorem tb_ac : ∀ t : Nat, t < 3 → Cond.arrayClass (aty t) ∈ lw_tbl := by decide +kernel
set_option maxRecDepth 100000 in
theorem tb_one : Cond.laysStatic "java/lang/String" "COMPACT_STRINGS" "Z" ∈ lw_tbl ∧ Cond.initialized "java/lang/String" ∈ lw_tbl ∧ Cond.laysStatic "jdk/internal/util/Preconditions" "SIOOBE_FORMATTER" "Ljava/util/function/BiFunction;" ∈ lw_tbl ∧ Cond.initialized "jdk/internal/util/Preconditions" ∈ lw_tbl ∧ Cond.laysStatic "WhoMustSwear$Deeds" "BODIES" "[I" ∈ lw_tbl ∧ Cond.initialized "WhoMustSwear$Deeds" ∈ lw_tbl ∧ Cond.laysStatic "WhoMustSwear" "ABOVE" "[I" ∈ lw_tbl ∧ Cond.initialized "WhoMustSwear" ∈ lw_tbl ∧ Cond.fieldLinkNest RX1 36 RX8 "ABOVE" "[I" "WhoMustSwear" ∈ lw_tbl := by decide +kernel
