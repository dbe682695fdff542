theorem pure_main {L : Nat} (hL : L ≤ 384) (xv : Nat → Int32) {hC hM : Hp} (hC2 : ∀ a k r, SC a k = some r → gr hC a k = r) (hC3 : ckI hC iniI_C = true) (hM2 : ∀ a k r, SM a k = some r → gr hM a k = r) (hM3 : ckI hM iniI_M = true) : m_law_L18 L xv FU 0 hC hM = some () := by
  sorry
