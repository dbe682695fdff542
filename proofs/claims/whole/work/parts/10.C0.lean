theorem ic_0 : Int32.ofInt 0 = 0 := by decide
theorem bc_8 : (Int8.ofInt 8).toInt32 = 8 := by decide
theorem ic_1 : Int32.ofInt 1 = 1 := by decide
def m_X8_isPerson (a0 : Int32) (h : Hp) : Option (Int32 × Hp) := if a0 < 0 then some (0, h) else if 8 ≤ a0 then some (0, h) else some (1, h)
set_option maxRecDepth 20000 in
set_option maxHeartbeats 4000000 in
theorem s_X8_isPerson (w : WT) {x : CT} {l : Launch} (hx : xl x = l) (hG : Gd x cX8_isPerson 1 RX8) (hE : Ge x (GC w)) (hR : Rm x 1) (hT : Rt x (some .boolean)) (a0 : Int32) (h : Hp) : Sn x 1 (gA (GC w)) (0, 0) (ζM x (GC w) inI) (gW (GC w) h) 0 [(0, .int a0)] [] (m_X8_isPerson a0 h) := by
  unfold m_X8_isPerson
  refine s_iload_n hG dX8_isPerson_0 0 rfl rfl ?_
  refine s_if_lt hG dX8_isPerson_1 (tgt := 14) (by decide) (fun q1 => ?_) (fun q1 => ?_)
  · refine s_iconst hG dX8_isPerson_14 ic_0 ?_
    exact s_zret hG hT (by decide) dX8_isPerson_15
  · refine s_iload_n hG dX8_isPerson_4 0 rfl rfl ?_
    refine s_bipush hG dX8_isPerson_5 bc_8 ?_
    refine s_icmp_ge hG dX8_isPerson_7 (tgt := 14) (by decide) (fun q2 => ?_) (fun q2 => ?_)
    · refine s_iconst hG dX8_isPerson_14 ic_0 ?_
      exact s_zret hG hT (by decide) dX8_isPerson_15
    · refine s_iconst hG dX8_isPerson_10 ic_1 ?_
      refine s_goto (tgt := 15) hG dX8_isPerson_11 (by decide) ?_
      exact s_zret hG hT (by decide) dX8_isPerson_15

theorem c_X8_isPerson (w : WT) (l : Launch) (a0 : Int32) (h : Hp) : ∀ v h', m_X8_isPerson a0 h = some (v, h') → MetM l (GC w) yX8_isPerson cX8_isPerson 1 (some .boolean) 1 [.int a0] h (inI v) h' :=
  met_of (by decide) (lokC w) (Nat.le_of_ble_eq_true rfl) (fun x hx hG hE hR hT => s_X8_isPerson w hx hG hE hR hT a0 h)
theorem kC_1 : LC 1 = (9, 0) := rfl
theorem vs_X8_73 : VS RX8 73 yX8_isPerson cX8_isPerson 1 (some .boolean) 1 := ⟨⟨gw_at 464 (by decide +kernel) (by decide +kernel), gw_at 466 (by decide +kernel) (by decide +kernel), gw_at 87 (by decide +kernel) (by decide +kernel), by decide +kernel, by decide⟩, gw_at 465 (by decide +kernel) (by decide +kernel)⟩
theorem bc_m2 : (Int8.ofInt (-2)).toInt32 = (-2) := by decide
theorem bc_31 : (Int8.ofInt 31).toInt32 = 31 := by decide
theorem fl_X8_11 : FL RX8 11 8 0 := ⟨by decide, by decide, gw_at 411 (by decide +kernel) (by decide +kernel), rfl⟩
theorem fC_8_0 : SC 1 0 = some 2 := rfl
theorem kC_2 : LC 2 = (20, 8) := rfl
theorem ic_m1 : Int32.ofInt (-1) = (-1) := by decide
def m_X8_known (a1 : Int32) (a2 : Int32) (h : Hp) : Option (Int32 × Hp) := cb (m_X8_isPerson a1 h) fun v1 h2 => if v1 = 0 then some ((-1), h2) else if a2 < 0 then some ((-2), h2) else if a2 ≤ 31 then ck (inb a1 8) (vb (gi h2 2 a1.toNatClampNeg) fun v7 => hb (si h2 2 a1.toNatClampNeg a2) fun h8 => some (v7, h8)) else some ((-2), h2)
set_option maxRecDepth 20000 in
set_option maxHeartbeats 4000000 in
theorem s_X8_known (w : WT) {x : CT} {l : Launch} (hx : xl x = l) (hG : Gd x cX8_known 4 RX8) (hE : Ge x (GC w)) (hR : Rm x 2) (hT : Rt x (some .int)) (a1 : Int32) (a2 : Int32) (h : Hp) : Sn x 4 (gA (GC w)) (0, 0) (ζM x (GC w) inI) (gW (GC w) h) 0 [(0, .ref (gB (GC w) + 1)), (1, .int a1), (2, .int a2)] [] (m_X8_known a1 a2 h) := by
  unfold m_X8_known
  refine s_iload_n hG dX8_known_0 1 rfl rfl ?_
  refine s_callS (inj := inI) (As := [.int a1]) (st := []) rfl hG hE dX8_known_1 hR (by decide) vs_X8_73 rfl (Nat.le_of_ble_eq_true rfl) rfl (fun zv zh zq => c_X8_isPerson w (xl x) a1 h zv zh zq) (fun v1 h2 => ?_)
  refine s_if_ne hG dX8_known_4 (tgt := 9) (by decide) (fun q3 => ?_) (fun q3 => ?_)
  · refine s_iconst hG dX8_known_7 ic_m1 ?_
    exact s_iret hG hT dX8_known_8
  · refine s_iload_n hG dX8_known_9 2 rfl rfl ?_
    refine s_if_lt hG dX8_known_10 (tgt := 19) (by decide) (fun q4 => ?_) (fun q4 => ?_)
    · refine s_bipush hG dX8_known_19 bc_m2 ?_
      exact s_iret hG hT dX8_known_21
    · refine s_iload_n hG dX8_known_13 2 rfl rfl ?_
      refine s_bipush hG dX8_known_14 bc_31 ?_
      refine s_icmp_le hG dX8_known_16 (tgt := 22) (by decide) (fun q5 => ?_) (fun q5 => ?_)
      · refine s_aload_n hG dX8_known_22 0 rfl rfl ?_
        refine s_getS hG hE dX8_known_23 fl_X8_11 rfl kC_1 fC_8_0 (nzC kC_2) ?_
        refine s_iload_n hG dX8_known_26 1 rfl rfl ?_
        refine s_ck (fun q6 => ?_)
        refine s_iald hG hE dX8_known_27 kC_2 q6 ?_
        refine s_vI (fun v7 => ?_)
        refine s_istore_n (lv' := [(3, .int v7), (0, .ref (gB (GC w) + 1)), (1, .int a1), (2, .int a2)]) hG dX8_known_28 rfl (by decide) rfl ?_
        refine s_aload_n hG dX8_known_29 1 rfl rfl ?_
        refine s_getS hG hE dX8_known_30 fl_X8_11 rfl kC_1 fC_8_0 (nzC kC_2) ?_
        refine s_iload_n hG dX8_known_33 2 rfl rfl ?_
        refine s_iload_n hG dX8_known_34 3 rfl rfl ?_
        refine s_iast hG hE dX8_known_35 kC_2 q6 (fun h8 => ?_)
        refine s_iload_n hG dX8_known_36 0 rfl rfl ?_
        exact s_iret hG hT dX8_known_37
      · refine s_bipush hG dX8_known_19 bc_m2 ?_
        exact s_iret hG hT dX8_known_21

theorem c_X8_known (w : WT) (l : Launch) (a1 : Int32) (a2 : Int32) (h : Hp) : ∀ v h', m_X8_known a1 a2 h = some (v, h') → MetM l (GC w) yX8_known cX8_known 4 (some .int) 2 [.ref (gB (GC w) + 1), .int a1, .int a2] h (inI v) h' :=
  met_of (by decide) (lokC w) (Nat.le_of_ble_eq_true rfl) (fun x hx hG hE hR hT => s_X8_known w hx hG hE hR hT a1 a2 h)
theorem fl_X8_136 : FL RX8 136 8 13 := ⟨by decide, by decide, gw_at 424 (by decide +kernel) (by decide +kernel), rfl⟩
def m_X8_isLaw (a1 : Int32) (h : Hp) : Option (Int32 × Hp) := if a1 < 0 then some (0, h) else if (gi h 1 13) ≤ a1 then some (0, h) else some (1, h)
set_option maxRecDepth 20000 in
set_option maxHeartbeats 4000000 in
theorem s_X8_isLaw (w : WT) {x : CT} {l : Launch} (hx : xl x = l) (hG : Gd x cX8_isLaw 2 RX8) (hE : Ge x (GC w)) (hR : Rm x 1) (hT : Rt x (some .boolean)) (a1 : Int32) (h : Hp) : Sn x 2 (gA (GC w)) (0, 0) (ζM x (GC w) inI) (gW (GC w) h) 0 [(0, .ref (gB (GC w) + 1)), (1, .int a1)] [] (m_X8_isLaw a1 h) := by
  unfold m_X8_isLaw
  refine s_iload_n hG dX8_isLaw_0 1 rfl rfl ?_
  refine s_if_lt hG dX8_isLaw_1 (tgt := 16) (by decide) (fun q1 => ?_) (fun q1 => ?_)
  · refine s_iconst hG dX8_isLaw_16 ic_0 ?_
    exact s_zret hG hT (by decide) dX8_isLaw_17
  · refine s_iload_n hG dX8_isLaw_4 1 rfl rfl ?_
    refine s_aload_n hG dX8_isLaw_5 0 rfl rfl ?_
    refine s_getI hG hE dX8_isLaw_6 fl_X8_136 rfl kC_1 ?_
    refine s_icmp_ge hG dX8_isLaw_9 (tgt := 16) (by decide) (fun q2 => ?_) (fun q2 => ?_)
    · refine s_iconst hG dX8_isLaw_16 ic_0 ?_
      exact s_zret hG hT (by decide) dX8_isLaw_17
    · refine s_iconst hG dX8_isLaw_12 ic_1 ?_
      refine s_goto (tgt := 17) hG dX8_isLaw_13 (by decide) ?_
      exact s_zret hG hT (by decide) dX8_isLaw_17

theorem c_X8_isLaw (w : WT) (l : Launch) (a1 : Int32) (h : Hp) : ∀ v h', m_X8_isLaw a1 h = some (v, h') → MetM l (GC w) yX8_isLaw cX8_isLaw 2 (some .boolean) 1 [.ref (gB (GC w) + 1), .int a1] h (inI v) h' :=
  met_of (by decide) (lokC w) (Nat.le_of_ble_eq_true rfl) (fun x hx hG hE hR hT => s_X8_isLaw w hx hG hE hR hT a1 h)
theorem vv_X8_77 : VV RX8 77 yX8_isLaw cX8_isLaw 2 (some .boolean) 1 := ⟨⟨gw_at 471 (by decide +kernel) (by decide +kernel), gw_at 474 (by decide +kernel) (by decide +kernel), gw_at 87 (by decide +kernel) (by decide +kernel), by decide +kernel, by decide⟩, gw_at 473 (by decide +kernel) (by decide +kernel), gw_at 0 (by decide +kernel) (by decide +kernel)⟩
theorem fl_X8_80 : FL RX8 80 8 11 := ⟨by decide, by decide, gw_at 422 (by decide +kernel) (by decide +kernel), rfl⟩
theorem ic_5 : Int32.ofInt 5 = 5 := by decide
theorem fl_X8_20 : FL RX8 20 8 2 := ⟨by decide, by decide, gw_at 413 (by decide +kernel) (by decide +kernel), rfl⟩
theorem fC_8_2 : SC 1 2 = some 4 := rfl
theorem kC_4 : LC 4 = (26, 5) := rfl
theorem eC_8_2 {i : Int32} (hi : inb i 5 = true) : SC 4 i.toNatClampNeg = some (91 + 1 * i.toNatClampNeg) ∧ LC (91 + 1 * i.toNatClampNeg) = (7, 0) := by
  have h := inb_lt hi
  generalize i.toNatClampNeg = k at h
  exact (show ∀ k, k < 5 → SC 4 k = some (91 + 1 * k) ∧ LC (91 + 1 * k) = (7, 0) by decide +kernel) k h
theorem fl_X8_84 : FL RX8 84 6 0 := ⟨by decide, by decide, gw_at 329 (by decide +kernel) (by decide +kernel), rfl⟩
theorem fl_X8_87 : FL RX8 87 6 1 := ⟨by decide, by decide, gw_at 330 (by decide +kernel) (by decide +kernel), rfl⟩
theorem fl_X8_90 : FL RX8 90 6 2 := ⟨by decide, by decide, gw_at 331 (by decide +kernel) (by decide +kernel), rfl⟩
theorem bc_m4 : (Int8.ofInt (-4)).toInt32 = (-4) := by decide
def m_X8_suit (a1 : Int32) (a2 : Int32) (a3 : Int32) (h : Hp) : Option (Int32 × Hp) := cb (m_X8_isPerson a1 h) fun v1 h2 => if v1 = 0 then some ((-1), h2) else cb (m_X8_isPerson a2 h2) fun v4 h5 => if v4 = 0 then some ((-1), h5) else cb (m_X8_isLaw a3 h5) fun v7 h8 => if v7 = 0 then some ((-1), h8) else if a1 = a2 then some ((-2), h8) else if (gi h8 1 11) < 5 then ck (inb (gi h8 1 11) 5) (hb (si h8 (91 + 1 * (gi h8 1 11).toNatClampNeg) 0 a1) fun h13 => hb (si h13 (91 + 1 * (gi h8 1 11).toNatClampNeg) 1 a2) fun h14 => hb (si h14 (91 + 1 * (gi h8 1 11).toNatClampNeg) 2 a3) fun h15 => hb (si h15 1 11 ((gi h15 1 11) + 1)) fun h16 => some ((gi h16 1 11) - 1, h16)) else some ((-4), h8)
set_option maxRecDepth 20000 in
set_option maxHeartbeats 4000000 in
theorem s_X8_suit (w : WT) {x : CT} {l : Launch} (hx : xl x = l) (hG : Gd x cX8_suit 5 RX8) (hE : Ge x (GC w)) (hR : Rm x 2) (hT : Rt x (some .int)) (a1 : Int32) (a2 : Int32) (a3 : Int32) (h : Hp) : Sn x 5 (gA (GC w)) (0, 0) (ζM x (GC w) inI) (gW (GC w) h) 0 [(0, .ref (gB (GC w) + 1)), (1, .int a1), (2, .int a2), (3, .int a3)] [] (m_X8_suit a1 a2 a3 h) := by
  unfold m_X8_suit
  refine s_iload_n hG dX8_suit_0 1 rfl rfl ?_
  refine s_callS (inj := inI) (As := [.int a1]) (st := []) rfl hG hE dX8_suit_1 hR (by decide) vs_X8_73 rfl (Nat.le_of_ble_eq_true rfl) rfl (fun zv zh zq => c_X8_isPerson w (xl x) a1 h zv zh zq) (fun v1 h2 => ?_)
  refine s_if_eq hG dX8_suit_4 (tgt := 22) (by decide) (fun q3 => ?_) (fun q3 => ?_)
  · refine s_iconst hG dX8_suit_22 ic_m1 ?_
    exact s_iret hG hT dX8_suit_23
  · refine s_iload_n hG dX8_suit_7 2 rfl rfl ?_
    refine s_callS (inj := inI) (As := [.int a2]) (st := []) rfl hG hE dX8_suit_8 hR (by decide) vs_X8_73 rfl (Nat.le_of_ble_eq_true rfl) rfl (fun zv zh zq => c_X8_isPerson w (xl x) a2 h2 zv zh zq) (fun v4 h5 => ?_)
    refine s_if_eq hG dX8_suit_11 (tgt := 22) (by decide) (fun q6 => ?_) (fun q6 => ?_)
    · refine s_iconst hG dX8_suit_22 ic_m1 ?_
      exact s_iret hG hT dX8_suit_23
    · refine s_aload_n hG dX8_suit_14 0 rfl rfl ?_
      refine s_iload_n hG dX8_suit_15 3 rfl rfl ?_
      refine s_callV (a := 1) (c := 8) (inj := inI) (As := [.int a3]) (st := []) rfl hG hE dX8_suit_16 hR (by decide) vv_X8_77 (by decide) rfl kC_1 rfl (Nat.le_of_ble_eq_true rfl) rfl (fun zv zh zq => c_X8_isLaw w (xl x) a3 h5 zv zh zq) (fun v7 h8 => ?_)
      refine s_if_ne hG dX8_suit_19 (tgt := 24) (by decide) (fun q9 => ?_) (fun q9 => ?_)
      · refine s_iconst hG dX8_suit_22 ic_m1 ?_
        exact s_iret hG hT dX8_suit_23
      · refine s_iload_n hG dX8_suit_24 1 rfl rfl ?_
        refine s_iload_n hG dX8_suit_25 2 rfl rfl ?_
        refine s_icmp_ne hG dX8_suit_26 (tgt := 32) (by decide) (fun q10 => ?_) (fun q10 => ?_)
        · refine s_bipush hG dX8_suit_29 bc_m2 ?_
          exact s_iret hG hT dX8_suit_31
        · refine s_aload_n hG dX8_suit_32 0 rfl rfl ?_
          refine s_getI hG hE dX8_suit_33 fl_X8_80 rfl kC_1 ?_
          refine s_iconst hG dX8_suit_36 ic_5 ?_
          refine s_icmp_lt hG dX8_suit_37 (tgt := 43) (by decide) (fun q11 => ?_) (fun q11 => ?_)
          · refine s_aload_n hG dX8_suit_43 0 rfl rfl ?_
            refine s_getS hG hE dX8_suit_44 fl_X8_20 rfl kC_1 fC_8_2 (nzC kC_4) ?_
            refine s_aload_n hG dX8_suit_47 0 rfl rfl ?_
            refine s_getI hG hE dX8_suit_48 fl_X8_80 rfl kC_1 ?_
            refine s_ck (fun q12 => ?_)
            refine s_aaldS (j := 3) hG hE dX8_suit_51 (by decide) kC_4 q12 ((eC_8_2 q12).1) (nzC ((eC_8_2 q12).2)) ?_
            refine s_astore (lv' := [(4, .ref (gB (GC w) + (91 + 1 * (gi h8 1 11).toNatClampNeg))), (0, .ref (gB (GC w) + 1)), (1, .int a1), (2, .int a2), (3, .int a3)]) hG dX8_suit_52 (by decide) rfl ?_
            refine s_aload hG dX8_suit_54 0 rfl ?_
            refine s_iload_n hG dX8_suit_56 2 rfl rfl ?_
            refine s_putI hG hE dX8_suit_57 fl_X8_84 rfl rfl ((eC_8_2 q12).2) (fun h13 => ?_)
            refine s_aload hG dX8_suit_60 0 rfl ?_
            refine s_iload_n hG dX8_suit_62 3 rfl rfl ?_
            refine s_putI hG hE dX8_suit_63 fl_X8_87 rfl rfl ((eC_8_2 q12).2) (fun h14 => ?_)
            refine s_aload hG dX8_suit_66 0 rfl ?_
            refine s_iload_n hG dX8_suit_68 4 rfl rfl ?_
            refine s_putI hG hE dX8_suit_69 fl_X8_90 rfl rfl ((eC_8_2 q12).2) (fun h15 => ?_)
            refine s_aload_n hG dX8_suit_72 1 rfl rfl ?_
            refine s_dup hG dX8_suit_73 rfl ?_
            refine s_getI hG hE dX8_suit_74 fl_X8_80 rfl kC_1 ?_
            refine s_iconst hG dX8_suit_77 ic_1 ?_
            refine s_iadd hG dX8_suit_78 ?_
            refine s_putI hG hE dX8_suit_79 fl_X8_80 rfl rfl kC_1 (fun h16 => ?_)
            refine s_aload_n hG dX8_suit_82 1 rfl rfl ?_
            refine s_getI hG hE dX8_suit_83 fl_X8_80 rfl kC_1 ?_
            refine s_iconst hG dX8_suit_86 ic_1 ?_
            refine s_isub hG dX8_suit_87 ?_
            exact s_iret hG hT dX8_suit_88
          · refine s_bipush hG dX8_suit_40 bc_m4 ?_
            exact s_iret hG hT dX8_suit_42

theorem c_X8_suit (w : WT) (l : Launch) (a1 : Int32) (a2 : Int32) (a3 : Int32) (h : Hp) : ∀ v h', m_X8_suit a1 a2 a3 h = some (v, h') → MetM l (GC w) yX8_suit cX8_suit 5 (some .int) 2 [.ref (gB (GC w) + 1), .int a1, .int a2, .int a3] h (inI v) h' :=
  met_of (by decide) (lokC w) (Nat.le_of_ble_eq_true rfl) (fun x hx hG hE hR hT => s_X8_suit w hx hG hE hR hT a1 a2 a3 h)
def m_X8_isSuit (a1 : Int32) (h : Hp) : Option (Int32 × Hp) := if a1 < 0 then some (0, h) else if (gi h 1 11) ≤ a1 then some (0, h) else some (1, h)
set_option maxRecDepth 20000 in
set_option maxHeartbeats 4000000 in
theorem s_X8_isSuit (w : WT) {x : CT} {l : Launch} (hx : xl x = l) (hG : Gd x cX8_isSuit 2 RX8) (hE : Ge x (GC w)) (hR : Rm x 1) (hT : Rt x (some .boolean)) (a1 : Int32) (h : Hp) : Sn x 2 (gA (GC w)) (0, 0) (ζM x (GC w) inI) (gW (GC w) h) 0 [(0, .ref (gB (GC w) + 1)), (1, .int a1)] [] (m_X8_isSuit a1 h) := by
  unfold m_X8_isSuit
  refine s_iload_n hG dX8_isSuit_0 1 rfl rfl ?_
  refine s_if_lt hG dX8_isSuit_1 (tgt := 16) (by decide) (fun q1 => ?_) (fun q1 => ?_)
  · refine s_iconst hG dX8_isSuit_16 ic_0 ?_
    exact s_zret hG hT (by decide) dX8_isSuit_17
  · refine s_iload_n hG dX8_isSuit_4 1 rfl rfl ?_
    refine s_aload_n hG dX8_isSuit_5 0 rfl rfl ?_
    refine s_getI hG hE dX8_isSuit_6 fl_X8_80 rfl kC_1 ?_
    refine s_icmp_ge hG dX8_isSuit_9 (tgt := 16) (by decide) (fun q2 => ?_) (fun q2 => ?_)
    · refine s_iconst hG dX8_isSuit_16 ic_0 ?_
      exact s_zret hG hT (by decide) dX8_isSuit_17
    · refine s_iconst hG dX8_isSuit_12 ic_1 ?_
      refine s_goto (tgt := 17) hG dX8_isSuit_13 (by decide) ?_
      exact s_zret hG hT (by decide) dX8_isSuit_17

theorem c_X8_isSuit (w : WT) (l : Launch) (a1 : Int32) (h : Hp) : ∀ v h', m_X8_isSuit a1 h = some (v, h') → MetM l (GC w) yX8_isSuit cX8_isSuit 2 (some .boolean) 1 [.ref (gB (GC w) + 1), .int a1] h (inI v) h' :=
  met_of (by decide) (lokC w) (Nat.le_of_ble_eq_true rfl) (fun x hx hG hE hR hT => s_X8_isSuit w hx hG hE hR hT a1 h)
theorem fl_X8_96 : FL RX8 96 8 12 := ⟨by decide, by decide, gw_at 423 (by decide +kernel) (by decide +kernel), rfl⟩
theorem fl_X8_26 : FL RX8 26 8 3 := ⟨by decide, by decide, gw_at 414 (by decide +kernel) (by decide +kernel), rfl⟩
theorem fC_8_3 : SC 1 3 = some 5 := rfl
theorem kC_5 : LC 5 = (23, 24) := rfl
theorem eC_8_3 {i : Int32} (hi : inb i 24 = true) : SC 5 i.toNatClampNeg = some (96 + 2 * i.toNatClampNeg) ∧ LC (96 + 2 * i.toNatClampNeg) = (1, 0) := by
  have h := inb_lt hi
  generalize i.toNatClampNeg = k at h
  exact (show ∀ k, k < 24 → SC 5 k = some (96 + 2 * k) ∧ LC (96 + 2 * k) = (1, 0) by decide +kernel) k h
theorem fl_X8_146 : FL RX8 146 0 0 := ⟨by decide, by decide, gw_at 158 (by decide +kernel) (by decide +kernel), rfl⟩
def m_X8_claimsOfSuit_L4 : Nat → Int32 → Int32 → Int32 → Hp → Option (Int32 × Hp)
  | 0, _, _, _, _ => none
  | n + 1, a1, a2, a3, h => if (gi h 1 12) ≤ a3 then some (a2, h) else ck (inb a3 24) (if (gi h (96 + 2 * a3.toNatClampNeg) 0) = a1 then vb (a2 + 1) fun v5 => vb (a3 + 1) fun v6 => m_X8_claimsOfSuit_L4 n a1 v5 v6 h else vb (a3 + 1) fun v4 => m_X8_claimsOfSuit_L4 n a1 a2 v4 h)
set_option maxRecDepth 20000 in
set_option maxHeartbeats 4000000 in
theorem s_X8_claimsOfSuit_L4 (w : WT) {x : CT} {l : Launch} (hx : xl x = l) (hG : Gd x cX8_claimsOfSuit 4 RX8) (hE : Ge x (GC w)) (hR : Rm x 1) (hT : Rt x (some .int)) : ∀ (n : Nat) (a1 : Int32) (a2 : Int32) (a3 : Int32) (h : Hp), Sn x 4 (gA (GC w)) (0, 0) (ζM x (GC w) inI) (gW (GC w) h) 4 [(0, .ref (gB (GC w) + 1)), (1, .int a1), (2, .int a2), (3, .int a3)] [] (m_X8_claimsOfSuit_L4 n a1 a2 a3 h) := by
  intro n
  induction n with
  | zero => intro a1 a2 a3 h; exact s_none
  | succ n ih =>
    intro a1 a2 a3 h
    rw [m_X8_claimsOfSuit_L4]
    refine s_iload_n hG dX8_claimsOfSuit_4 3 rfl rfl ?_
    refine s_aload_n hG dX8_claimsOfSuit_5 0 rfl rfl ?_
    refine s_getI hG hE dX8_claimsOfSuit_6 fl_X8_96 rfl kC_1 ?_
    refine s_icmp_ge hG dX8_claimsOfSuit_9 (tgt := 34) (by decide) (fun q1 => ?_) (fun q1 => ?_)
    · refine s_iload_n hG dX8_claimsOfSuit_34 2 rfl rfl ?_
      exact s_iret hG hT dX8_claimsOfSuit_35
    · refine s_aload_n hG dX8_claimsOfSuit_12 0 rfl rfl ?_
      refine s_getS hG hE dX8_claimsOfSuit_13 fl_X8_26 rfl kC_1 fC_8_3 (nzC kC_5) ?_
      refine s_iload_n hG dX8_claimsOfSuit_16 3 rfl rfl ?_
      refine s_ck (fun q2 => ?_)
      refine s_aaldS (j := 0) hG hE dX8_claimsOfSuit_17 (by decide) kC_5 q2 ((eC_8_3 q2).1) (nzC ((eC_8_3 q2).2)) ?_
      refine s_getI hG hE dX8_claimsOfSuit_18 fl_X8_146 rfl ((eC_8_3 q2).2) ?_
      refine s_iload_n hG dX8_claimsOfSuit_21 1 rfl rfl ?_
      refine s_icmp_ne hG dX8_claimsOfSuit_22 (tgt := 28) (by decide) (fun q3 => ?_) (fun q3 => ?_)
      · refine s_iinc hG dX8_claimsOfSuit_25 2 rfl ic_1 (by decide) (fun v5 => [(2, .int v5), (0, .ref (gB (GC w) + 1)), (1, .int a1), (3, .int a3)]) (fun _ => rfl) (fun v5 => ?_)
        refine s_iinc hG dX8_claimsOfSuit_28 3 rfl ic_1 (by decide) (fun v6 => [(3, .int v6), (2, .int v5), (0, .ref (gB (GC w) + 1)), (1, .int a1)]) (fun _ => rfl) (fun v6 => ?_)
        refine s_goto (tgt := 4) hG dX8_claimsOfSuit_31 (by decide) ?_
        refine s_lv [2, 3, 1, 0] rfl ?_
        exact ih a1 v5 v6 h
      · refine s_iinc hG dX8_claimsOfSuit_28 3 rfl ic_1 (by decide) (fun v4 => [(3, .int v4), (0, .ref (gB (GC w) + 1)), (1, .int a1), (2, .int a2)]) (fun _ => rfl) (fun v4 => ?_)
        refine s_goto (tgt := 4) hG dX8_claimsOfSuit_31 (by decide) ?_
        refine s_lv [1, 2, 3, 0] rfl ?_
        exact ih a1 a2 v4 h

def m_X8_claimsOfSuit (a1 : Int32) (h : Hp) : Option (Int32 × Hp) := m_X8_claimsOfSuit_L4 FU a1 0 0 h
set_option maxRecDepth 20000 in
set_option maxHeartbeats 4000000 in
theorem s_X8_claimsOfSuit (w : WT) {x : CT} {l : Launch} (hx : xl x = l) (hG : Gd x cX8_claimsOfSuit 4 RX8) (hE : Ge x (GC w)) (hR : Rm x 1) (hT : Rt x (some .int)) (a1 : Int32) (h : Hp) : Sn x 4 (gA (GC w)) (0, 0) (ζM x (GC w) inI) (gW (GC w) h) 0 [(0, .ref (gB (GC w) + 1)), (1, .int a1)] [] (m_X8_claimsOfSuit a1 h) := by
  unfold m_X8_claimsOfSuit
  refine s_iconst hG dX8_claimsOfSuit_0 ic_0 ?_
  refine s_istore_n (lv' := [(2, .int 0), (0, .ref (gB (GC w) + 1)), (1, .int a1)]) hG dX8_claimsOfSuit_1 rfl (by decide) rfl ?_
  refine s_iconst hG dX8_claimsOfSuit_2 ic_0 ?_
  refine s_istore_n (lv' := [(3, .int 0), (2, .int 0), (0, .ref (gB (GC w) + 1)), (1, .int a1)]) hG dX8_claimsOfSuit_3 rfl (by decide) rfl ?_
  refine s_lv [2, 3, 1, 0] rfl ?_
  exact s_X8_claimsOfSuit_L4 w hx hG hE hR hT FU a1 0 0 h

theorem c_X8_claimsOfSuit (w : WT) (l : Launch) (a1 : Int32) (h : Hp) : ∀ v h', m_X8_claimsOfSuit a1 h = some (v, h') → MetM l (GC w) yX8_claimsOfSuit cX8_claimsOfSuit 4 (some .int) 1 [.ref (gB (GC w) + 1), .int a1] h (inI v) h' :=
  met_of (by decide) (lokC w) (Nat.le_of_ble_eq_true rfl) (fun x hx hG hE hR hT => s_X8_claimsOfSuit w hx hG hE hR hT a1 h)
theorem fl_X0_9 : FL RX0 9 0 0 := ⟨by decide, by decide, gw_at 157 (by decide +kernel) (by decide +kernel), rfl⟩
theorem fl_X0_15 : FL RX0 15 0 1 := ⟨by decide, by decide, gw_at 159 (by decide +kernel) (by decide +kernel), rfl⟩
theorem fl_X0_18 : FL RX0 18 0 2 := ⟨by decide, by decide, gw_at 162 (by decide +kernel) (by decide +kernel), rfl⟩
theorem fl_X0_21 : FL RX0 21 0 3 := ⟨by decide, by decide, gw_at 163 (by decide +kernel) (by decide +kernel), rfl⟩
theorem fl_X0_24 : FL RX0 24 0 4 := ⟨by decide, by decide, gw_at 166 (by decide +kernel) (by decide +kernel), rfl⟩
theorem fl_X0_27 : FL RX0 27 0 5 := ⟨by decide, by decide, gw_at 168 (by decide +kernel) (by decide +kernel), rfl⟩
theorem fl_X0_30 : FL RX0 30 0 6 := ⟨by decide, by decide, gw_at 169 (by decide +kernel) (by decide +kernel), rfl⟩
theorem fl_X0_33 : FL RX0 33 0 7 := ⟨by decide, by decide, gw_at 170 (by decide +kernel) (by decide +kernel), rfl⟩
theorem fl_X0_36 : FL RX0 36 0 8 := ⟨by decide, by decide, gw_at 171 (by decide +kernel) (by decide +kernel), rfl⟩
theorem fl_X0_39 : FL RX0 39 0 9 := ⟨by decide, by decide, gw_at 172 (by decide +kernel) (by decide +kernel), rfl⟩
def m_X0_begin (a0 : Nat) (a1 : Int32) (a2 : Int32) (a3 : Int32) (h : Hp) : Option (Unit × Hp) := hb (si h a0 0 a1) fun h1 => hb (si h1 a0 1 a2) fun h2 => hb (si h2 a0 2 a3) fun h3 => hb (si h3 a0 3 0) fun h4 => hb (si h4 a0 4 1) fun h5 => hb (si h5 a0 5 0) fun h6 => hb (si h6 a0 6 0) fun h7 => hb (si h7 a0 7 0) fun h8 => hb (si h8 a0 8 0) fun h9 => hb (si h9 a0 9 0) fun h10 => some ((), h10)
set_option maxRecDepth 20000 in
set_option maxHeartbeats 4000000 in
theorem s_X0_begin (w : WT) {x : CT} {l : Launch} (hx : xl x = l) (hG : Gd x cX0_begin 4 RX0) (hE : Ge x (GC w)) (hR : Rm x 1) (hT : Rt x none) (a0 : Nat) (p0 : LC a0 = (1, 0)) (a1 : Int32) (a2 : Int32) (a3 : Int32) (h : Hp) : Sn x 4 (gA (GC w)) (0, 0) (ζM x (GC w) inV) (gW (GC w) h) 0 [(0, .ref (gB (GC w) + a0)), (1, .int a1), (2, .int a2), (3, .int a3)] [] (m_X0_begin a0 a1 a2 a3 h) := by
  unfold m_X0_begin
  refine s_aload_n hG dX0_begin_0 0 rfl rfl ?_
  refine s_iload_n hG dX0_begin_1 1 rfl rfl ?_
  refine s_putI hG hE dX0_begin_2 fl_X0_9 rfl rfl p0 (fun h1 => ?_)
  refine s_aload_n hG dX0_begin_5 0 rfl rfl ?_
  refine s_iload_n hG dX0_begin_6 2 rfl rfl ?_
  refine s_putI hG hE dX0_begin_7 fl_X0_15 rfl rfl p0 (fun h2 => ?_)
  refine s_aload_n hG dX0_begin_10 0 rfl rfl ?_
  refine s_iload_n hG dX0_begin_11 3 rfl rfl ?_
  refine s_putI hG hE dX0_begin_12 fl_X0_18 rfl rfl p0 (fun h3 => ?_)
  refine s_aload_n hG dX0_begin_15 0 rfl rfl ?_
  refine s_iconst hG dX0_begin_16 ic_0 ?_
  refine s_putI hG hE dX0_begin_17 fl_X0_21 rfl rfl p0 (fun h4 => ?_)
  refine s_aload_n hG dX0_begin_20 0 rfl rfl ?_
  refine s_iconst hG dX0_begin_21 ic_1 ?_
  refine s_putI hG hE dX0_begin_22 fl_X0_24 rfl rfl p0 (fun h5 => ?_)
  refine s_aload_n hG dX0_begin_25 0 rfl rfl ?_
  refine s_iconst hG dX0_begin_26 ic_0 ?_
  refine s_putI hG hE dX0_begin_27 fl_X0_27 rfl rfl p0 (fun h6 => ?_)
  refine s_aload_n hG dX0_begin_30 0 rfl rfl ?_
  refine s_iconst hG dX0_begin_31 ic_0 ?_
  refine s_putI hG hE dX0_begin_32 fl_X0_30 rfl rfl p0 (fun h7 => ?_)
  refine s_aload_n hG dX0_begin_35 0 rfl rfl ?_
  refine s_iconst hG dX0_begin_36 ic_0 ?_
  refine s_putI hG hE dX0_begin_37 fl_X0_33 rfl rfl p0 (fun h8 => ?_)
  refine s_aload_n hG dX0_begin_40 0 rfl rfl ?_
  refine s_iconst hG dX0_begin_41 ic_0 ?_
  refine s_putI hG hE dX0_begin_42 fl_X0_36 rfl rfl p0 (fun h9 => ?_)
  refine s_aload_n hG dX0_begin_45 0 rfl rfl ?_
  refine s_iconst hG dX0_begin_46 ic_0 ?_
  refine s_putI hG hE dX0_begin_47 fl_X0_39 rfl rfl p0 (fun h10 => ?_)
  exact s_vret hG hT dX0_begin_50

theorem c_X0_begin (w : WT) (l : Launch) (a0 : Nat) (p0 : LC a0 = (1, 0)) (a1 : Int32) (a2 : Int32) (a3 : Int32) (h : Hp) : ∀ v h', m_X0_begin a0 a1 a2 a3 h = some (v, h') → MetM l (GC w) yX0_begin cX0_begin 4 none 1 [.ref (gB (GC w) + a0), .int a1, .int a2, .int a3] h (inV v) h' :=
  met_of (by decide) (lokC w) (Nat.le_of_ble_eq_true rfl) (fun x hx hG hE hR hT => s_X0_begin w hx hG hE hR hT a0 p0 a1 a2 a3 h)
theorem vv_X8_93 : VV RX8 93 yX8_isSuit cX8_isSuit 2 (some .boolean) 1 := ⟨⟨gw_at 479 (by decide +kernel) (by decide +kernel), gw_at 482 (by decide +kernel) (by decide +kernel), gw_at 87 (by decide +kernel) (by decide +kernel), by decide +kernel, by decide⟩, gw_at 481 (by decide +kernel) (by decide +kernel), gw_at 1 (by decide +kernel) (by decide +kernel)⟩
theorem bc_99 : (Int8.ofInt 99).toInt32 = 99 := by decide
theorem ic_2 : Int32.ofInt 2 = 2 := by decide
theorem bc_24 : (Int8.ofInt 24).toInt32 = 24 := by decide
theorem vv_X8_99 : VV RX8 99 yX8_claimsOfSuit cX8_claimsOfSuit 4 (some .int) 1 := ⟨⟨gw_at 483 (by decide +kernel) (by decide +kernel), gw_at 486 (by decide +kernel) (by decide +kernel), gw_at 87 (by decide +kernel) (by decide +kernel), by decide +kernel, by decide⟩, gw_at 485 (by decide +kernel) (by decide +kernel), gw_at 2 (by decide +kernel) (by decide +kernel)⟩
theorem bc_6 : (Int8.ofInt 6).toInt32 = 6 := by decide
theorem vv_X8_103 : VV RX8 103 yX0_begin cX0_begin 4 none 3 := ⟨⟨gw_at 487 (by decide +kernel) (by decide +kernel), gw_at 490 (by decide +kernel) (by decide +kernel), gw_at 90 (by decide +kernel) (by decide +kernel), by decide +kernel, by decide⟩, gw_at 488 (by decide +kernel) (by decide +kernel), gw_at 489 (by decide +kernel) (by decide +kernel)⟩
def m_X8_claim (a1 : Int32) (a2 : Int32) (a3 : Int32) (h : Hp) : Option (Int32 × Hp) := cb (m_X8_isSuit a1 h) fun v1 h2 => if v1 = 0 then some ((-1), h2) else if a2 < 1 then some ((-2), h2) else if 99 < a2 then some ((-2), h2) else if a3 < 0 then some ((-2), h2) else if a3 ≤ 2 then if 24 ≤ (gi h2 1 12) then some ((-4), h2) else cb (m_X8_claimsOfSuit a1 h2) fun v9 h10 => if v9 < 6 then ck (inb (gi h10 1 12) 24) (cb (m_X0_begin (96 + 2 * (gi h10 1 12).toNatClampNeg) a1 a2 a3 h10) fun _ h14 => hb (si h14 1 12 ((gi h14 1 12) + 1)) fun h15 => some ((gi h15 1 12) - 1, h15)) else some ((-4), h10) else some ((-2), h2)
set_option maxRecDepth 20000 in
set_option maxHeartbeats 4000000 in
theorem s_X8_claim (w : WT) {x : CT} {l : Launch} (hx : xl x = l) (hG : Gd x cX8_claim 4 RX8) (hE : Ge x (GC w)) (hR : Rm x 2) (hT : Rt x (some .int)) (a1 : Int32) (a2 : Int32) (a3 : Int32) (h : Hp) : Sn x 4 (gA (GC w)) (0, 0) (ζM x (GC w) inI) (gW (GC w) h) 0 [(0, .ref (gB (GC w) + 1)), (1, .int a1), (2, .int a2), (3, .int a3)] [] (m_X8_claim a1 a2 a3 h) := by
  unfold m_X8_claim
  refine s_aload_n hG dX8_claim_0 0 rfl rfl ?_
  refine s_iload_n hG dX8_claim_1 1 rfl rfl ?_
  refine s_callV (a := 1) (c := 8) (inj := inI) (As := [.int a1]) (st := []) rfl hG hE dX8_claim_2 hR (by decide) vv_X8_93 (by decide) rfl kC_1 rfl (Nat.le_of_ble_eq_true rfl) rfl (fun zv zh zq => c_X8_isSuit w (xl x) a1 h zv zh zq) (fun v1 h2 => ?_)
  refine s_if_ne hG dX8_claim_5 (tgt := 10) (by decide) (fun q3 => ?_) (fun q3 => ?_)
  · refine s_iconst hG dX8_claim_8 ic_m1 ?_
    exact s_iret hG hT dX8_claim_9
  · refine s_iload_n hG dX8_claim_10 2 rfl rfl ?_
    refine s_iconst hG dX8_claim_11 ic_1 ?_
    refine s_icmp_lt hG dX8_claim_12 (tgt := 30) (by decide) (fun q4 => ?_) (fun q4 => ?_)
    · refine s_bipush hG dX8_claim_30 bc_m2 ?_
      exact s_iret hG hT dX8_claim_32
    · refine s_iload_n hG dX8_claim_15 2 rfl rfl ?_
      refine s_bipush hG dX8_claim_16 bc_99 ?_
      refine s_icmp_gt hG dX8_claim_18 (tgt := 30) (by decide) (fun q5 => ?_) (fun q5 => ?_)
      · refine s_bipush hG dX8_claim_30 bc_m2 ?_
        exact s_iret hG hT dX8_claim_32
      · refine s_iload_n hG dX8_claim_21 3 rfl rfl ?_
        refine s_if_lt hG dX8_claim_22 (tgt := 30) (by decide) (fun q6 => ?_) (fun q6 => ?_)
        · refine s_bipush hG dX8_claim_30 bc_m2 ?_
          exact s_iret hG hT dX8_claim_32
        · refine s_iload_n hG dX8_claim_25 3 rfl rfl ?_
          refine s_iconst hG dX8_claim_26 ic_2 ?_
          refine s_icmp_le hG dX8_claim_27 (tgt := 33) (by decide) (fun q7 => ?_) (fun q7 => ?_)
          · refine s_aload_n hG dX8_claim_33 0 rfl rfl ?_
            refine s_getI hG hE dX8_claim_34 fl_X8_96 rfl kC_1 ?_
            refine s_bipush hG dX8_claim_37 bc_24 ?_
            refine s_icmp_ge hG dX8_claim_39 (tgt := 52) (by decide) (fun q8 => ?_) (fun q8 => ?_)
            · refine s_bipush hG dX8_claim_52 bc_m4 ?_
              exact s_iret hG hT dX8_claim_54
            · refine s_aload_n hG dX8_claim_42 0 rfl rfl ?_
              refine s_iload_n hG dX8_claim_43 1 rfl rfl ?_
              refine s_callV (a := 1) (c := 8) (inj := inI) (As := [.int a1]) (st := []) rfl hG hE dX8_claim_44 hR (by decide) vv_X8_99 (by decide) rfl kC_1 rfl (Nat.le_of_ble_eq_true rfl) rfl (fun zv zh zq => c_X8_claimsOfSuit w (xl x) a1 h2 zv zh zq) (fun v9 h10 => ?_)
              refine s_bipush hG dX8_claim_47 bc_6 ?_
              refine s_icmp_lt hG dX8_claim_49 (tgt := 55) (by decide) (fun q11 => ?_) (fun q11 => ?_)
              · refine s_aload_n hG dX8_claim_55 0 rfl rfl ?_
                refine s_getS hG hE dX8_claim_56 fl_X8_26 rfl kC_1 fC_8_3 (nzC kC_5) ?_
                refine s_aload_n hG dX8_claim_59 0 rfl rfl ?_
                refine s_getI hG hE dX8_claim_60 fl_X8_96 rfl kC_1 ?_
                refine s_ck (fun q12 => ?_)
                refine s_aaldS (j := 0) hG hE dX8_claim_63 (by decide) kC_5 q12 ((eC_8_3 q12).1) (nzC ((eC_8_3 q12).2)) ?_
                refine s_iload_n hG dX8_claim_64 1 rfl rfl ?_
                refine s_iload_n hG dX8_claim_65 2 rfl rfl ?_
                refine s_iload_n hG dX8_claim_66 3 rfl rfl ?_
                refine s_callV (a := 96 + 2 * (gi h10 1 12).toNatClampNeg) (c := 0) (inj := inV) (As := [.int a1, .int a2, .int a3]) (st := []) rfl hG hE dX8_claim_67 hR (by decide) vv_X8_103 (by decide) rfl ((eC_8_3 q12).2) rfl (Nat.le_of_ble_eq_true rfl) rfl (fun zv zh zq => c_X0_begin w (xl x) (96 + 2 * (gi h10 1 12).toNatClampNeg) ((eC_8_3 q12).2) a1 a2 a3 h10 zv zh zq) (fun v13 h14 => ?_)
                refine s_aload_n hG dX8_claim_70 0 rfl rfl ?_
                refine s_dup hG dX8_claim_71 rfl ?_
                refine s_getI hG hE dX8_claim_72 fl_X8_96 rfl kC_1 ?_
                refine s_iconst hG dX8_claim_75 ic_1 ?_
                refine s_iadd hG dX8_claim_76 ?_
                refine s_putI hG hE dX8_claim_77 fl_X8_96 rfl rfl kC_1 (fun h15 => ?_)
                refine s_aload_n hG dX8_claim_80 0 rfl rfl ?_
                refine s_getI hG hE dX8_claim_81 fl_X8_96 rfl kC_1 ?_
                refine s_iconst hG dX8_claim_84 ic_1 ?_
                refine s_isub hG dX8_claim_85 ?_
                exact s_iret hG hT dX8_claim_86
              · refine s_bipush hG dX8_claim_52 bc_m4 ?_
                exact s_iret hG hT dX8_claim_54
          · refine s_bipush hG dX8_claim_30 bc_m2 ?_
            exact s_iret hG hT dX8_claim_32

theorem c_X8_claim (w : WT) (l : Launch) (a1 : Int32) (a2 : Int32) (a3 : Int32) (h : Hp) : ∀ v h', m_X8_claim a1 a2 a3 h = some (v, h') → MetM l (GC w) yX8_claim cX8_claim 4 (some .int) 2 [.ref (gB (GC w) + 1), .int a1, .int a2, .int a3] h (inI v) h' :=
  met_of (by decide) (lokC w) (Nat.le_of_ble_eq_true rfl) (fun x hx hG hE hR hT => s_X8_claim w hx hG hE hR hT a1 a2 a3 h)
def m_X8_isClaim (a1 : Int32) (h : Hp) : Option (Int32 × Hp) := if a1 < 0 then some (0, h) else if (gi h 1 12) ≤ a1 then some (0, h) else some (1, h)
set_option maxRecDepth 20000 in
set_option maxHeartbeats 4000000 in
theorem s_X8_isClaim (w : WT) {x : CT} {l : Launch} (hx : xl x = l) (hG : Gd x cX8_isClaim 2 RX8) (hE : Ge x (GC w)) (hR : Rm x 1) (hT : Rt x (some .boolean)) (a1 : Int32) (h : Hp) : Sn x 2 (gA (GC w)) (0, 0) (ζM x (GC w) inI) (gW (GC w) h) 0 [(0, .ref (gB (GC w) + 1)), (1, .int a1)] [] (m_X8_isClaim a1 h) := by
  unfold m_X8_isClaim
  refine s_iload_n hG dX8_isClaim_0 1 rfl rfl ?_
  refine s_if_lt hG dX8_isClaim_1 (tgt := 16) (by decide) (fun q1 => ?_) (fun q1 => ?_)
  · refine s_iconst hG dX8_isClaim_16 ic_0 ?_
    exact s_zret hG hT (by decide) dX8_isClaim_17
  · refine s_iload_n hG dX8_isClaim_4 1 rfl rfl ?_
    refine s_aload_n hG dX8_isClaim_5 0 rfl rfl ?_
    refine s_getI hG hE dX8_isClaim_6 fl_X8_96 rfl kC_1 ?_
    refine s_icmp_ge hG dX8_isClaim_9 (tgt := 16) (by decide) (fun q2 => ?_) (fun q2 => ?_)
    · refine s_iconst hG dX8_isClaim_16 ic_0 ?_
      exact s_zret hG hT (by decide) dX8_isClaim_17
    · refine s_iconst hG dX8_isClaim_12 ic_1 ?_
      refine s_goto (tgt := 17) hG dX8_isClaim_13 (by decide) ?_
      exact s_zret hG hT (by decide) dX8_isClaim_17

theorem c_X8_isClaim (w : WT) (l : Launch) (a1 : Int32) (h : Hp) : ∀ v h', m_X8_isClaim a1 h = some (v, h') → MetM l (GC w) yX8_isClaim cX8_isClaim 2 (some .boolean) 1 [.ref (gB (GC w) + 1), .int a1] h (inI v) h' :=
  met_of (by decide) (lokC w) (Nat.le_of_ble_eq_true rfl) (fun x hx hG hE hR hT => s_X8_isClaim w hx hG hE hR hT a1 h)
theorem fl_X8_116 : FL RX8 116 0 4 := ⟨by decide, by decide, gw_at 167 (by decide +kernel) (by decide +kernel), rfl⟩
theorem vv_X8_107 : VV RX8 107 yX8_isClaim cX8_isClaim 2 (some .boolean) 1 := ⟨⟨gw_at 495 (by decide +kernel) (by decide +kernel), gw_at 498 (by decide +kernel) (by decide +kernel), gw_at 87 (by decide +kernel) (by decide +kernel), by decide +kernel, by decide⟩, gw_at 497 (by decide +kernel) (by decide +kernel), gw_at 3 (by decide +kernel) (by decide +kernel)⟩
theorem fl_X8_110 : FL RX8 110 0 1 := ⟨by decide, by decide, gw_at 160 (by decide +kernel) (by decide +kernel), rfl⟩
theorem fl_X8_113 : FL RX8 113 0 3 := ⟨by decide, by decide, gw_at 164 (by decide +kernel) (by decide +kernel), rfl⟩
def m_X8_answer_L58 (a5 : Int32) (t0 : Int32) (t1 : Nat) (h : Hp) : Option (Int32 × Hp) := hb (si h t1 4 t0) fun h1 => some (a5, h1)
set_option maxRecDepth 20000 in
set_option maxHeartbeats 4000000 in
theorem s_X8_answer_L58 (w : WT) {x : CT} {l : Launch} (hx : xl x = l) (hG : Gd x cX8_answer 6 RX8) (hE : Ge x (GC w)) (hR : Rm x 2) (hT : Rt x (some .int)) (a5 : Int32) (t0 : Int32) (t1 : Nat) (q1 : LC t1 = (1, 0)) (h : Hp) : Sn x 6 (gA (GC w)) (0, 0) (ζM x (GC w) inI) (gW (GC w) h) 58 [(5, .int a5)] [.int t0, .ref (gB (GC w) + t1)] (m_X8_answer_L58 a5 t0 t1 h) := by
  unfold m_X8_answer_L58
  refine s_putI hG hE dX8_answer_58 fl_X8_116 rfl rfl q1 (fun h1 => ?_)
  refine s_iload hG dX8_answer_61 0 rfl ?_
  exact s_iret hG hT dX8_answer_63

def m_X8_answer (a1 : Int32) (a2 : Int32) (a3 : Int32) (h : Hp) : Option (Int32 × Hp) := cb (m_X8_isClaim a1 h) fun v1 h2 => if v1 = 0 then some ((-1), h2) else ck (inb a1 24) (if a2 < 0 then some ((-2), h2) else if a2 ≤ (gi h2 (96 + 2 * a1.toNatClampNeg) 1) then vb (gi h2 (96 + 2 * a1.toNatClampNeg) 3) fun v7 => hb (si h2 (96 + 2 * a1.toNatClampNeg) 3 a2) fun h8 => if a3 = 0 then m_X8_answer_L58 v7 0 (96 + 2 * a1.toNatClampNeg) h8 else m_X8_answer_L58 v7 1 (96 + 2 * a1.toNatClampNeg) h8 else some ((-2), h2))
set_option maxRecDepth 20000 in
set_option maxHeartbeats 4000000 in
theorem s_X8_answer (w : WT) {x : CT} {l : Launch} (hx : xl x = l) (hG : Gd x cX8_answer 6 RX8) (hE : Ge x (GC w)) (hR : Rm x 2) (hT : Rt x (some .int)) (a1 : Int32) (a2 : Int32) (a3 : Int32) (h : Hp) : Sn x 6 (gA (GC w)) (0, 0) (ζM x (GC w) inI) (gW (GC w) h) 0 [(0, .ref (gB (GC w) + 1)), (1, .int a1), (2, .int a2), (3, .int a3)] [] (m_X8_answer a1 a2 a3 h) := by
  unfold m_X8_answer
  refine s_aload_n hG dX8_answer_0 0 rfl rfl ?_
  refine s_iload_n hG dX8_answer_1 1 rfl rfl ?_
  refine s_callV (a := 1) (c := 8) (inj := inI) (As := [.int a1]) (st := []) rfl hG hE dX8_answer_2 hR (by decide) vv_X8_107 (by decide) rfl kC_1 rfl (Nat.le_of_ble_eq_true rfl) rfl (fun zv zh zq => c_X8_isClaim w (xl x) a1 h zv zh zq) (fun v1 h2 => ?_)
  refine s_if_ne hG dX8_answer_5 (tgt := 10) (by decide) (fun q3 => ?_) (fun q3 => ?_)
  · refine s_iconst hG dX8_answer_8 ic_m1 ?_
    exact s_iret hG hT dX8_answer_9
  · refine s_aload_n hG dX8_answer_10 0 rfl rfl ?_
    refine s_getS hG hE dX8_answer_11 fl_X8_26 rfl kC_1 fC_8_3 (nzC kC_5) ?_
    refine s_iload_n hG dX8_answer_14 1 rfl rfl ?_
    refine s_ck (fun q4 => ?_)
    refine s_aaldS (j := 0) hG hE dX8_answer_15 (by decide) kC_5 q4 ((eC_8_3 q4).1) (nzC ((eC_8_3 q4).2)) ?_
    refine s_astore (lv' := [(4, .ref (gB (GC w) + (96 + 2 * a1.toNatClampNeg))), (0, .ref (gB (GC w) + 1)), (1, .int a1), (2, .int a2), (3, .int a3)]) hG dX8_answer_16 (by decide) rfl ?_
    refine s_iload_n hG dX8_answer_18 3 rfl rfl ?_
    refine s_if_lt hG dX8_answer_19 (tgt := 31) (by decide) (fun q5 => ?_) (fun q5 => ?_)
    · refine s_bipush hG dX8_answer_31 bc_m2 ?_
      exact s_iret hG hT dX8_answer_33
    · refine s_iload_n hG dX8_answer_22 3 rfl rfl ?_
      refine s_aload hG dX8_answer_23 0 rfl ?_
      refine s_getI hG hE dX8_answer_25 fl_X8_110 rfl ((eC_8_3 q4).2) ?_
      refine s_icmp_le hG dX8_answer_28 (tgt := 34) (by decide) (fun q6 => ?_) (fun q6 => ?_)
      · refine s_aload hG dX8_answer_34 0 rfl ?_
        refine s_getI hG hE dX8_answer_36 fl_X8_113 rfl ((eC_8_3 q4).2) ?_
        refine s_vI (fun v7 => ?_)
        refine s_istore (lv' := [(5, .int v7), (4, .ref (gB (GC w) + (96 + 2 * a1.toNatClampNeg))), (0, .ref (gB (GC w) + 1)), (1, .int a1), (2, .int a2), (3, .int a3)]) hG dX8_answer_39 (by decide) rfl ?_
        refine s_aload hG dX8_answer_41 1 rfl ?_
        refine s_iload_n hG dX8_answer_43 4 rfl rfl ?_
        refine s_putI hG hE dX8_answer_44 fl_X8_113 rfl rfl ((eC_8_3 q4).2) (fun h8 => ?_)
        refine s_aload hG dX8_answer_47 1 rfl ?_
        refine s_iload_n hG dX8_answer_49 5 rfl rfl ?_
        refine s_if_eq hG dX8_answer_50 (tgt := 57) (by decide) (fun q9 => ?_) (fun q9 => ?_)
        · refine s_iconst hG dX8_answer_57 ic_0 ?_
          refine s_lv [0] rfl ?_
          exact s_X8_answer_L58 w hx hG hE hR hT v7 0 (96 + 2 * a1.toNatClampNeg) ((eC_8_3 q4).2) h8
        · refine s_iconst hG dX8_answer_53 ic_1 ?_
          refine s_goto (tgt := 58) hG dX8_answer_54 (by decide) ?_
          refine s_lv [0] rfl ?_
          exact s_X8_answer_L58 w hx hG hE hR hT v7 1 (96 + 2 * a1.toNatClampNeg) ((eC_8_3 q4).2) h8
      · refine s_bipush hG dX8_answer_31 bc_m2 ?_
        exact s_iret hG hT dX8_answer_33

theorem c_X8_answer (w : WT) (l : Launch) (a1 : Int32) (a2 : Int32) (a3 : Int32) (h : Hp) : ∀ v h', m_X8_answer a1 a2 a3 h = some (v, h') → MetM l (GC w) yX8_answer cX8_answer 6 (some .int) 2 [.ref (gB (GC w) + 1), .int a1, .int a2, .int a3] h (inI v) h' :=
  met_of (by decide) (lokC w) (Nat.le_of_ble_eq_true rfl) (fun x hx hG hE hR hT => s_X8_answer w hx hG hE hR hT a1 a2 a3 h)
def m_X0_told (a0 : Nat) (a1 : Int32) (h : Hp) : Option (Int32 × Hp) := if a1 = 0 then some (gi h a0 0, h) else if a1 = 1 then some (gi h a0 1, h) else if a1 = 2 then some (gi h a0 2, h) else if a1 = 3 then some (gi h a0 3, h) else if a1 = 4 then some (gi h a0 4, h) else if a1 = 5 then some (gi h a0 5, h) else if a1 = 6 then some (gi h a0 6, h) else if a1 = 7 then some (gi h a0 7, h) else if a1 = 8 then some (gi h a0 8, h) else if a1 = 9 then some (gi h a0 9, h) else some ((-1), h)
set_option maxRecDepth 20000 in
set_option maxHeartbeats 4000000 in
theorem s_X0_told (w : WT) {x : CT} {l : Launch} (hx : xl x = l) (hG : Gd x cX0_told 2 RX0) (hE : Ge x (GC w)) (hR : Rm x 1) (hT : Rt x (some .int)) (a0 : Nat) (p0 : LC a0 = (1, 0)) (a1 : Int32) (h : Hp) : Sn x 2 (gA (GC w)) (0, 0) (ζM x (GC w) inI) (gW (GC w) h) 0 [(0, .ref (gB (GC w) + a0)), (1, .int a1)] [] (m_X0_told a0 a1 h) := by
  unfold m_X0_told
  refine s_iload_n hG dX0_told_0 1 rfl rfl ?_
  refine s_tsw (off := 55) hG dX0_told_1 0 (by decide) (tgt := 56) (by decide) (fun q1 => ?_) (fun q1 => ?_)
  · refine s_aload_n hG dX0_told_56 0 rfl rfl ?_
    refine s_getI hG hE dX0_told_57 fl_X0_9 rfl p0 ?_
    exact s_iret hG hT dX0_told_60
  · refine s_tsw (off := 60) hG dX0_told_1 1 (by decide) (tgt := 61) (by decide) (fun q2 => ?_) (fun q2 => ?_)
    · refine s_aload_n hG dX0_told_61 0 rfl rfl ?_
      refine s_getI hG hE dX0_told_62 fl_X0_15 rfl p0 ?_
      exact s_iret hG hT dX0_told_65
    · refine s_tsw (off := 65) hG dX0_told_1 2 (by decide) (tgt := 66) (by decide) (fun q3 => ?_) (fun q3 => ?_)
      · refine s_aload_n hG dX0_told_66 0 rfl rfl ?_
        refine s_getI hG hE dX0_told_67 fl_X0_18 rfl p0 ?_
        exact s_iret hG hT dX0_told_70
      · refine s_tsw (off := 70) hG dX0_told_1 3 (by decide) (tgt := 71) (by decide) (fun q4 => ?_) (fun q4 => ?_)
        · refine s_aload_n hG dX0_told_71 0 rfl rfl ?_
          refine s_getI hG hE dX0_told_72 fl_X0_21 rfl p0 ?_
          exact s_iret hG hT dX0_told_75
        · refine s_tsw (off := 75) hG dX0_told_1 4 (by decide) (tgt := 76) (by decide) (fun q5 => ?_) (fun q5 => ?_)
          · refine s_aload_n hG dX0_told_76 0 rfl rfl ?_
            refine s_getI hG hE dX0_told_77 fl_X0_24 rfl p0 ?_
            exact s_iret hG hT dX0_told_80
          · refine s_tsw (off := 80) hG dX0_told_1 5 (by decide) (tgt := 81) (by decide) (fun q6 => ?_) (fun q6 => ?_)
            · refine s_aload_n hG dX0_told_81 0 rfl rfl ?_
              refine s_getI hG hE dX0_told_82 fl_X0_27 rfl p0 ?_
              exact s_iret hG hT dX0_told_85
            · refine s_tsw (off := 85) hG dX0_told_1 6 (by decide) (tgt := 86) (by decide) (fun q7 => ?_) (fun q7 => ?_)
              · refine s_aload_n hG dX0_told_86 0 rfl rfl ?_
                refine s_getI hG hE dX0_told_87 fl_X0_30 rfl p0 ?_
                exact s_iret hG hT dX0_told_90
              · refine s_tsw (off := 90) hG dX0_told_1 7 (by decide) (tgt := 91) (by decide) (fun q8 => ?_) (fun q8 => ?_)
                · refine s_aload_n hG dX0_told_91 0 rfl rfl ?_
                  refine s_getI hG hE dX0_told_92 fl_X0_33 rfl p0 ?_
                  exact s_iret hG hT dX0_told_95
                · refine s_tsw (off := 95) hG dX0_told_1 8 (by decide) (tgt := 96) (by decide) (fun q9 => ?_) (fun q9 => ?_)
                  · refine s_aload_n hG dX0_told_96 0 rfl rfl ?_
                    refine s_getI hG hE dX0_told_97 fl_X0_36 rfl p0 ?_
                    exact s_iret hG hT dX0_told_100
                  · refine s_tsw (off := 100) hG dX0_told_1 9 (by decide) (tgt := 101) (by decide) (fun q10 => ?_) (fun q10 => ?_)
                    · refine s_aload_n hG dX0_told_101 0 rfl rfl ?_
                      refine s_getI hG hE dX0_told_102 fl_X0_39 rfl p0 ?_
                      exact s_iret hG hT dX0_told_105
                    · refine s_tswD (tgt := 106) hG dX0_told_1 (by decide) (by have zq1 := lv_neT q1 (show (0 : Int32).toInt = 0 by decide); have zq2 := lv_neT q2 (show (1 : Int32).toInt = 1 by decide); have zq3 := lv_neT q3 (show (2 : Int32).toInt = 2 by decide); have zq4 := lv_neT q4 (show (3 : Int32).toInt = 3 by decide); have zq5 := lv_neT q5 (show (4 : Int32).toInt = 4 by decide); have zq6 := lv_neT q6 (show (5 : Int32).toInt = 5 by decide); have zq7 := lv_neT q7 (show (6 : Int32).toInt = 6 by decide); have zq8 := lv_neT q8 (show (7 : Int32).toInt = 7 by decide); have zq9 := lv_neT q9 (show (8 : Int32).toInt = 8 by decide); have zq10 := lv_neT q10 (show (9 : Int32).toInt = 9 by decide); omega) ?_
                      refine s_iconst hG dX0_told_106 ic_m1 ?_
                      exact s_iret hG hT dX0_told_107

theorem c_X0_told (w : WT) (l : Launch) (a0 : Nat) (p0 : LC a0 = (1, 0)) (a1 : Int32) (h : Hp) : ∀ v h', m_X0_told a0 a1 h = some (v, h') → MetM l (GC w) yX0_told cX0_told 2 (some .int) 1 [.ref (gB (GC w) + a0), .int a1] h (inI v) h' :=
  met_of (by decide) (lokC w) (Nat.le_of_ble_eq_true rfl) (fun x hx hG hE hR hT => s_X0_told w hx hG hE hR hT a0 p0 a1 h)
theorem vv_X0_42 : VV RX0 42 yX0_told cX0_told 2 (some .int) 1 := ⟨⟨gw_at 507 (by decide +kernel) (by decide +kernel), gw_at 510 (by decide +kernel) (by decide +kernel), gw_at 90 (by decide +kernel) (by decide +kernel), by decide +kernel, by decide⟩, gw_at 508 (by decide +kernel) (by decide +kernel), gw_at 509 (by decide +kernel) (by decide +kernel)⟩
def m_X0_prove (a0 : Nat) (a1 : Int32) (a2 : Int32) (h : Hp) : Option (Int32 × Hp) := cb (m_X0_told a0 (5 + a1) h) fun v1 h2 => if a1 = 0 then hb (si h2 a0 5 a2) fun h4 => some (v1, h4) else if a1 = 1 then hb (si h2 a0 6 a2) fun h6 => some (v1, h6) else if a1 = 2 then hb (si h2 a0 7 a2) fun h8 => some (v1, h8) else hb (si h2 a0 8 a2) fun h9 => some (v1, h9)
set_option maxRecDepth 20000 in
set_option maxHeartbeats 4000000 in
theorem s_X0_prove (w : WT) {x : CT} {l : Launch} (hx : xl x = l) (hG : Gd x cX0_prove 4 RX0) (hE : Ge x (GC w)) (hR : Rm x 2) (hT : Rt x (some .int)) (a0 : Nat) (p0 : LC a0 = (1, 0)) (a1 : Int32) (a2 : Int32) (h : Hp) : Sn x 4 (gA (GC w)) (0, 0) (ζM x (GC w) inI) (gW (GC w) h) 0 [(0, .ref (gB (GC w) + a0)), (1, .int a1), (2, .int a2)] [] (m_X0_prove a0 a1 a2 h) := by
  unfold m_X0_prove
  refine s_aload_n hG dX0_prove_0 0 rfl rfl ?_
  refine s_iconst hG dX0_prove_1 ic_5 ?_
  refine s_iload_n hG dX0_prove_2 1 rfl rfl ?_
  refine s_iadd hG dX0_prove_3 ?_
  refine s_callV (a := a0) (c := 0) (inj := inI) (As := [.int (5 + a1)]) (st := []) rfl hG hE dX0_prove_4 hR (by decide) vv_X0_42 (by decide) rfl p0 rfl (Nat.le_of_ble_eq_true rfl) rfl (fun zv zh zq => c_X0_told w (xl x) a0 p0 (5 + a1) h zv zh zq) (fun v1 h2 => ?_)
  refine s_istore_n (lv' := [(3, .int v1), (0, .ref (gB (GC w) + a0)), (1, .int a1), (2, .int a2)]) hG dX0_prove_7 rfl (by decide) rfl ?_
  refine s_iload_n hG dX0_prove_8 2 rfl rfl ?_
  refine s_tsw (off := 27) hG dX0_prove_9 0 (by decide) (tgt := 36) (by decide) (fun q3 => ?_) (fun q3 => ?_)
  · refine s_aload_n hG dX0_prove_36 1 rfl rfl ?_
    refine s_iload_n hG dX0_prove_37 3 rfl rfl ?_
    refine s_putI hG hE dX0_prove_38 fl_X0_27 rfl rfl p0 (fun h4 => ?_)
    refine s_goto (tgt := 65) hG dX0_prove_41 (by decide) ?_
    refine s_iload_n hG dX0_prove_65 0 rfl rfl ?_
    exact s_iret hG hT dX0_prove_66
  · refine s_tsw (off := 35) hG dX0_prove_9 1 (by decide) (tgt := 44) (by decide) (fun q5 => ?_) (fun q5 => ?_)
    · refine s_aload_n hG dX0_prove_44 1 rfl rfl ?_
      refine s_iload_n hG dX0_prove_45 3 rfl rfl ?_
      refine s_putI hG hE dX0_prove_46 fl_X0_30 rfl rfl p0 (fun h6 => ?_)
      refine s_goto (tgt := 65) hG dX0_prove_49 (by decide) ?_
      refine s_iload_n hG dX0_prove_65 0 rfl rfl ?_
      exact s_iret hG hT dX0_prove_66
    · refine s_tsw (off := 43) hG dX0_prove_9 2 (by decide) (tgt := 52) (by decide) (fun q7 => ?_) (fun q7 => ?_)
      · refine s_aload_n hG dX0_prove_52 1 rfl rfl ?_
        refine s_iload_n hG dX0_prove_53 3 rfl rfl ?_
        refine s_putI hG hE dX0_prove_54 fl_X0_33 rfl rfl p0 (fun h8 => ?_)
        refine s_goto (tgt := 65) hG dX0_prove_57 (by decide) ?_
        refine s_iload_n hG dX0_prove_65 0 rfl rfl ?_
        exact s_iret hG hT dX0_prove_66
      · refine s_tswD (tgt := 60) hG dX0_prove_9 (by decide) (by have zq3 := lv_neT q3 (show (0 : Int32).toInt = 0 by decide); have zq5 := lv_neT q5 (show (1 : Int32).toInt = 1 by decide); have zq7 := lv_neT q7 (show (2 : Int32).toInt = 2 by decide); omega) ?_
        refine s_aload_n hG dX0_prove_60 1 rfl rfl ?_
        refine s_iload_n hG dX0_prove_61 3 rfl rfl ?_
        refine s_putI hG hE dX0_prove_62 fl_X0_36 rfl rfl p0 (fun h9 => ?_)
        refine s_iload_n hG dX0_prove_65 0 rfl rfl ?_
        exact s_iret hG hT dX0_prove_66

theorem c_X0_prove (w : WT) (l : Launch) (a0 : Nat) (p0 : LC a0 = (1, 0)) (a1 : Int32) (a2 : Int32) (h : Hp) : ∀ v h', m_X0_prove a0 a1 a2 h = some (v, h') → MetM l (GC w) yX0_prove cX0_prove 4 (some .int) 2 [.ref (gB (GC w) + a0), .int a1, .int a2] h (inI v) h' :=
  met_of (by decide) (lokC w) (Nat.le_of_ble_eq_true rfl) (fun x hx hG hE hR hT => s_X0_prove w hx hG hE hR hT a0 p0 a1 a2 h)
theorem vv_X8_119 : VV RX8 119 yX0_prove cX0_prove 4 (some .int) 2 := ⟨⟨gw_at 503 (by decide +kernel) (by decide +kernel), gw_at 506 (by decide +kernel) (by decide +kernel), gw_at 90 (by decide +kernel) (by decide +kernel), by decide +kernel, by decide⟩, gw_at 504 (by decide +kernel) (by decide +kernel), gw_at 505 (by decide +kernel) (by decide +kernel)⟩
theorem ic_3 : Int32.ofInt 3 = 3 := by decide
def m_X8_proof_L28 (a1 : Int32) (a2 : Int32) (a3 : Int32) (t0 : Int32) (h : Hp) : Option (Int32 × Hp) := if a3 < 0 then some ((-2), h) else if a3 ≤ t0 then ck (inb a1 24) (cb (m_X0_prove (96 + 2 * a1.toNatClampNeg) a2 a3 h) fun v4 h5 => some (v4, h5)) else some ((-2), h)
set_option maxRecDepth 20000 in
set_option maxHeartbeats 4000000 in
theorem s_X8_proof_L28 (w : WT) {x : CT} {l : Launch} (hx : xl x = l) (hG : Gd x cX8_proof 5 RX8) (hE : Ge x (GC w)) (hR : Rm x 3) (hT : Rt x (some .int)) (a1 : Int32) (a2 : Int32) (a3 : Int32) (t0 : Int32) (h : Hp) : Sn x 5 (gA (GC w)) (0, 0) (ζM x (GC w) inI) (gW (GC w) h) 28 [(0, .ref (gB (GC w) + 1)), (1, .int a1), (2, .int a2), (3, .int a3)] [.int t0] (m_X8_proof_L28 a1 a2 a3 t0 h) := by
  unfold m_X8_proof_L28
  refine s_istore (lv' := [(4, .int t0), (0, .ref (gB (GC w) + 1)), (1, .int a1), (2, .int a2), (3, .int a3)]) hG dX8_proof_28 (by decide) rfl ?_
  refine s_iload_n hG dX8_proof_30 4 rfl rfl ?_
  refine s_if_lt hG dX8_proof_31 (tgt := 40) (by decide) (fun q1 => ?_) (fun q1 => ?_)
  · refine s_bipush hG dX8_proof_40 bc_m2 ?_
    exact s_iret hG hT dX8_proof_42
  · refine s_iload_n hG dX8_proof_34 4 rfl rfl ?_
    refine s_iload hG dX8_proof_35 0 rfl ?_
    refine s_icmp_le hG dX8_proof_37 (tgt := 43) (by decide) (fun q2 => ?_) (fun q2 => ?_)
    · refine s_aload_n hG dX8_proof_43 1 rfl rfl ?_
      refine s_getS hG hE dX8_proof_44 fl_X8_26 rfl kC_1 fC_8_3 (nzC kC_5) ?_
      refine s_iload_n hG dX8_proof_47 2 rfl rfl ?_
      refine s_ck (fun q3 => ?_)
      refine s_aaldS (j := 0) hG hE dX8_proof_48 (by decide) kC_5 q3 ((eC_8_3 q3).1) (nzC ((eC_8_3 q3).2)) ?_
      refine s_iload_n hG dX8_proof_49 3 rfl rfl ?_
      refine s_iload_n hG dX8_proof_50 4 rfl rfl ?_
      refine s_callV (a := 96 + 2 * a1.toNatClampNeg) (c := 0) (inj := inI) (As := [.int a2, .int a3]) (st := []) rfl hG hE dX8_proof_51 hR (by decide) vv_X8_119 (by decide) rfl ((eC_8_3 q3).2) rfl (Nat.le_of_ble_eq_true rfl) rfl (fun zv zh zq => c_X0_prove w (xl x) (96 + 2 * a1.toNatClampNeg) ((eC_8_3 q3).2) a2 a3 h zv zh zq) (fun v4 h5 => ?_)
      exact s_iret hG hT dX8_proof_54
    · refine s_bipush hG dX8_proof_40 bc_m2 ?_
      exact s_iret hG hT dX8_proof_42

def m_X8_proof (a1 : Int32) (a2 : Int32) (a3 : Int32) (h : Hp) : Option (Int32 × Hp) := cb (m_X8_isClaim a1 h) fun v1 h2 => if v1 = 0 then some ((-1), h2) else if a2 < 0 then some ((-1), h2) else if a2 ≤ 3 then if a2 = 0 then m_X8_proof_L28 a1 a2 a3 3 h2 else m_X8_proof_L28 a1 a2 a3 1 h2 else some ((-1), h2)
set_option maxRecDepth 20000 in
set_option maxHeartbeats 4000000 in
theorem s_X8_proof (w : WT) {x : CT} {l : Launch} (hx : xl x = l) (hG : Gd x cX8_proof 5 RX8) (hE : Ge x (GC w)) (hR : Rm x 3) (hT : Rt x (some .int)) (a1 : Int32) (a2 : Int32) (a3 : Int32) (h : Hp) : Sn x 5 (gA (GC w)) (0, 0) (ζM x (GC w) inI) (gW (GC w) h) 0 [(0, .ref (gB (GC w) + 1)), (1, .int a1), (2, .int a2), (3, .int a3)] [] (m_X8_proof a1 a2 a3 h) := by
  unfold m_X8_proof
  refine s_aload_n hG dX8_proof_0 0 rfl rfl ?_
  refine s_iload_n hG dX8_proof_1 1 rfl rfl ?_
  refine s_callV (a := 1) (c := 8) (inj := inI) (As := [.int a1]) (st := []) rfl hG hE dX8_proof_2 hR (by decide) vv_X8_107 (by decide) rfl kC_1 rfl (Nat.le_of_ble_eq_true rfl) rfl (fun zv zh zq => c_X8_isClaim w (xl x) a1 h zv zh zq) (fun v1 h2 => ?_)
  refine s_if_eq hG dX8_proof_5 (tgt := 17) (by decide) (fun q3 => ?_) (fun q3 => ?_)
  · refine s_iconst hG dX8_proof_17 ic_m1 ?_
    exact s_iret hG hT dX8_proof_18
  · refine s_iload_n hG dX8_proof_8 2 rfl rfl ?_
    refine s_if_lt hG dX8_proof_9 (tgt := 17) (by decide) (fun q4 => ?_) (fun q4 => ?_)
    · refine s_iconst hG dX8_proof_17 ic_m1 ?_
      exact s_iret hG hT dX8_proof_18
    · refine s_iload_n hG dX8_proof_12 2 rfl rfl ?_
      refine s_iconst hG dX8_proof_13 ic_3 ?_
      refine s_icmp_le hG dX8_proof_14 (tgt := 19) (by decide) (fun q5 => ?_) (fun q5 => ?_)
      · refine s_iload_n hG dX8_proof_19 2 rfl rfl ?_
        refine s_if_ne hG dX8_proof_20 (tgt := 27) (by decide) (fun q6 => ?_) (fun q6 => ?_)
        · refine s_iconst hG dX8_proof_23 ic_3 ?_
          refine s_goto (tgt := 28) hG dX8_proof_24 (by decide) ?_
          exact s_X8_proof_L28 w hx hG hE hR hT a1 a2 a3 3 h2
        · refine s_iconst hG dX8_proof_27 ic_1 ?_
          exact s_X8_proof_L28 w hx hG hE hR hT a1 a2 a3 1 h2
      · refine s_iconst hG dX8_proof_17 ic_m1 ?_
        exact s_iret hG hT dX8_proof_18

theorem c_X8_proof (w : WT) (l : Launch) (a1 : Int32) (a2 : Int32) (a3 : Int32) (h : Hp) : ∀ v h', m_X8_proof a1 a2 a3 h = some (v, h') → MetM l (GC w) yX8_proof cX8_proof 5 (some .int) 3 [.ref (gB (GC w) + 1), .int a1, .int a2, .int a3] h (inI v) h' :=
  met_of (by decide) (lokC w) (Nat.le_of_ble_eq_true rfl) (fun x hx hG hE hR hT => s_X8_proof w hx hG hE hR hT a1 a2 a3 h)
theorem fl_X8_123 : FL RX8 123 0 9 := ⟨by decide, by decide, gw_at 173 (by decide +kernel) (by decide +kernel), rfl⟩
def m_X8_truth (a1 : Int32) (a2 : Int32) (h : Hp) : Option (Int32 × Hp) := cb (m_X8_isClaim a1 h) fun v1 h2 => if v1 = 0 then some ((-1), h2) else if a2 < 0 then some ((-2), h2) else if a2 ≤ 99 then ck (inb a1 24) (vb (gi h2 (96 + 2 * a1.toNatClampNeg) 9) fun v7 => hb (si h2 (96 + 2 * a1.toNatClampNeg) 9 a2) fun h8 => some (v7, h8)) else some ((-2), h2)
set_option maxRecDepth 20000 in
set_option maxHeartbeats 4000000 in
theorem s_X8_truth (w : WT) {x : CT} {l : Launch} (hx : xl x = l) (hG : Gd x cX8_truth 4 RX8) (hE : Ge x (GC w)) (hR : Rm x 2) (hT : Rt x (some .int)) (a1 : Int32) (a2 : Int32) (h : Hp) : Sn x 4 (gA (GC w)) (0, 0) (ζM x (GC w) inI) (gW (GC w) h) 0 [(0, .ref (gB (GC w) + 1)), (1, .int a1), (2, .int a2)] [] (m_X8_truth a1 a2 h) := by
  unfold m_X8_truth
  refine s_aload_n hG dX8_truth_0 0 rfl rfl ?_
  refine s_iload_n hG dX8_truth_1 1 rfl rfl ?_
  refine s_callV (a := 1) (c := 8) (inj := inI) (As := [.int a1]) (st := []) rfl hG hE dX8_truth_2 hR (by decide) vv_X8_107 (by decide) rfl kC_1 rfl (Nat.le_of_ble_eq_true rfl) rfl (fun zv zh zq => c_X8_isClaim w (xl x) a1 h zv zh zq) (fun v1 h2 => ?_)
  refine s_if_ne hG dX8_truth_5 (tgt := 10) (by decide) (fun q3 => ?_) (fun q3 => ?_)
  · refine s_iconst hG dX8_truth_8 ic_m1 ?_
    exact s_iret hG hT dX8_truth_9
  · refine s_iload_n hG dX8_truth_10 2 rfl rfl ?_
    refine s_if_lt hG dX8_truth_11 (tgt := 20) (by decide) (fun q4 => ?_) (fun q4 => ?_)
    · refine s_bipush hG dX8_truth_20 bc_m2 ?_
      exact s_iret hG hT dX8_truth_22
    · refine s_iload_n hG dX8_truth_14 2 rfl rfl ?_
      refine s_bipush hG dX8_truth_15 bc_99 ?_
      refine s_icmp_le hG dX8_truth_17 (tgt := 23) (by decide) (fun q5 => ?_) (fun q5 => ?_)
      · refine s_aload_n hG dX8_truth_23 0 rfl rfl ?_
        refine s_getS hG hE dX8_truth_24 fl_X8_26 rfl kC_1 fC_8_3 (nzC kC_5) ?_
        refine s_iload_n hG dX8_truth_27 1 rfl rfl ?_
        refine s_ck (fun q6 => ?_)
        refine s_aaldS (j := 0) hG hE dX8_truth_28 (by decide) kC_5 q6 ((eC_8_3 q6).1) (nzC ((eC_8_3 q6).2)) ?_
        refine s_getI hG hE dX8_truth_29 fl_X8_123 rfl ((eC_8_3 q6).2) ?_
        refine s_vI (fun v7 => ?_)
        refine s_istore_n (lv' := [(3, .int v7), (0, .ref (gB (GC w) + 1)), (1, .int a1), (2, .int a2)]) hG dX8_truth_32 rfl (by decide) rfl ?_
        refine s_aload_n hG dX8_truth_33 1 rfl rfl ?_
        refine s_getS hG hE dX8_truth_34 fl_X8_26 rfl kC_1 fC_8_3 (nzC kC_5) ?_
        refine s_iload_n hG dX8_truth_37 2 rfl rfl ?_
        refine s_aaldS (j := 0) hG hE dX8_truth_38 (by decide) kC_5 q6 ((eC_8_3 q6).1) (nzC ((eC_8_3 q6).2)) ?_
        refine s_iload_n hG dX8_truth_39 3 rfl rfl ?_
        refine s_putI hG hE dX8_truth_40 fl_X8_123 rfl rfl ((eC_8_3 q6).2) (fun h8 => ?_)
        refine s_iload_n hG dX8_truth_43 0 rfl rfl ?_
        exact s_iret hG hT dX8_truth_44
      · refine s_bipush hG dX8_truth_20 bc_m2 ?_
        exact s_iret hG hT dX8_truth_22

theorem c_X8_truth (w : WT) (l : Launch) (a1 : Int32) (a2 : Int32) (h : Hp) : ∀ v h', m_X8_truth a1 a2 h = some (v, h') → MetM l (GC w) yX8_truth cX8_truth 4 (some .int) 2 [.ref (gB (GC w) + 1), .int a1, .int a2] h (inI v) h' :=
  met_of (by decide) (lokC w) (Nat.le_of_ble_eq_true rfl) (fun x hx hG hE hR hT => s_X8_truth w hx hG hE hR hT a1 a2 h)
theorem vv_X8_126 : VV RX8 126 yX0_told cX0_told 2 (some .int) 1 := ⟨⟨gw_at 519 (by decide +kernel) (by decide +kernel), gw_at 510 (by decide +kernel) (by decide +kernel), gw_at 90 (by decide +kernel) (by decide +kernel), by decide +kernel, by decide⟩, gw_at 508 (by decide +kernel) (by decide +kernel), gw_at 509 (by decide +kernel) (by decide +kernel)⟩
def m_X8_of (a1 : Int32) (a2 : Int32) (h : Hp) : Option (Int32 × Hp) := cb (m_X8_isClaim a1 h) fun v1 h2 => if v1 = 0 then some ((-1), h2) else ck (inb a1 24) (cb (m_X0_told (96 + 2 * a1.toNatClampNeg) a2 h2) fun v5 h6 => some (v5, h6))
set_option maxRecDepth 20000 in
set_option maxHeartbeats 4000000 in
theorem s_X8_of (w : WT) {x : CT} {l : Launch} (hx : xl x = l) (hG : Gd x cX8_of 3 RX8) (hE : Ge x (GC w)) (hR : Rm x 2) (hT : Rt x (some .int)) (a1 : Int32) (a2 : Int32) (h : Hp) : Sn x 3 (gA (GC w)) (0, 0) (ζM x (GC w) inI) (gW (GC w) h) 0 [(0, .ref (gB (GC w) + 1)), (1, .int a1), (2, .int a2)] [] (m_X8_of a1 a2 h) := by
  unfold m_X8_of
  refine s_aload_n hG dX8_of_0 0 rfl rfl ?_
  refine s_iload_n hG dX8_of_1 1 rfl rfl ?_
  refine s_callV (a := 1) (c := 8) (inj := inI) (As := [.int a1]) (st := []) rfl hG hE dX8_of_2 hR (by decide) vv_X8_107 (by decide) rfl kC_1 rfl (Nat.le_of_ble_eq_true rfl) rfl (fun zv zh zq => c_X8_isClaim w (xl x) a1 h zv zh zq) (fun v1 h2 => ?_)
  refine s_if_eq hG dX8_of_5 (tgt := 21) (by decide) (fun q3 => ?_) (fun q3 => ?_)
  · refine s_iconst hG dX8_of_21 ic_m1 ?_
    exact s_iret hG hT dX8_of_22
  · refine s_aload_n hG dX8_of_8 0 rfl rfl ?_
    refine s_getS hG hE dX8_of_9 fl_X8_26 rfl kC_1 fC_8_3 (nzC kC_5) ?_
    refine s_iload_n hG dX8_of_12 1 rfl rfl ?_
    refine s_ck (fun q4 => ?_)
    refine s_aaldS (j := 0) hG hE dX8_of_13 (by decide) kC_5 q4 ((eC_8_3 q4).1) (nzC ((eC_8_3 q4).2)) ?_
    refine s_iload_n hG dX8_of_14 2 rfl rfl ?_
    refine s_callV (a := 96 + 2 * a1.toNatClampNeg) (c := 0) (inj := inI) (As := [.int a2]) (st := []) rfl hG hE dX8_of_15 hR (by decide) vv_X8_126 (by decide) rfl ((eC_8_3 q4).2) rfl (Nat.le_of_ble_eq_true rfl) rfl (fun zv zh zq => c_X0_told w (xl x) (96 + 2 * a1.toNatClampNeg) ((eC_8_3 q4).2) a2 h2 zv zh zq) (fun v5 h6 => ?_)
    refine s_goto (tgt := 22) hG dX8_of_18 (by decide) ?_
    exact s_iret hG hT dX8_of_22

theorem c_X8_of (w : WT) (l : Launch) (a1 : Int32) (a2 : Int32) (h : Hp) : ∀ v h', m_X8_of a1 a2 h = some (v, h') → MetM l (GC w) yX8_of cX8_of 3 (some .int) 2 [.ref (gB (GC w) + 1), .int a1, .int a2] h (inI v) h' :=
  met_of (by decide) (lokC w) (Nat.le_of_ble_eq_true rfl) (fun x hx hG hE hR hT => s_X8_of w hx hG hE hR hT a1 a2 h)
theorem kC_9 : LC 9 = (5, 0) := rfl
theorem fl_X4_15 : FL RX4 15 4 1 := ⟨by decide, by decide, gw_at 128 (by decide +kernel) (by decide +kernel), rfl⟩
theorem bc_100 : (Int8.ofInt 100).toInt32 = 100 := by decide
theorem fl_X4_9 : FL RX4 9 4 0 := ⟨by decide, by decide, gw_at 127 (by decide +kernel) (by decide +kernel), rfl⟩
theorem fC_4_0 : SC 9 0 = some 10 := rfl
theorem kC_10 : LC 10 = (20, 100) := rfl
def m_X4_put (a1 : Int32) (h : Hp) : Option (Unit × Hp) := if 100 ≤ (gi h 9 1) then some ((), h) else ck (inb (gi h 9 1) 100) (hb (si h 10 (gi h 9 1).toNatClampNeg a1) fun h3 => hb (si h3 9 1 ((gi h3 9 1) + 1)) fun h4 => some ((), h4))
set_option maxRecDepth 20000 in
set_option maxHeartbeats 4000000 in
theorem s_X4_put (w : WT) {x : CT} {l : Launch} (hx : xl x = l) (hG : Gd x cX4_put 2 RX4) (hE : Ge x (GC w)) (hR : Rm x 1) (hT : Rt x none) (a1 : Int32) (h : Hp) : Sn x 2 (gA (GC w)) (0, 0) (ζM x (GC w) inV) (gW (GC w) h) 0 [(0, .ref (gB (GC w) + 9)), (1, .int a1)] [] (m_X4_put a1 h) := by
  unfold m_X4_put
  refine s_aload_n hG dX4_put_0 0 rfl rfl ?_
  refine s_getI hG hE dX4_put_1 fl_X4_15 rfl kC_9 ?_
  refine s_bipush hG dX4_put_4 bc_100 ?_
  refine s_icmp_ge hG dX4_put_6 (tgt := 29) (by decide) (fun q1 => ?_) (fun q1 => ?_)
  · exact s_vret hG hT dX4_put_29
  · refine s_aload_n hG dX4_put_9 0 rfl rfl ?_
    refine s_getS hG hE dX4_put_10 fl_X4_9 rfl kC_9 fC_4_0 (nzC kC_10) ?_
    refine s_aload_n hG dX4_put_13 0 rfl rfl ?_
    refine s_getI hG hE dX4_put_14 fl_X4_15 rfl kC_9 ?_
    refine s_iload_n hG dX4_put_17 1 rfl rfl ?_
    refine s_ck (fun q2 => ?_)
    refine s_iast hG hE dX4_put_18 kC_10 q2 (fun h3 => ?_)
    refine s_aload_n hG dX4_put_19 0 rfl rfl ?_
    refine s_dup hG dX4_put_20 rfl ?_
    refine s_getI hG hE dX4_put_21 fl_X4_15 rfl kC_9 ?_
    refine s_iconst hG dX4_put_24 ic_1 ?_
    refine s_iadd hG dX4_put_25 ?_
    refine s_putI hG hE dX4_put_26 fl_X4_15 rfl rfl kC_9 (fun h4 => ?_)
    exact s_vret hG hT dX4_put_29

theorem c_X4_put (w : WT) (l : Launch) (a1 : Int32) (h : Hp) : ∀ v h', m_X4_put a1 h = some (v, h') → MetM l (GC w) yX4_put cX4_put 2 none 1 [.ref (gB (GC w) + 9), .int a1] h (inV v) h' :=
  met_of (by decide) (lokC w) (Nat.le_of_ble_eq_true rfl) (fun x hx hG hE hR hT => s_X4_put w hx hG hE hR hT a1 h)
theorem fl_X8_48 : FL RX8 48 8 7 := ⟨by decide, by decide, gw_at 418 (by decide +kernel) (by decide +kernel), rfl⟩
theorem fC_8_7 : SC 1 7 = some 9 := rfl
theorem fl_X8_129 : FL RX8 129 4 1 := ⟨by decide, by decide, gw_at 129 (by decide +kernel) (by decide +kernel), rfl⟩
theorem sc_255 : (Int16.ofInt 255).toInt32 = 255 := by decide
theorem vv_X8_132 : VV RX8 132 yX4_put cX4_put 2 none 1 := ⟨⟨gw_at 524 (by decide +kernel) (by decide +kernel), gw_at 527 (by decide +kernel) (by decide +kernel), gw_at 88 (by decide +kernel) (by decide +kernel), by decide +kernel, by decide⟩, gw_at 525 (by decide +kernel) (by decide +kernel), gw_at 526 (by decide +kernel) (by decide +kernel)⟩
theorem ic_4 : Int32.ofInt 4 = 4 := by decide
def m_X8_feed_L33 : Nat → Int32 → Int32 → Hp → Option (Int32 × Hp)
  | 0, _, _, _ => none
  | n + 1, a1, a3, h => if a3 < 0 then some (gi h 9 1, h) else cb (m_X4_put (((a1.toUInt32 >>> ((8 * a3 : Int32).toUInt32 &&& Int32.toUInt32 31)).toInt32) &&& 255) h) fun _ h3 => vb (a3 + (-1)) fun v4 => m_X8_feed_L33 n a1 v4 h3
set_option maxRecDepth 20000 in
set_option maxHeartbeats 4000000 in
theorem s_X8_feed_L33 (w : WT) {x : CT} {l : Launch} (hx : xl x = l) (hG : Gd x cX8_feed 4 RX8) (hE : Ge x (GC w)) (hR : Rm x 2) (hT : Rt x (some .int)) : ∀ (n : Nat) (a1 : Int32) (a3 : Int32) (h : Hp), Sn x 4 (gA (GC w)) (0, 0) (ζM x (GC w) inI) (gW (GC w) h) 33 [(0, .ref (gB (GC w) + 1)), (1, .int a1), (3, .int a3)] [] (m_X8_feed_L33 n a1 a3 h) := by
  intro n
  induction n with
  | zero => intro a1 a3 h; exact s_none
  | succ n ih =>
    intro a1 a3 h
    rw [m_X8_feed_L33]
    refine s_iload_n hG dX8_feed_33 2 rfl rfl ?_
    refine s_if_lt hG dX8_feed_34 (tgt := 60) (by decide) (fun q1 => ?_) (fun q1 => ?_)
    · refine s_aload_n hG dX8_feed_60 0 rfl rfl ?_
      refine s_getS hG hE dX8_feed_61 fl_X8_48 rfl kC_1 fC_8_7 (nzC kC_9) ?_
      refine s_getI hG hE dX8_feed_64 fl_X8_129 rfl kC_9 ?_
      exact s_iret hG hT dX8_feed_67
    · refine s_aload_n hG dX8_feed_37 0 rfl rfl ?_
      refine s_getS hG hE dX8_feed_38 fl_X8_48 rfl kC_1 fC_8_7 (nzC kC_9) ?_
      refine s_iload_n hG dX8_feed_41 1 rfl rfl ?_
      refine s_bipush hG dX8_feed_42 bc_8 ?_
      refine s_iload_n hG dX8_feed_44 2 rfl rfl ?_
      refine s_imul hG dX8_feed_45 ?_
      refine s_iushr hG dX8_feed_46 ?_
      refine s_sipush hG dX8_feed_47 sc_255 ?_
      refine s_iand hG dX8_feed_50 ?_
      refine s_callV (a := 9) (c := 4) (inj := inV) (As := [.int (((a1.toUInt32 >>> ((8 * a3 : Int32).toUInt32 &&& Int32.toUInt32 31)).toInt32) &&& 255)]) (st := []) rfl hG hE dX8_feed_51 hR (by decide) vv_X8_132 (by decide) rfl kC_9 rfl (Nat.le_of_ble_eq_true rfl) rfl (fun zv zh zq => c_X4_put w (xl x) (((a1.toUInt32 >>> ((8 * a3 : Int32).toUInt32 &&& Int32.toUInt32 31)).toInt32) &&& 255) h zv zh zq) (fun v2 h3 => ?_)
      refine s_iinc hG dX8_feed_54 2 rfl ic_m1 (by decide) (fun v4 => [(3, .int v4), (0, .ref (gB (GC w) + 1)), (1, .int a1)]) (fun _ => rfl) (fun v4 => ?_)
      refine s_goto (tgt := 33) hG dX8_feed_57 (by decide) ?_
      refine s_lv [1, 2, 0] rfl ?_
      exact ih a1 v4 h3

def m_X8_feed (a1 : Int32) (a2 : Int32) (h : Hp) : Option (Int32 × Hp) := if a2 < 0 then some ((-2), h) else if a2 ≤ 4 then if ((gi h 9 1) + a2) ≤ 100 then vb (a2 - 1) fun v4 => m_X8_feed_L33 FU a1 v4 h else some ((-4), h) else some ((-2), h)
set_option maxRecDepth 20000 in
set_option maxHeartbeats 4000000 in
theorem s_X8_feed (w : WT) {x : CT} {l : Launch} (hx : xl x = l) (hG : Gd x cX8_feed 4 RX8) (hE : Ge x (GC w)) (hR : Rm x 2) (hT : Rt x (some .int)) (a1 : Int32) (a2 : Int32) (h : Hp) : Sn x 4 (gA (GC w)) (0, 0) (ζM x (GC w) inI) (gW (GC w) h) 0 [(0, .ref (gB (GC w) + 1)), (1, .int a1), (2, .int a2)] [] (m_X8_feed a1 a2 h) := by
  unfold m_X8_feed
  refine s_iload_n hG dX8_feed_0 2 rfl rfl ?_
  refine s_if_lt hG dX8_feed_1 (tgt := 9) (by decide) (fun q1 => ?_) (fun q1 => ?_)
  · refine s_bipush hG dX8_feed_9 bc_m2 ?_
    exact s_iret hG hT dX8_feed_11
  · refine s_iload_n hG dX8_feed_4 2 rfl rfl ?_
    refine s_iconst hG dX8_feed_5 ic_4 ?_
    refine s_icmp_le hG dX8_feed_6 (tgt := 12) (by decide) (fun q2 => ?_) (fun q2 => ?_)
    · refine s_aload_n hG dX8_feed_12 0 rfl rfl ?_
      refine s_getS hG hE dX8_feed_13 fl_X8_48 rfl kC_1 fC_8_7 (nzC kC_9) ?_
      refine s_getI hG hE dX8_feed_16 fl_X8_129 rfl kC_9 ?_
      refine s_iload_n hG dX8_feed_19 2 rfl rfl ?_
      refine s_iadd hG dX8_feed_20 ?_
      refine s_bipush hG dX8_feed_21 bc_100 ?_
      refine s_icmp_le hG dX8_feed_23 (tgt := 29) (by decide) (fun q3 => ?_) (fun q3 => ?_)
      · refine s_iload_n hG dX8_feed_29 2 rfl rfl ?_
        refine s_iconst hG dX8_feed_30 ic_1 ?_
        refine s_isub hG dX8_feed_31 ?_
        refine s_vI (fun v4 => ?_)
        refine s_istore_n (lv' := [(3, .int v4), (0, .ref (gB (GC w) + 1)), (1, .int a1), (2, .int a2)]) hG dX8_feed_32 rfl (by decide) rfl ?_
        refine s_lv [1, 2, 0] rfl ?_
        exact s_X8_feed_L33 w hx hG hE hR hT FU a1 v4 h
      · refine s_bipush hG dX8_feed_26 bc_m4 ?_
        exact s_iret hG hT dX8_feed_28
    · refine s_bipush hG dX8_feed_9 bc_m2 ?_
      exact s_iret hG hT dX8_feed_11

theorem c_X8_feed (w : WT) (l : Launch) (a1 : Int32) (a2 : Int32) (h : Hp) : ∀ v h', m_X8_feed a1 a2 h = some (v, h') → MetM l (GC w) yX8_feed cX8_feed 4 (some .int) 2 [.ref (gB (GC w) + 1), .int a1, .int a2] h (inI v) h' :=
  met_of (by decide) (lokC w) (Nat.le_of_ble_eq_true rfl) (fun x hx hG hE hR hT => s_X8_feed w hx hG hE hR hT a1 a2 h)
theorem fl_X3_27 : FL RX3 27 3 5 := ⟨by decide, by decide, gw_at 351 (by decide +kernel) (by decide +kernel), rfl⟩
theorem fl_X3_31 : FL RX3 31 3 6 := ⟨by decide, by decide, gw_at 352 (by decide +kernel) (by decide +kernel), rfl⟩
theorem fl_X3_34 : FL RX3 34 3 7 := ⟨by decide, by decide, gw_at 353 (by decide +kernel) (by decide +kernel), rfl⟩
theorem fl_X3_37 : FL RX3 37 3 8 := ⟨by decide, by decide, gw_at 356 (by decide +kernel) (by decide +kernel), rfl⟩
theorem fl_X3_40 : FL RX3 40 3 9 := ⟨by decide, by decide, gw_at 359 (by decide +kernel) (by decide +kernel), rfl⟩
theorem fl_X3_43 : FL RX3 43 3 10 := ⟨by decide, by decide, gw_at 362 (by decide +kernel) (by decide +kernel), rfl⟩
theorem fl_X3_46 : FL RX3 46 3 11 := ⟨by decide, by decide, gw_at 365 (by decide +kernel) (by decide +kernel), rfl⟩
def m_X3_clear (a0 : Nat) (h : Hp) : Option (Unit × Hp) := hb (si h a0 5 0) fun h1 => hb (si h1 a0 6 0) fun h2 => hb (si h2 a0 7 1) fun h3 => hb (si h3 a0 8 1) fun h4 => hb (si h4 a0 9 0) fun h5 => hb (si h5 a0 10 1) fun h6 => hb (si h6 a0 11 0) fun h7 => some ((), h7)
set_option maxRecDepth 20000 in
set_option maxHeartbeats 4000000 in
theorem s_X3_clear (w : WT) {x : CT} {l : Launch} (hx : xl x = l) (hG : Gd x cX3_clear 1 RX3) (hE : Ge x (GC w)) (hR : Rm x 1) (hT : Rt x none) (a0 : Nat) (p0 : LC a0 = (4, 0)) (h : Hp) : Sn x 1 (gA (GC w)) (0, 0) (ζM x (GC w) inV) (gW (GC w) h) 0 [(0, .ref (gB (GC w) + a0))] [] (m_X3_clear a0 h) := by
  unfold m_X3_clear
  refine s_aload_n hG dX3_clear_0 0 rfl rfl ?_
  refine s_iconst hG dX3_clear_1 ic_0 ?_
  refine s_putI hG hE dX3_clear_2 fl_X3_27 rfl rfl p0 (fun h1 => ?_)
  refine s_aload_n hG dX3_clear_5 0 rfl rfl ?_
  refine s_iconst hG dX3_clear_6 ic_0 ?_
  refine s_putI hG hE dX3_clear_7 fl_X3_31 rfl rfl p0 (fun h2 => ?_)
  refine s_aload_n hG dX3_clear_10 0 rfl rfl ?_
  refine s_iconst hG dX3_clear_11 ic_1 ?_
  refine s_putI hG hE dX3_clear_12 fl_X3_34 rfl rfl p0 (fun h3 => ?_)
  refine s_aload_n hG dX3_clear_15 0 rfl rfl ?_
  refine s_iconst hG dX3_clear_16 ic_1 ?_
  refine s_putI hG hE dX3_clear_17 fl_X3_37 rfl rfl p0 (fun h4 => ?_)
  refine s_aload_n hG dX3_clear_20 0 rfl rfl ?_
  refine s_iconst hG dX3_clear_21 ic_0 ?_
  refine s_putI hG hE dX3_clear_22 fl_X3_40 rfl rfl p0 (fun h5 => ?_)
  refine s_aload_n hG dX3_clear_25 0 rfl rfl ?_
  refine s_iconst hG dX3_clear_26 ic_1 ?_
  refine s_putI hG hE dX3_clear_27 fl_X3_43 rfl rfl p0 (fun h6 => ?_)
  refine s_aload_n hG dX3_clear_30 0 rfl rfl ?_
  refine s_iconst hG dX3_clear_31 ic_0 ?_
  refine s_putI hG hE dX3_clear_32 fl_X3_46 rfl rfl p0 (fun h7 => ?_)
  exact s_vret hG hT dX3_clear_35

theorem c_X3_clear (w : WT) (l : Launch) (a0 : Nat) (p0 : LC a0 = (4, 0)) (h : Hp) : ∀ v h', m_X3_clear a0 h = some (v, h') → MetM l (GC w) yX3_clear cX3_clear 1 none 1 [.ref (gB (GC w) + a0)] h (inV v) h' :=
  met_of (by decide) (lokC w) (Nat.le_of_ble_eq_true rfl) (fun x hx hG hE hR hT => s_X3_clear w hx hG hE hR hT a0 p0 h)
def m_X4_wordOf (a0 : Int32) (h : Hp) : Option (Nat × Hp) := if a0 = 0 then some (0, h) else if a0 = 1 then some (1, h) else if a0 = 2 then some (2, h) else if a0 = 3 then some (3, h) else if a0 = 4 then some (4, h) else if a0 = 5 then some (5, h) else if a0 = 6 then some (6, h) else if a0 = 7 then some (7, h) else some (8, h)
set_option maxRecDepth 20000 in
set_option maxHeartbeats 4000000 in
theorem s_X4_wordOf (w : WT) {x : CT} {l : Launch} (hx : xl x = l) (hG : Gd x cX4_wordOf 1 RX4) (hE : Ge x (GC w)) (hR : Rm x 1) (hT : Rt x (some (.object "java/lang/String"))) (a0 : Int32) (h : Hp) : Sn x 1 (gA (GC w)) (0, 0) (ζM x (GC w) (inS (gK (GC w)))) (gW (GC w) h) 0 [(0, .int a0)] [] (m_X4_wordOf a0 h) := by
  unfold m_X4_wordOf
  refine s_iload_n hG dX4_wordOf_0 0 rfl rfl ?_
  refine s_tsw (off := 47) hG dX4_wordOf_1 0 (by decide) (tgt := 48) (by decide) (fun q1 => ?_) (fun q1 => ?_)
  · refine s_ldcK hG hE 0 (by decide) rfl dX4_wordOf_48 ?_
    exact s_kret hG hT dX4_wordOf_50
  · refine s_tsw (off := 50) hG dX4_wordOf_1 1 (by decide) (tgt := 51) (by decide) (fun q2 => ?_) (fun q2 => ?_)
    · refine s_ldcK hG hE 1 (by decide) rfl dX4_wordOf_51 ?_
      exact s_kret hG hT dX4_wordOf_53
    · refine s_tsw (off := 53) hG dX4_wordOf_1 2 (by decide) (tgt := 54) (by decide) (fun q3 => ?_) (fun q3 => ?_)
      · refine s_ldcK hG hE 2 (by decide) rfl dX4_wordOf_54 ?_
        exact s_kret hG hT dX4_wordOf_56
      · refine s_tsw (off := 56) hG dX4_wordOf_1 3 (by decide) (tgt := 57) (by decide) (fun q4 => ?_) (fun q4 => ?_)
        · refine s_ldcK hG hE 3 (by decide) rfl dX4_wordOf_57 ?_
          exact s_kret hG hT dX4_wordOf_59
        · refine s_tsw (off := 59) hG dX4_wordOf_1 4 (by decide) (tgt := 60) (by decide) (fun q5 => ?_) (fun q5 => ?_)
          · refine s_ldcK hG hE 4 (by decide) rfl dX4_wordOf_60 ?_
            exact s_kret hG hT dX4_wordOf_62
          · refine s_tsw (off := 62) hG dX4_wordOf_1 5 (by decide) (tgt := 63) (by decide) (fun q6 => ?_) (fun q6 => ?_)
            · refine s_ldcK hG hE 5 (by decide) rfl dX4_wordOf_63 ?_
              exact s_kret hG hT dX4_wordOf_65
            · refine s_tsw (off := 65) hG dX4_wordOf_1 6 (by decide) (tgt := 66) (by decide) (fun q7 => ?_) (fun q7 => ?_)
              · refine s_ldcK hG hE 6 (by decide) rfl dX4_wordOf_66 ?_
                exact s_kret hG hT dX4_wordOf_68
              · refine s_tsw (off := 68) hG dX4_wordOf_1 7 (by decide) (tgt := 69) (by decide) (fun q8 => ?_) (fun q8 => ?_)
                · refine s_ldcK hG hE 7 (by decide) rfl dX4_wordOf_69 ?_
                  exact s_kret hG hT dX4_wordOf_71
                · refine s_tswD (tgt := 72) hG dX4_wordOf_1 (by decide) (by have zq1 := lv_neT q1 (show (0 : Int32).toInt = 0 by decide); have zq2 := lv_neT q2 (show (1 : Int32).toInt = 1 by decide); have zq3 := lv_neT q3 (show (2 : Int32).toInt = 2 by decide); have zq4 := lv_neT q4 (show (3 : Int32).toInt = 3 by decide); have zq5 := lv_neT q5 (show (4 : Int32).toInt = 4 by decide); have zq6 := lv_neT q6 (show (5 : Int32).toInt = 5 by decide); have zq7 := lv_neT q7 (show (6 : Int32).toInt = 6 by decide); have zq8 := lv_neT q8 (show (7 : Int32).toInt = 7 by decide); omega) ?_
                  refine s_ldcK hG hE 8 (by decide) rfl dX4_wordOf_72 ?_
                  exact s_kret hG hT dX4_wordOf_74

theorem c_X4_wordOf (w : WT) (l : Launch) (a0 : Int32) (h : Hp) : ∀ v h', m_X4_wordOf a0 h = some (v, h') → MetM l (GC w) yX4_wordOf cX4_wordOf 1 (some (.object "java/lang/String")) 1 [.int a0] h ((inS (gK (GC w))) v) h' :=
  met_of (by decide) (lokC w) (Nat.le_of_ble_eq_true rfl) (fun x hx hG hE hR hT => s_X4_wordOf w hx hG hE hR hT a0 h)
theorem wd_568 : Cond.fieldLink RJ0 38 "java/lang/String" "COMPACT_STRINGS" "Z" ∈ GW := gw_at 568 (by decide +kernel) (by decide +kernel)
theorem wd_1578 : Cond.fieldLink RJ0 15 "java/lang/String" "coder" "B" ∈ GW := gw_at 1578 (by decide +kernel) (by decide +kernel)
def m_J0_coder_7d493 (a0 : Nat) (h : Hp) : Option (Int32 × Hp) := if (1 : Int32) = 0 then ck (decide (narrow .byte (.int 1) = .int 1)) (some (1, h)) else ck (decide (narrow .byte (.int 0) = .int 0)) (some (0, h))
set_option maxRecDepth 20000 in
set_option maxHeartbeats 4000000 in
theorem s_J0_coder_7d493 (w : WT) {x : CT} {l : Launch} (hx : xl x = l) (hG : Gd x cJ0_coder_7d493 1 RJ0) (hE : Ge x (GC w)) (hR : Rm x 1) (hT : Rt x (some .byte)) (a0 : Nat) (p0 : a0 < 12) (h : Hp) : Sn x 1 (gA (GC w)) (0, 0) (ζM x (GC w) inI) (gW (GC w) h) 0 [(0, .ref (gK (GC w) a0))] [] (m_J0_coder_7d493 a0 h) := by
  unfold m_J0_coder_7d493
  refine s_gsC (Wd := gW (GC w) h) hG hE dJ0_coder_7d493_0 wd_568 ?_
  refine s_if_eq hG dJ0_coder_7d493_3 (tgt := 13) (by decide) (fun q1 => ?_) (fun q1 => ?_)
  · refine s_iconst hG dJ0_coder_7d493_13 ic_1 ?_
    refine s_ck (fun q2 => ?_)
    exact s_nret hG hT (of_decide_eq_true q2) dJ0_coder_7d493_14
  · refine s_aload_n hG dJ0_coder_7d493_6 0 rfl rfl ?_
    refine s_kcod (Wd := gW (GC w) h) hG hE p0 dJ0_coder_7d493_7 wd_1578 ?_
    refine s_goto (tgt := 14) hG dJ0_coder_7d493_10 (by decide) ?_
    refine s_ck (fun q3 => ?_)
    exact s_nret hG hT (of_decide_eq_true q3) dJ0_coder_7d493_14

theorem c_J0_coder_7d493 (w : WT) (l : Launch) (a0 : Nat) (p0 : a0 < 12) (h : Hp) : ∀ v h', m_J0_coder_7d493 a0 h = some (v, h') → MetM l (GC w) yJ0_coder_7d493 cJ0_coder_7d493 1 (some .byte) 1 [.ref (gK (GC w) a0)] h (inI v) h' :=
  met_of (by decide) (lokC w) (Nat.le_of_ble_eq_true rfl) (fun x hx hG hE hR hT => s_J0_coder_7d493 w hx hG hE hR hT a0 p0 h)
theorem wd_1577 : Cond.fieldLink RJ0 9 "java/lang/String" "value" "[B" ∈ GW := gw_at 1577 (by decide +kernel) (by decide +kernel)
theorem vv_J0_335 : VV RJ0 335 yJ0_coder_7d493 cJ0_coder_7d493 1 (some .byte) 0 := ⟨⟨gw_at 564 (by decide +kernel) (by decide +kernel), gw_at 567 (by decide +kernel) (by decide +kernel), gw_at 97 (by decide +kernel) (by decide +kernel), by decide +kernel, by decide⟩, gw_at 565 (by decide +kernel) (by decide +kernel), gw_at 566 (by decide +kernel) (by decide +kernel)⟩
def m_J0_length_8abf5 (a0 : Nat) (h : Hp) : Option (Int32 × Hp) := cb (m_J0_coder_7d493 a0 h) fun v1 h2 => some ((Int32.ofNat (sLen.getD a0 0)) >>> (v1 &&& 31), h2)
set_option maxRecDepth 20000 in
set_option maxHeartbeats 4000000 in
theorem s_J0_length_8abf5 (w : WT) {x : CT} {l : Launch} (hx : xl x = l) (hG : Gd x cJ0_length_8abf5 1 RJ0) (hE : Ge x (GC w)) (hR : Rm x 2) (hT : Rt x (some .int)) (a0 : Nat) (p0 : a0 < 12) (h : Hp) : Sn x 1 (gA (GC w)) (0, 0) (ζM x (GC w) inI) (gW (GC w) h) 0 [(0, .ref (gK (GC w) a0))] [] (m_J0_length_8abf5 a0 h) := by
  unfold m_J0_length_8abf5
  refine s_aload_n hG dJ0_length_8abf5_0 0 rfl rfl ?_
  refine s_kval (Wd := gW (GC w) h) hG hE p0 dJ0_length_8abf5_1 wd_1577 ?_
  refine s_klen (Wd := gW (GC w) h) hG hE p0 dJ0_length_8abf5_4 ?_
  refine s_aload_n hG dJ0_length_8abf5_5 0 rfl rfl ?_
  refine s_callK (inj := inI) (As := []) (st := [.int (Int32.ofNat (sLen.getD a0 0))]) rfl hG hE dJ0_length_8abf5_6 hR (by decide) vv_J0_335 p0 rfl rfl (Nat.le_of_ble_eq_true rfl) rfl (fun zv zh zq => c_J0_coder_7d493 w (xl x) a0 p0 h zv zh zq) (fun v1 h2 => ?_)
  refine s_ishr hG dJ0_length_8abf5_9 ?_
  exact s_iret hG hT dJ0_length_8abf5_10

theorem c_J0_length_8abf5 (w : WT) (l : Launch) (a0 : Nat) (p0 : a0 < 12) (h : Hp) : ∀ v h', m_J0_length_8abf5 a0 h = some (v, h') → MetM l (GC w) yJ0_length_8abf5 cJ0_length_8abf5 1 (some .int) 2 [.ref (gK (GC w) a0)] h (inI v) h' :=
  met_of (by decide) (lokC w) (Nat.le_of_ble_eq_true rfl) (fun x hx hG hE hR hT => s_J0_length_8abf5 w hx hG hE hR hT a0 p0 h)
def m_J0_isLatin1_aae02 (a0 : Nat) (h : Hp) : Option (Int32 × Hp) := if (1 : Int32) = 0 then some (0, h) else if (0 : Int32) = 0 then some (1, h) else some (0, h)
set_option maxRecDepth 20000 in
set_option maxHeartbeats 4000000 in
theorem s_J0_isLatin1_aae02 (w : WT) {x : CT} {l : Launch} (hx : xl x = l) (hG : Gd x cJ0_isLatin1_aae02 1 RJ0) (hE : Ge x (GC w)) (hR : Rm x 1) (hT : Rt x (some .boolean)) (a0 : Nat) (p0 : a0 < 12) (h : Hp) : Sn x 1 (gA (GC w)) (0, 0) (ζM x (GC w) inI) (gW (GC w) h) 0 [(0, .ref (gK (GC w) a0))] [] (m_J0_isLatin1_aae02 a0 h) := by
  unfold m_J0_isLatin1_aae02
  refine s_gsC (Wd := gW (GC w) h) hG hE dJ0_isLatin1_aae02_0 wd_568 ?_
  refine s_if_eq hG dJ0_isLatin1_aae02_3 (tgt := 17) (by decide) (fun q1 => ?_) (fun q1 => ?_)
  · refine s_iconst hG dJ0_isLatin1_aae02_17 ic_0 ?_
    exact s_zret hG hT (by decide) dJ0_isLatin1_aae02_18
  · refine s_aload_n hG dJ0_isLatin1_aae02_6 0 rfl rfl ?_
    refine s_kcod (Wd := gW (GC w) h) hG hE p0 dJ0_isLatin1_aae02_7 wd_1578 ?_
    refine s_if_ne hG dJ0_isLatin1_aae02_10 (tgt := 17) (by decide) (fun q2 => ?_) (fun q2 => ?_)
    · refine s_iconst hG dJ0_isLatin1_aae02_13 ic_1 ?_
      refine s_goto (tgt := 18) hG dJ0_isLatin1_aae02_14 (by decide) ?_
      exact s_zret hG hT (by decide) dJ0_isLatin1_aae02_18
    · refine s_iconst hG dJ0_isLatin1_aae02_17 ic_0 ?_
      exact s_zret hG hT (by decide) dJ0_isLatin1_aae02_18

theorem c_J0_isLatin1_aae02 (w : WT) (l : Launch) (a0 : Nat) (p0 : a0 < 12) (h : Hp) : ∀ v h', m_J0_isLatin1_aae02 a0 h = some (v, h') → MetM l (GC w) yJ0_isLatin1_aae02 cJ0_isLatin1_aae02 1 (some .boolean) 1 [.ref (gK (GC w) a0)] h (inI v) h' :=
  met_of (by decide) (lokC w) (Nat.le_of_ble_eq_true rfl) (fun x hx hG hE hR hT => s_J0_isLatin1_aae02 w hx hG hE hR hT a0 p0 h)
def m_J3_checkIndex_8e157_L9 (a0 : Int32) (a1 : Int32) (h : Hp) : Option (Int32 × Hp) := none
set_option maxRecDepth 20000 in
set_option maxHeartbeats 4000000 in
theorem s_J3_checkIndex_8e157_L9 (w : WT) {x : CT} {l : Launch} (hx : xl x = l) (hG : Gd x cJ3_checkIndex_8e157 3 RJ3) (hE : Ge x (GC w)) (hR : Rm x 2) (hT : Rt x (some .int)) (a0 : Int32) (a1 : Int32) (h : Hp) : Sn x 3 (gA (GC w)) (0, 0) (ζM x (GC w) inI) (gW (GC w) h) 9 [(0, .int a0), (1, .int a1), (2, va_rf (gTf (GC w)))] [] (m_J3_checkIndex_8e157_L9 a0 a1 h) := by
  unfold m_J3_checkIndex_8e157_L9
  exact s_none

def m_J3_checkIndex_8e157 (a0 : Int32) (a1 : Int32) (h : Hp) : Option (Int32 × Hp) := if a0 < 0 then m_J3_checkIndex_8e157_L9 a0 a1 h else if a0 < a1 then some (a0, h) else m_J3_checkIndex_8e157_L9 a0 a1 h
set_option maxRecDepth 20000 in
set_option maxHeartbeats 4000000 in
theorem s_J3_checkIndex_8e157 (w : WT) {x : CT} {l : Launch} (hx : xl x = l) (hG : Gd x cJ3_checkIndex_8e157 3 RJ3) (hE : Ge x (GC w)) (hR : Rm x 2) (hT : Rt x (some .int)) (a0 : Int32) (a1 : Int32) (h : Hp) : Sn x 3 (gA (GC w)) (0, 0) (ζM x (GC w) inI) (gW (GC w) h) 0 [(0, .int a0), (1, .int a1), (2, va_rf (gTf (GC w)))] [] (m_J3_checkIndex_8e157 a0 a1 h) := by
  unfold m_J3_checkIndex_8e157
  refine s_iload_n hG dJ3_checkIndex_8e157_0 0 rfl rfl ?_
  refine s_if_lt hG dJ3_checkIndex_8e157_1 (tgt := 9) (by decide) (fun q1 => ?_) (fun q1 => ?_)
  · exact s_J3_checkIndex_8e157_L9 w hx hG hE hR hT a0 a1 h
  · refine s_iload_n hG dJ3_checkIndex_8e157_4 0 rfl rfl ?_
    refine s_iload_n hG dJ3_checkIndex_8e157_5 1 rfl rfl ?_
    refine s_icmp_lt hG dJ3_checkIndex_8e157_6 (tgt := 16) (by decide) (fun q2 => ?_) (fun q2 => ?_)
    · refine s_iload_n hG dJ3_checkIndex_8e157_16 0 rfl rfl ?_
      exact s_iret hG hT dJ3_checkIndex_8e157_17
    · exact s_J3_checkIndex_8e157_L9 w hx hG hE hR hT a0 a1 h

theorem c_J3_checkIndex_8e157 (w : WT) (l : Launch) (a0 : Int32) (a1 : Int32) (h : Hp) : ∀ v h', m_J3_checkIndex_8e157 a0 a1 h = some (v, h') → MetM l (GC w) yJ3_checkIndex_8e157 cJ3_checkIndex_8e157 3 (some .int) 2 [.int a0, .int a1, va_rf (gTf (GC w))] h (inI v) h' :=
  met_of (by decide) (lokC w) (by simp [lg_sl, rv_cat, vrf_cat, cat_int, cat_long, cat_ref]) (fun x hx hG hE hR hT => s_J3_checkIndex_8e157 w hx hG hE hR hT a0 a1 h)
theorem wd_584 : Cond.fieldLink RJ0 1053 "jdk/internal/util/Preconditions" "SIOOBE_FORMATTER" "Ljava/util/function/BiFunction;" ∈ GW := gw_at 584 (by decide +kernel) (by decide +kernel)
theorem vs_J0_1059 : VS RJ0 1059 yJ3_checkIndex_8e157 cJ3_checkIndex_8e157 3 (some .int) 3 := ⟨⟨gw_at 586 (by decide +kernel) (by decide +kernel), gw_at 588 (by decide +kernel) (by decide +kernel), gw_at 99 (by decide +kernel) (by decide +kernel), by decide +kernel, by decide⟩, gw_at 587 (by decide +kernel) (by decide +kernel)⟩
def m_J0_checkIndex_df160 (a0 : Int32) (a1 : Int32) (h : Hp) : Option (Unit × Hp) := cb (m_J3_checkIndex_8e157 a0 a1 h) fun v1 h2 => some ((), h2)
set_option maxRecDepth 20000 in
set_option maxHeartbeats 4000000 in
theorem s_J0_checkIndex_df160 (w : WT) {x : CT} {l : Launch} (hx : xl x = l) (hG : Gd x cJ0_checkIndex_df160 2 RJ0) (hE : Ge x (GC w)) (hR : Rm x 3) (hT : Rt x none) (a0 : Int32) (a1 : Int32) (h : Hp) : Sn x 2 (gA (GC w)) (0, 0) (ζM x (GC w) inV) (gW (GC w) h) 0 [(0, .int a0), (1, .int a1)] [] (m_J0_checkIndex_df160 a0 a1 h) := by
  unfold m_J0_checkIndex_df160
  refine s_iload_n hG dJ0_checkIndex_df160_0 0 rfl rfl ?_
  refine s_iload_n hG dJ0_checkIndex_df160_1 1 rfl rfl ?_
  refine s_gsF (Wd := gW (GC w) h) hG hE dJ0_checkIndex_df160_2 wd_584 ?_
  refine s_callS (inj := inI) (As := [.int a0, .int a1, va_rf (gTf (GC w))]) (st := []) rfl hG hE dJ0_checkIndex_df160_5 hR (by decide) vs_J0_1059 rfl (Nat.le_of_ble_eq_true rfl) rfl (fun zv zh zq => c_J3_checkIndex_8e157 w (xl x) a0 a1 h zv zh zq) (fun v1 h2 => ?_)
  refine s_pop hG dJ0_checkIndex_df160_8 rfl ?_
  exact s_vret hG hT dJ0_checkIndex_df160_9

theorem c_J0_checkIndex_df160 (w : WT) (l : Launch) (a0 : Int32) (a1 : Int32) (h : Hp) : ∀ v h', m_J0_checkIndex_df160 a0 a1 h = some (v, h') → MetM l (GC w) yJ0_checkIndex_df160 cJ0_checkIndex_df160 2 none 3 [.int a0, .int a1] h (inV v) h' :=
  met_of (by decide) (lokC w) (Nat.le_of_ble_eq_true rfl) (fun x hx hG hE hR hT => s_J0_checkIndex_df160 w hx hG hE hR hT a0 a1 h)
theorem vs_J1_9 : VS RJ1 9 yJ0_checkIndex_df160 cJ0_checkIndex_df160 2 none 2 := ⟨⟨gw_at 581 (by decide +kernel) (by decide +kernel), gw_at 583 (by decide +kernel) (by decide +kernel), gw_at 97 (by decide +kernel) (by decide +kernel), by decide +kernel, by decide⟩, gw_at 582 (by decide +kernel) (by decide +kernel)⟩
def m_J1_charAt_3b067 (a0 : Nat) (a1 : Int32) (h : Hp) : Option (Int32 × Hp) := cb (m_J0_checkIndex_df160 a1 (Int32.ofNat (sLen.getD a0 0)) h) fun _ h2 => ck (inb a1 (sLen.getD a0 0)) (ck (decide (narrow .char (.int (((((sByt.getD a0 []).getD a1.toNatClampNeg 0) &&& 255).toUInt32 % 65536).toInt32)) = .int (((((sByt.getD a0 []).getD a1.toNatClampNeg 0) &&& 255).toUInt32 % 65536).toInt32))) (some (((((sByt.getD a0 []).getD a1.toNatClampNeg 0) &&& 255).toUInt32 % 65536).toInt32, h2)))
set_option maxRecDepth 20000 in
set_option maxHeartbeats 4000000 in
theorem s_J1_charAt_3b067 (w : WT) {x : CT} {l : Launch} (hx : xl x = l) (hG : Gd x cJ1_charAt_3b067 2 RJ1) (hE : Ge x (GC w)) (hR : Rm x 4) (hT : Rt x (some .char)) (a0 : Nat) (p0 : a0 < 12) (a1 : Int32) (h : Hp) : Sn x 2 (gA (GC w)) (0, 0) (ζM x (GC w) inI) (gW (GC w) h) 0 [(0, .ref (gV (GC w) a0)), (1, .int a1)] [] (m_J1_charAt_3b067 a0 a1 h) := by
  unfold m_J1_charAt_3b067
  refine s_iload_n hG dJ1_charAt_3b067_0 1 rfl rfl ?_
  refine s_aload_n hG dJ1_charAt_3b067_1 0 rfl rfl ?_
  refine s_klen (Wd := gW (GC w) h) hG hE p0 dJ1_charAt_3b067_2 ?_
  refine s_callS (inj := inV) (As := [.int a1, .int (Int32.ofNat (sLen.getD a0 0))]) (st := []) rfl hG hE dJ1_charAt_3b067_3 hR (by decide) vs_J1_9 rfl (Nat.le_of_ble_eq_true rfl) rfl (fun zv zh zq => c_J0_checkIndex_df160 w (xl x) a1 (Int32.ofNat (sLen.getD a0 0)) h zv zh zq) (fun v1 h2 => ?_)
  refine s_aload_n hG dJ1_charAt_3b067_6 0 rfl rfl ?_
  refine s_iload_n hG dJ1_charAt_3b067_7 1 rfl rfl ?_
  refine s_ck (fun q3 => ?_)
  refine s_kbal (Wd := gW (GC w) h2) hG hE p0 dJ1_charAt_3b067_8 q3 ?_
  refine s_sipush hG dJ1_charAt_3b067_9 sc_255 ?_
  refine s_iand hG dJ1_charAt_3b067_12 ?_
  refine s_i2c hG dJ1_charAt_3b067_13 ?_
  refine s_ck (fun q4 => ?_)
  exact s_nret hG hT (of_decide_eq_true q4) dJ1_charAt_3b067_14

theorem c_J1_charAt_3b067 (w : WT) (l : Launch) (a0 : Nat) (p0 : a0 < 12) (a1 : Int32) (h : Hp) : ∀ v h', m_J1_charAt_3b067 a0 a1 h = some (v, h') → MetM l (GC w) yJ1_charAt_3b067 cJ1_charAt_3b067 2 (some .char) 4 [.ref (gV (GC w) a0), .int a1] h (inI v) h' :=
  met_of (by decide) (lokC w) (Nat.le_of_ble_eq_true rfl) (fun x hx hG hE hR hT => s_J1_charAt_3b067 w hx hG hE hR hT a0 p0 a1 h)
theorem vv_J0_492 : VV RJ0 492 yJ0_isLatin1_aae02 cJ0_isLatin1_aae02 1 (some .boolean) 0 := ⟨⟨gw_at 574 (by decide +kernel) (by decide +kernel), gw_at 577 (by decide +kernel) (by decide +kernel), gw_at 97 (by decide +kernel) (by decide +kernel), by decide +kernel, by decide⟩, gw_at 575 (by decide +kernel) (by decide +kernel), gw_at 576 (by decide +kernel) (by decide +kernel)⟩
theorem vs_J0_495 : VS RJ0 495 yJ1_charAt_3b067 cJ1_charAt_3b067 2 (some .char) 2 := ⟨⟨gw_at 578 (by decide +kernel) (by decide +kernel), gw_at 580 (by decide +kernel) (by decide +kernel), gw_at 98 (by decide +kernel) (by decide +kernel), by decide +kernel, by decide⟩, gw_at 579 (by decide +kernel) (by decide +kernel)⟩
def m_J0_charAt_5068e (a0 : Nat) (a1 : Int32) (h : Hp) : Option (Int32 × Hp) := cb (m_J0_isLatin1_aae02 a0 h) fun v1 h2 => if v1 = 0 then none else cb (m_J1_charAt_3b067 a0 a1 h2) fun v4 h5 => ck (decide (narrow .char (.int v4) = .int v4)) (some (v4, h5))
set_option maxRecDepth 20000 in
set_option maxHeartbeats 4000000 in
theorem s_J0_charAt_5068e (w : WT) {x : CT} {l : Launch} (hx : xl x = l) (hG : Gd x cJ0_charAt_5068e 2 RJ0) (hE : Ge x (GC w)) (hR : Rm x 5) (hT : Rt x (some .char)) (a0 : Nat) (p0 : a0 < 12) (a1 : Int32) (h : Hp) : Sn x 2 (gA (GC w)) (0, 0) (ζM x (GC w) inI) (gW (GC w) h) 0 [(0, .ref (gK (GC w) a0)), (1, .int a1)] [] (m_J0_charAt_5068e a0 a1 h) := by
  unfold m_J0_charAt_5068e
  refine s_aload_n hG dJ0_charAt_5068e_0 0 rfl rfl ?_
  refine s_callK (inj := inI) (As := []) (st := []) rfl hG hE dJ0_charAt_5068e_1 hR (by decide) vv_J0_492 p0 rfl rfl (Nat.le_of_ble_eq_true rfl) rfl (fun zv zh zq => c_J0_isLatin1_aae02 w (xl x) a0 p0 h zv zh zq) (fun v1 h2 => ?_)
  refine s_if_eq hG dJ0_charAt_5068e_4 (tgt := 16) (by decide) (fun q3 => ?_) (fun q3 => ?_)
  · refine s_aload_n hG dJ0_charAt_5068e_16 0 rfl rfl ?_
    refine s_kval (Wd := gW (GC w) h2) hG hE p0 dJ0_charAt_5068e_17 wd_1577 ?_
    refine s_iload_n hG dJ0_charAt_5068e_20 1 rfl rfl ?_
    exact s_none
  · refine s_aload_n hG dJ0_charAt_5068e_7 0 rfl rfl ?_
    refine s_kval (Wd := gW (GC w) h2) hG hE p0 dJ0_charAt_5068e_8 wd_1577 ?_
    refine s_iload_n hG dJ0_charAt_5068e_11 1 rfl rfl ?_
    refine s_callS (inj := inI) (As := [.ref (gV (GC w) a0), .int a1]) (st := []) rfl hG hE dJ0_charAt_5068e_12 hR (by decide) vs_J0_495 rfl (Nat.le_of_ble_eq_true rfl) rfl (fun zv zh zq => c_J1_charAt_3b067 w (xl x) a0 p0 a1 h2 zv zh zq) (fun v4 h5 => ?_)
    refine s_ck (fun q6 => ?_)
    exact s_nret hG hT (of_decide_eq_true q6) dJ0_charAt_5068e_15

theorem c_J0_charAt_5068e (w : WT) (l : Launch) (a0 : Nat) (p0 : a0 < 12) (a1 : Int32) (h : Hp) : ∀ v h', m_J0_charAt_5068e a0 a1 h = some (v, h') → MetM l (GC w) yJ0_charAt_5068e cJ0_charAt_5068e 2 (some .char) 5 [.ref (gK (GC w) a0), .int a1] h (inI v) h' :=
  met_of (by decide) (lokC w) (Nat.le_of_ble_eq_true rfl) (fun x hx hG hE hR hT => s_J0_charAt_5068e w hx hG hE hR hT a0 p0 a1 h)
theorem fl_X4_28 : FL RX4 28 4 2 := ⟨by decide, by decide, gw_at 130 (by decide +kernel) (by decide +kernel), rfl⟩
def m_X4_here (h : Hp) : Option (Int32 × Hp) := if (gi h 9 2) < 0 then some ((-1), h) else if (gi h 9 1) ≤ (gi h 9 2) then some ((-1), h) else if 100 ≤ (gi h 9 2) then some ((-1), h) else ck (inb (gi h 9 2) 100) (some (gi h 10 (gi h 9 2).toNatClampNeg, h))
set_option maxRecDepth 20000 in
set_option maxHeartbeats 4000000 in
theorem s_X4_here (w : WT) {x : CT} {l : Launch} (hx : xl x = l) (hG : Gd x cX4_here 1 RX4) (hE : Ge x (GC w)) (hR : Rm x 1) (hT : Rt x (some .int)) (h : Hp) : Sn x 1 (gA (GC w)) (0, 0) (ζM x (GC w) inI) (gW (GC w) h) 0 [(0, .ref (gB (GC w) + 9))] [] (m_X4_here h) := by
  unfold m_X4_here
  refine s_aload_n hG dX4_here_0 0 rfl rfl ?_
  refine s_getI hG hE dX4_here_1 fl_X4_28 rfl kC_9 ?_
  refine s_if_lt hG dX4_here_4 (tgt := 39) (by decide) (fun q1 => ?_) (fun q1 => ?_)
  · refine s_iconst hG dX4_here_39 ic_m1 ?_
    exact s_iret hG hT dX4_here_40
  · refine s_aload_n hG dX4_here_7 0 rfl rfl ?_
    refine s_getI hG hE dX4_here_8 fl_X4_28 rfl kC_9 ?_
    refine s_aload_n hG dX4_here_11 0 rfl rfl ?_
    refine s_getI hG hE dX4_here_12 fl_X4_15 rfl kC_9 ?_
    refine s_icmp_ge hG dX4_here_15 (tgt := 39) (by decide) (fun q2 => ?_) (fun q2 => ?_)
    · refine s_iconst hG dX4_here_39 ic_m1 ?_
      exact s_iret hG hT dX4_here_40
    · refine s_aload_n hG dX4_here_18 0 rfl rfl ?_
      refine s_getI hG hE dX4_here_19 fl_X4_28 rfl kC_9 ?_
      refine s_bipush hG dX4_here_22 bc_100 ?_
      refine s_icmp_ge hG dX4_here_24 (tgt := 39) (by decide) (fun q3 => ?_) (fun q3 => ?_)
      · refine s_iconst hG dX4_here_39 ic_m1 ?_
        exact s_iret hG hT dX4_here_40
      · refine s_aload_n hG dX4_here_27 0 rfl rfl ?_
        refine s_getS hG hE dX4_here_28 fl_X4_9 rfl kC_9 fC_4_0 (nzC kC_10) ?_
        refine s_aload_n hG dX4_here_31 0 rfl rfl ?_
        refine s_getI hG hE dX4_here_32 fl_X4_28 rfl kC_9 ?_
        refine s_ck (fun q4 => ?_)
        refine s_iald hG hE dX4_here_35 kC_10 q4 ?_
        refine s_goto (tgt := 40) hG dX4_here_36 (by decide) ?_
        exact s_iret hG hT dX4_here_40

theorem c_X4_here (w : WT) (l : Launch) (h : Hp) : ∀ v h', m_X4_here h = some (v, h') → MetM l (GC w) yX4_here cX4_here 1 (some .int) 1 [.ref (gB (GC w) + 9)] h (inI v) h' :=
  met_of (by decide) (lokC w) (Nat.le_of_ble_eq_true rfl) (fun x hx hG hE hR hT => s_X4_here w hx hG hE hR hT h)
theorem bc_9 : (Int8.ofInt 9).toInt32 = 9 := by decide
theorem vs_X4_65 : VS RX4 65 yX4_wordOf cX4_wordOf 1 (some (.object "java/lang/String")) 1 := ⟨⟨gw_at 548 (by decide +kernel) (by decide +kernel), gw_at 550 (by decide +kernel) (by decide +kernel), gw_at 88 (by decide +kernel) (by decide +kernel), by decide +kernel, by decide⟩, gw_at 549 (by decide +kernel) (by decide +kernel)⟩
theorem vv_X4_69 : VV RX4 69 yJ0_length_8abf5 cJ0_length_8abf5 1 (some .int) 0 := ⟨⟨gw_at 560 (by decide +kernel) (by decide +kernel), gw_at 563 (by decide +kernel) (by decide +kernel), gw_at 97 (by decide +kernel) (by decide +kernel), by decide +kernel, by decide⟩, gw_at 561 (by decide +kernel) (by decide +kernel), gw_at 562 (by decide +kernel) (by decide +kernel)⟩
theorem vv_X4_73 : VV RX4 73 yJ0_charAt_5068e cJ0_charAt_5068e 2 (some .char) 1 := ⟨⟨gw_at 570 (by decide +kernel) (by decide +kernel), gw_at 573 (by decide +kernel) (by decide +kernel), gw_at 97 (by decide +kernel) (by decide +kernel), by decide +kernel, by decide⟩, gw_at 571 (by decide +kernel) (by decide +kernel), gw_at 572 (by decide +kernel) (by decide +kernel)⟩
theorem vv_X4_77 : VV RX4 77 yX4_here cX4_here 1 (some .int) 0 := ⟨⟨gw_at 608 (by decide +kernel) (by decide +kernel), gw_at 611 (by decide +kernel) (by decide +kernel), gw_at 88 (by decide +kernel) (by decide +kernel), by decide +kernel, by decide⟩, gw_at 610 (by decide +kernel) (by decide +kernel), gw_at 6 (by decide +kernel) (by decide +kernel)⟩
theorem sc_511 : (Int16.ofInt 511).toInt32 = 511 := by decide
def m_X4_readWord_L52 (k16 : Int32 → Int32 → Int32 → Int32 → Hp → Option (Int32 × Hp)) (a1 : Int32) (a2 : Int32) (a3 : Int32) (a4 : Int32) (h : Hp) : Option (Int32 × Hp) := vb (a1 &&& ((1 <<< (a4 &&& 31)) ^^^ (-1))) fun v1 => vb (a4 + 1) fun v2 => k16 v1 a2 a3 v2 h
set_option maxRecDepth 20000 in
set_option maxHeartbeats 4000000 in
theorem s_X4_readWord_L52 (w : WT) {x : CT} {l : Launch} (hx : xl x = l) (hG : Gd x cX4_readWord 6 RX4) (hE : Ge x (GC w)) (hR : Rm x 6) (hT : Rt x (some .int)) (k16 : Int32 → Int32 → Int32 → Int32 → Hp → Option (Int32 × Hp)) (hk16 : ∀ (a1 : Int32) (a2 : Int32) (a3 : Int32) (a4 : Int32) (h : Hp), Sn x 6 (gA (GC w)) (0, 0) (ζM x (GC w) inI) (gW (GC w) h) 16 [(0, .ref (gB (GC w) + 9)), (1, .int a1), (2, .int a2), (3, .int a3), (4, .int a4)] [] (k16 a1 a2 a3 a4 h)) (a1 : Int32) (a2 : Int32) (a3 : Int32) (a4 : Int32) (h : Hp) : Sn x 6 (gA (GC w)) (0, 0) (ζM x (GC w) inI) (gW (GC w) h) 52 [(0, .ref (gB (GC w) + 9)), (1, .int a1), (2, .int a2), (3, .int a3), (4, .int a4)] [] (m_X4_readWord_L52 k16 a1 a2 a3 a4 h) := by
  unfold m_X4_readWord_L52
  refine s_iload_n hG dX4_readWord_52 1 rfl rfl ?_
  refine s_iconst hG dX4_readWord_53 ic_1 ?_
  refine s_iload hG dX4_readWord_54 4 rfl ?_
  refine s_ishl hG dX4_readWord_56 ?_
  refine s_iconst hG dX4_readWord_57 ic_m1 ?_
  refine s_ixor hG dX4_readWord_58 ?_
  refine s_iand hG dX4_readWord_59 ?_
  refine s_vI (fun v1 => ?_)
  refine s_istore_n (lv' := [(1, .int v1), (0, .ref (gB (GC w) + 9)), (2, .int a2), (3, .int a3), (4, .int a4)]) hG dX4_readWord_60 rfl (by decide) rfl ?_
  refine s_goto (tgt := 88) hG dX4_readWord_61 (by decide) ?_
  refine s_iinc hG dX4_readWord_88 4 rfl ic_1 (by decide) (fun v2 => [(4, .int v2), (1, .int v1), (0, .ref (gB (GC w) + 9)), (2, .int a2), (3, .int a3)]) (fun _ => rfl) (fun v2 => ?_)
  refine s_goto (tgt := 16) hG dX4_readWord_91 (by decide) ?_
  refine s_lv [2, 1, 3, 4, 0] rfl ?_
  exact hk16 v1 a2 a3 v2 h

def m_X4_readWord_L16 (k6 : Int32 → Int32 → Hp → Option (Int32 × Hp)) : Nat → Int32 → Int32 → Int32 → Int32 → Hp → Option (Int32 × Hp)
  | 0, _, _, _, _, _ => none
  | n + 1, a1, a2, a3, a4, h => if 9 ≤ a4 then if a1 = 0 then some ((-1), h) else hb (si h 9 2 ((gi h 9 2) + 1)) fun h3 => if a3 < 0 then vb (a2 + 1) fun v5 => k6 a1 v5 h3 else some (a3, h3) else cb (m_X4_wordOf a4 h) fun v6 h7 => ck (decide (v6 < 12)) (cb (m_J0_length_8abf5 v6 h7) fun v9 h10 => if v9 ≤ a2 then m_X4_readWord_L52 (m_X4_readWord_L16 k6 n) a1 a2 a3 a4 h10 else cb (m_J0_charAt_5068e v6 a2 h10) fun v12 h13 => cb (m_X4_here h13) fun v14 h15 => if v12 = v14 then if ((a1 >>> (a4 &&& 31)) &&& 1) = 1 then cb (m_J0_length_8abf5 v6 h15) fun v19 h20 => if (a2 + 1) = v19 then vb (a4 + 1) fun v23 => m_X4_readWord_L16 k6 n a1 a2 a4 v23 h20 else vb (a4 + 1) fun v22 => m_X4_readWord_L16 k6 n a1 a2 a3 v22 h20 else vb (a4 + 1) fun v18 => m_X4_readWord_L16 k6 n a1 a2 a3 v18 h15 else m_X4_readWord_L52 (m_X4_readWord_L16 k6 n) a1 a2 a3 a4 h15)
set_option maxRecDepth 20000 in
set_option maxHeartbeats 4000000 in
theorem s_X4_readWord_L16 (w : WT) {x : CT} {l : Launch} (hx : xl x = l) (hG : Gd x cX4_readWord 6 RX4) (hE : Ge x (GC w)) (hR : Rm x 6) (hT : Rt x (some .int)) (k6 : Int32 → Int32 → Hp → Option (Int32 × Hp)) (hk6 : ∀ (a1 : Int32) (a2 : Int32) (h : Hp), Sn x 6 (gA (GC w)) (0, 0) (ζM x (GC w) inI) (gW (GC w) h) 6 [(0, .ref (gB (GC w) + 9)), (1, .int a1), (2, .int a2)] [] (k6 a1 a2 h)) : ∀ (n : Nat) (a1 : Int32) (a2 : Int32) (a3 : Int32) (a4 : Int32) (h : Hp), Sn x 6 (gA (GC w)) (0, 0) (ζM x (GC w) inI) (gW (GC w) h) 16 [(0, .ref (gB (GC w) + 9)), (1, .int a1), (2, .int a2), (3, .int a3), (4, .int a4)] [] (m_X4_readWord_L16 k6 n a1 a2 a3 a4 h) := by
  intro n
  induction n with
  | zero => intro a1 a2 a3 a4 h; exact s_none
  | succ n ih =>
    intro a1 a2 a3 a4 h
    rw [m_X4_readWord_L16]
    refine s_iload hG dX4_readWord_16 4 rfl ?_
    refine s_bipush hG dX4_readWord_18 bc_9 ?_
    refine s_icmp_ge hG dX4_readWord_20 (tgt := 94) (by decide) (fun q1 => ?_) (fun q1 => ?_)
    · refine s_iload_n hG dX4_readWord_94 1 rfl rfl ?_
      refine s_if_ne hG dX4_readWord_95 (tgt := 100) (by decide) (fun q2 => ?_) (fun q2 => ?_)
      · refine s_iconst hG dX4_readWord_98 ic_m1 ?_
        exact s_iret hG hT dX4_readWord_99
      · refine s_aload_n hG dX4_readWord_100 0 rfl rfl ?_
        refine s_dup hG dX4_readWord_101 rfl ?_
        refine s_getI hG hE dX4_readWord_102 fl_X4_28 rfl kC_9 ?_
        refine s_iconst hG dX4_readWord_105 ic_1 ?_
        refine s_iadd hG dX4_readWord_106 ?_
        refine s_putI hG hE dX4_readWord_107 fl_X4_28 rfl rfl kC_9 (fun h3 => ?_)
        refine s_iload_n hG dX4_readWord_110 3 rfl rfl ?_
        refine s_if_lt hG dX4_readWord_111 (tgt := 116) (by decide) (fun q4 => ?_) (fun q4 => ?_)
        · refine s_iinc hG dX4_readWord_116 2 rfl ic_1 (by decide) (fun v5 => [(2, .int v5), (0, .ref (gB (GC w) + 9)), (1, .int a1), (3, .int a3), (4, .int a4)]) (fun _ => rfl) (fun v5 => ?_)
          refine s_goto (tgt := 6) hG dX4_readWord_119 (by decide) ?_
          refine s_lv [1, 2, 0] rfl ?_
          exact hk6 a1 v5 h3
        · refine s_iload_n hG dX4_readWord_114 3 rfl rfl ?_
          exact s_iret hG hT dX4_readWord_115
    · refine s_iload hG dX4_readWord_23 4 rfl ?_
      refine s_callS (inj := (inS (gK (GC w)))) (As := [.int a4]) (st := []) rfl hG hE dX4_readWord_25 hR (by decide) vs_X4_65 rfl (Nat.le_of_ble_eq_true rfl) rfl (fun zv zh zq => c_X4_wordOf w (xl x) a4 h zv zh zq) (fun v6 h7 => ?_)
      refine s_ck (fun q8 => ?_)
      refine s_astore (lv' := [(5, .ref (gK (GC w) v6)), (0, .ref (gB (GC w) + 9)), (1, .int a1), (2, .int a2), (3, .int a3), (4, .int a4)]) hG dX4_readWord_28 (by decide) rfl ?_
      refine s_iload_n hG dX4_readWord_30 3 rfl rfl ?_
      refine s_aload hG dX4_readWord_31 0 rfl ?_
      refine s_callK (inj := inI) (As := []) (st := [.int a2]) rfl hG hE dX4_readWord_33 hR (by decide) vv_X4_69 (of_decide_eq_true q8) rfl rfl (Nat.le_of_ble_eq_true rfl) rfl (fun zv zh zq => c_J0_length_8abf5 w (xl x) v6 (of_decide_eq_true q8) h7 zv zh zq) (fun v9 h10 => ?_)
      refine s_icmp_ge hG dX4_readWord_36 (tgt := 52) (by decide) (fun q11 => ?_) (fun q11 => ?_)
      · refine s_lv [1, 2, 3, 4, 5] rfl ?_
        exact s_X4_readWord_L52 w hx hG hE hR hT (m_X4_readWord_L16 k6 n) ih a1 a2 a3 a4 h10
      · refine s_aload hG dX4_readWord_39 0 rfl ?_
        refine s_iload_n hG dX4_readWord_41 3 rfl rfl ?_
        refine s_callK (inj := inI) (As := [.int a2]) (st := []) rfl hG hE dX4_readWord_42 hR (by decide) vv_X4_73 (of_decide_eq_true q8) rfl rfl (Nat.le_of_ble_eq_true rfl) rfl (fun zv zh zq => c_J0_charAt_5068e w (xl x) v6 (of_decide_eq_true q8) a2 h10 zv zh zq) (fun v12 h13 => ?_)
        refine s_aload_n hG dX4_readWord_45 1 rfl rfl ?_
        refine s_callV (a := 9) (c := 4) (inj := inI) (As := []) (st := [.int v12]) rfl hG hE dX4_readWord_46 hR (by decide) vv_X4_77 (by decide) rfl kC_9 rfl (Nat.le_of_ble_eq_true rfl) rfl (fun zv zh zq => c_X4_here w (xl x) h13 zv zh zq) (fun v14 h15 => ?_)
        refine s_icmp_eq hG dX4_readWord_49 (tgt := 64) (by decide) (fun q16 => ?_) (fun q16 => ?_)
        · refine s_iload_n hG dX4_readWord_64 2 rfl rfl ?_
          refine s_iload hG dX4_readWord_65 5 rfl ?_
          refine s_ishr hG dX4_readWord_67 ?_
          refine s_iconst hG dX4_readWord_68 ic_1 ?_
          refine s_iand hG dX4_readWord_69 ?_
          refine s_iconst hG dX4_readWord_70 ic_1 ?_
          refine s_icmp_ne hG dX4_readWord_71 (tgt := 88) (by decide) (fun q17 => ?_) (fun q17 => ?_)
          · refine s_iload_n hG dX4_readWord_74 3 rfl rfl ?_
            refine s_iconst hG dX4_readWord_75 ic_1 ?_
            refine s_iadd hG dX4_readWord_76 ?_
            refine s_aload hG dX4_readWord_77 0 rfl ?_
            refine s_callK (inj := inI) (As := []) (st := [.int (a2 + 1)]) rfl hG hE dX4_readWord_79 hR (by decide) vv_X4_69 (of_decide_eq_true q8) rfl rfl (Nat.le_of_ble_eq_true rfl) rfl (fun zv zh zq => c_J0_length_8abf5 w (xl x) v6 (of_decide_eq_true q8) h15 zv zh zq) (fun v19 h20 => ?_)
            refine s_icmp_ne hG dX4_readWord_82 (tgt := 88) (by decide) (fun q21 => ?_) (fun q21 => ?_)
            · refine s_iload hG dX4_readWord_85 5 rfl ?_
              refine s_istore_n (lv' := [(3, .int a4), (5, .ref (gK (GC w) v6)), (0, .ref (gB (GC w) + 9)), (1, .int a1), (2, .int a2), (4, .int a4)]) hG dX4_readWord_87 rfl (by decide) rfl ?_
              refine s_iinc hG dX4_readWord_88 5 rfl ic_1 (by decide) (fun v23 => [(4, .int v23), (3, .int a4), (5, .ref (gK (GC w) v6)), (0, .ref (gB (GC w) + 9)), (1, .int a1), (2, .int a2)]) (fun _ => rfl) (fun v23 => ?_)
              refine s_goto (tgt := 16) hG dX4_readWord_91 (by decide) ?_
              refine s_lv [3, 4, 5, 1, 0] rfl ?_
              exact ih a1 a2 a4 v23 h20
            · refine s_iinc hG dX4_readWord_88 5 rfl ic_1 (by decide) (fun v22 => [(4, .int v22), (5, .ref (gK (GC w) v6)), (0, .ref (gB (GC w) + 9)), (1, .int a1), (2, .int a2), (3, .int a3)]) (fun _ => rfl) (fun v22 => ?_)
              refine s_goto (tgt := 16) hG dX4_readWord_91 (by decide) ?_
              refine s_lv [2, 3, 4, 5, 0] rfl ?_
              exact ih a1 a2 a3 v22 h20
          · refine s_iinc hG dX4_readWord_88 5 rfl ic_1 (by decide) (fun v18 => [(4, .int v18), (5, .ref (gK (GC w) v6)), (0, .ref (gB (GC w) + 9)), (1, .int a1), (2, .int a2), (3, .int a3)]) (fun _ => rfl) (fun v18 => ?_)
            refine s_goto (tgt := 16) hG dX4_readWord_91 (by decide) ?_
            refine s_lv [2, 3, 4, 5, 0] rfl ?_
            exact ih a1 a2 a3 v18 h15
        · refine s_lv [1, 2, 3, 4, 5] rfl ?_
          exact s_X4_readWord_L52 w hx hG hE hR hT (m_X4_readWord_L16 k6 n) ih a1 a2 a3 a4 h15

def m_X4_readWord_L6 : Nat → Int32 → Int32 → Hp → Option (Int32 × Hp)
  | 0, _, _, _ => none
  | n + 1, a1, a2, h => if 5 ≤ a2 then some ((-1), h) else m_X4_readWord_L16 (m_X4_readWord_L6 n) FU a1 a2 (-1) 0 h
set_option maxRecDepth 20000 in
set_option maxHeartbeats 4000000 in
theorem s_X4_readWord_L6 (w : WT) {x : CT} {l : Launch} (hx : xl x = l) (hG : Gd x cX4_readWord 6 RX4) (hE : Ge x (GC w)) (hR : Rm x 6) (hT : Rt x (some .int)) : ∀ (n : Nat) (a1 : Int32) (a2 : Int32) (h : Hp), Sn x 6 (gA (GC w)) (0, 0) (ζM x (GC w) inI) (gW (GC w) h) 6 [(0, .ref (gB (GC w) + 9)), (1, .int a1), (2, .int a2)] [] (m_X4_readWord_L6 n a1 a2 h) := by
  intro n
  induction n with
  | zero => intro a1 a2 h; exact s_none
  | succ n ih =>
    intro a1 a2 h
    rw [m_X4_readWord_L6]
    refine s_iload_n hG dX4_readWord_6 2 rfl rfl ?_
    refine s_iconst hG dX4_readWord_7 ic_5 ?_
    refine s_icmp_ge hG dX4_readWord_8 (tgt := 122) (by decide) (fun q1 => ?_) (fun q1 => ?_)
    · refine s_iconst hG dX4_readWord_122 ic_m1 ?_
      exact s_iret hG hT dX4_readWord_123
    · refine s_iconst hG dX4_readWord_11 ic_m1 ?_
      refine s_istore_n (lv' := [(3, .int (-1)), (0, .ref (gB (GC w) + 9)), (1, .int a1), (2, .int a2)]) hG dX4_readWord_12 rfl (by decide) rfl ?_
      refine s_iconst hG dX4_readWord_13 ic_0 ?_
      refine s_istore (lv' := [(4, .int 0), (3, .int (-1)), (0, .ref (gB (GC w) + 9)), (1, .int a1), (2, .int a2)]) hG dX4_readWord_14 (by decide) rfl ?_
      refine s_lv [2, 3, 4, 1, 0] rfl ?_
      exact s_X4_readWord_L16 w hx hG hE hR hT (m_X4_readWord_L6 n) ih FU a1 a2 (-1) 0 h

def m_X4_readWord (h : Hp) : Option (Int32 × Hp) := m_X4_readWord_L6 FU 511 0 h
set_option maxRecDepth 20000 in
set_option maxHeartbeats 4000000 in
theorem s_X4_readWord (w : WT) {x : CT} {l : Launch} (hx : xl x = l) (hG : Gd x cX4_readWord 6 RX4) (hE : Ge x (GC w)) (hR : Rm x 6) (hT : Rt x (some .int)) (h : Hp) : Sn x 6 (gA (GC w)) (0, 0) (ζM x (GC w) inI) (gW (GC w) h) 0 [(0, .ref (gB (GC w) + 9))] [] (m_X4_readWord h) := by
  unfold m_X4_readWord
  refine s_sipush hG dX4_readWord_0 sc_511 ?_
  refine s_istore_n (lv' := [(1, .int 511), (0, .ref (gB (GC w) + 9))]) hG dX4_readWord_3 rfl (by decide) rfl ?_
  refine s_iconst hG dX4_readWord_4 ic_0 ?_
  refine s_istore_n (lv' := [(2, .int 0), (1, .int 511), (0, .ref (gB (GC w) + 9))]) hG dX4_readWord_5 rfl (by decide) rfl ?_
  refine s_lv [2, 1, 0] rfl ?_
  exact s_X4_readWord_L6 w hx hG hE hR hT FU 511 0 h

theorem c_X4_readWord (w : WT) (l : Launch) (h : Hp) : ∀ v h', m_X4_readWord h = some (v, h') → MetM l (GC w) yX4_readWord cX4_readWord 6 (some .int) 6 [.ref (gB (GC w) + 9)] h (inI v) h' :=
  met_of (by decide) (lokC w) (Nat.le_of_ble_eq_true rfl) (fun x hx hG hE hR hT => s_X4_readWord w hx hG hE hR hT h)
def m_X4_pass (a1 : Int32) (h : Hp) : Option (Int32 × Hp) := cb (m_X4_here h) fun v1 h2 => if v1 = a1 then hb (si h2 9 2 ((gi h2 9 2) + 1)) fun h4 => some (1, h4) else some (0, h2)
set_option maxRecDepth 20000 in
set_option maxHeartbeats 4000000 in
theorem s_X4_pass (w : WT) {x : CT} {l : Launch} (hx : xl x = l) (hG : Gd x cX4_pass 2 RX4) (hE : Ge x (GC w)) (hR : Rm x 2) (hT : Rt x (some .boolean)) (a1 : Int32) (h : Hp) : Sn x 2 (gA (GC w)) (0, 0) (ζM x (GC w) inI) (gW (GC w) h) 0 [(0, .ref (gB (GC w) + 9)), (1, .int a1)] [] (m_X4_pass a1 h) := by
  unfold m_X4_pass
  refine s_aload_n hG dX4_pass_0 0 rfl rfl ?_
  refine s_callV (a := 9) (c := 4) (inj := inI) (As := []) (st := []) rfl hG hE dX4_pass_1 hR (by decide) vv_X4_77 (by decide) rfl kC_9 rfl (Nat.le_of_ble_eq_true rfl) rfl (fun zv zh zq => c_X4_here w (xl x) h zv zh zq) (fun v1 h2 => ?_)
  refine s_iload_n hG dX4_pass_4 1 rfl rfl ?_
  refine s_icmp_eq hG dX4_pass_5 (tgt := 10) (by decide) (fun q3 => ?_) (fun q3 => ?_)
  · refine s_aload_n hG dX4_pass_10 0 rfl rfl ?_
    refine s_dup hG dX4_pass_11 rfl ?_
    refine s_getI hG hE dX4_pass_12 fl_X4_28 rfl kC_9 ?_
    refine s_iconst hG dX4_pass_15 ic_1 ?_
    refine s_iadd hG dX4_pass_16 ?_
    refine s_putI hG hE dX4_pass_17 fl_X4_28 rfl rfl kC_9 (fun h4 => ?_)
    refine s_iconst hG dX4_pass_20 ic_1 ?_
    exact s_zret hG hT (by decide) dX4_pass_21
  · refine s_iconst hG dX4_pass_8 ic_0 ?_
    exact s_zret hG hT (by decide) dX4_pass_9

theorem c_X4_pass (w : WT) (l : Launch) (a1 : Int32) (h : Hp) : ∀ v h', m_X4_pass a1 h = some (v, h') → MetM l (GC w) yX4_pass cX4_pass 2 (some .boolean) 2 [.ref (gB (GC w) + 9), .int a1] h (inI v) h' :=
  met_of (by decide) (lokC w) (Nat.le_of_ble_eq_true rfl) (fun x hx hG hE hR hT => s_X4_pass w hx hG hE hR hT a1 h)
theorem bc_48 : (Int8.ofInt 48).toInt32 = 48 := by decide
theorem bc_57 : (Int8.ofInt 57).toInt32 = 57 := by decide
def m_X4_isFigure (a0 : Int32) (h : Hp) : Option (Int32 × Hp) := if a0 < 48 then some (0, h) else if 57 < a0 then some (0, h) else some (1, h)
set_option maxRecDepth 20000 in
set_option maxHeartbeats 4000000 in
theorem s_X4_isFigure (w : WT) {x : CT} {l : Launch} (hx : xl x = l) (hG : Gd x cX4_isFigure 1 RX4) (hE : Ge x (GC w)) (hR : Rm x 1) (hT : Rt x (some .boolean)) (a0 : Int32) (h : Hp) : Sn x 1 (gA (GC w)) (0, 0) (ζM x (GC w) inI) (gW (GC w) h) 0 [(0, .int a0)] [] (m_X4_isFigure a0 h) := by
  unfold m_X4_isFigure
  refine s_iload_n hG dX4_isFigure_0 0 rfl rfl ?_
  refine s_bipush hG dX4_isFigure_1 bc_48 ?_
  refine s_icmp_lt hG dX4_isFigure_3 (tgt := 16) (by decide) (fun q1 => ?_) (fun q1 => ?_)
  · refine s_iconst hG dX4_isFigure_16 ic_0 ?_
    exact s_zret hG hT (by decide) dX4_isFigure_17
  · refine s_iload_n hG dX4_isFigure_6 0 rfl rfl ?_
    refine s_bipush hG dX4_isFigure_7 bc_57 ?_
    refine s_icmp_gt hG dX4_isFigure_9 (tgt := 16) (by decide) (fun q2 => ?_) (fun q2 => ?_)
    · refine s_iconst hG dX4_isFigure_16 ic_0 ?_
      exact s_zret hG hT (by decide) dX4_isFigure_17
    · refine s_iconst hG dX4_isFigure_12 ic_1 ?_
      refine s_goto (tgt := 17) hG dX4_isFigure_13 (by decide) ?_
      exact s_zret hG hT (by decide) dX4_isFigure_17

theorem c_X4_isFigure (w : WT) (l : Launch) (a0 : Int32) (h : Hp) : ∀ v h', m_X4_isFigure a0 h = some (v, h') → MetM l (GC w) yX4_isFigure cX4_isFigure 1 (some .boolean) 1 [.int a0] h (inI v) h' :=
  met_of (by decide) (lokC w) (Nat.le_of_ble_eq_true rfl) (fun x hx hG hE hR hT => s_X4_isFigure w hx hG hE hR hT a0 h)
theorem vs_X4_112 : VS RX4 112 yX4_isFigure cX4_isFigure 1 (some .boolean) 1 := ⟨⟨gw_at 624 (by decide +kernel) (by decide +kernel), gw_at 626 (by decide +kernel) (by decide +kernel), gw_at 88 (by decide +kernel) (by decide +kernel), by decide +kernel, by decide⟩, gw_at 625 (by decide +kernel) (by decide +kernel)⟩
theorem bc_10 : (Int8.ofInt 10).toInt32 = 10 := by decide
def m_X4_readNumber (h : Hp) : Option (Int32 × Hp) := cb (m_X4_here h) fun v1 h2 => cb (m_X4_isFigure v1 h2) fun v3 h4 => if v3 = 0 then some ((-1), h4) else cb (m_X4_here h4) fun v6 h7 => vb (v6 - 48) fun v8 => hb (si h7 9 2 ((gi h7 9 2) + 1)) fun h9 => cb (m_X4_here h9) fun v10 h11 => cb (m_X4_isFigure v10 h11) fun v12 h13 => if v12 = 0 then some (v8, h13) else cb (m_X4_here h13) fun v15 h16 => vb (((v8 * 10) + v15) - 48) fun v17 => hb (si h16 9 2 ((gi h16 9 2) + 1)) fun h18 => some (v17, h18)
set_option maxRecDepth 20000 in
set_option maxHeartbeats 4000000 in
theorem s_X4_readNumber (w : WT) {x : CT} {l : Launch} (hx : xl x = l) (hG : Gd x cX4_readNumber 2 RX4) (hE : Ge x (GC w)) (hR : Rm x 2) (hT : Rt x (some .int)) (h : Hp) : Sn x 2 (gA (GC w)) (0, 0) (ζM x (GC w) inI) (gW (GC w) h) 0 [(0, .ref (gB (GC w) + 9))] [] (m_X4_readNumber h) := by
  unfold m_X4_readNumber
  refine s_aload_n hG dX4_readNumber_0 0 rfl rfl ?_
  refine s_callV (a := 9) (c := 4) (inj := inI) (As := []) (st := []) rfl hG hE dX4_readNumber_1 hR (by decide) vv_X4_77 (by decide) rfl kC_9 rfl (Nat.le_of_ble_eq_true rfl) rfl (fun zv zh zq => c_X4_here w (xl x) h zv zh zq) (fun v1 h2 => ?_)
  refine s_callS (inj := inI) (As := [.int v1]) (st := []) rfl hG hE dX4_readNumber_4 hR (by decide) vs_X4_112 rfl (Nat.le_of_ble_eq_true rfl) rfl (fun zv zh zq => c_X4_isFigure w (xl x) v1 h2 zv zh zq) (fun v3 h4 => ?_)
  refine s_if_ne hG dX4_readNumber_7 (tgt := 12) (by decide) (fun q5 => ?_) (fun q5 => ?_)
  · refine s_iconst hG dX4_readNumber_10 ic_m1 ?_
    exact s_iret hG hT dX4_readNumber_11
  · refine s_aload_n hG dX4_readNumber_12 0 rfl rfl ?_
    refine s_callV (a := 9) (c := 4) (inj := inI) (As := []) (st := []) rfl hG hE dX4_readNumber_13 hR (by decide) vv_X4_77 (by decide) rfl kC_9 rfl (Nat.le_of_ble_eq_true rfl) rfl (fun zv zh zq => c_X4_here w (xl x) h4 zv zh zq) (fun v6 h7 => ?_)
    refine s_bipush hG dX4_readNumber_16 bc_48 ?_
    refine s_isub hG dX4_readNumber_18 ?_
    refine s_vI (fun v8 => ?_)
    refine s_istore_n (lv' := [(1, .int v8), (0, .ref (gB (GC w) + 9))]) hG dX4_readNumber_19 rfl (by decide) rfl ?_
    refine s_aload_n hG dX4_readNumber_20 1 rfl rfl ?_
    refine s_dup hG dX4_readNumber_21 rfl ?_
    refine s_getI hG hE dX4_readNumber_22 fl_X4_28 rfl kC_9 ?_
    refine s_iconst hG dX4_readNumber_25 ic_1 ?_
    refine s_iadd hG dX4_readNumber_26 ?_
    refine s_putI hG hE dX4_readNumber_27 fl_X4_28 rfl rfl kC_9 (fun h9 => ?_)
    refine s_aload_n hG dX4_readNumber_30 1 rfl rfl ?_
    refine s_callV (a := 9) (c := 4) (inj := inI) (As := []) (st := []) rfl hG hE dX4_readNumber_31 hR (by decide) vv_X4_77 (by decide) rfl kC_9 rfl (Nat.le_of_ble_eq_true rfl) rfl (fun zv zh zq => c_X4_here w (xl x) h9 zv zh zq) (fun v10 h11 => ?_)
    refine s_callS (inj := inI) (As := [.int v10]) (st := []) rfl hG hE dX4_readNumber_34 hR (by decide) vs_X4_112 rfl (Nat.le_of_ble_eq_true rfl) rfl (fun zv zh zq => c_X4_isFigure w (xl x) v10 h11 zv zh zq) (fun v12 h13 => ?_)
    refine s_if_eq hG dX4_readNumber_37 (tgt := 63) (by decide) (fun q14 => ?_) (fun q14 => ?_)
    · refine s_iload_n hG dX4_readNumber_63 0 rfl rfl ?_
      exact s_iret hG hT dX4_readNumber_64
    · refine s_iload_n hG dX4_readNumber_40 0 rfl rfl ?_
      refine s_bipush hG dX4_readNumber_41 bc_10 ?_
      refine s_imul hG dX4_readNumber_43 ?_
      refine s_aload_n hG dX4_readNumber_44 1 rfl rfl ?_
      refine s_callV (a := 9) (c := 4) (inj := inI) (As := []) (st := [.int (v8 * 10)]) rfl hG hE dX4_readNumber_45 hR (by decide) vv_X4_77 (by decide) rfl kC_9 rfl (Nat.le_of_ble_eq_true rfl) rfl (fun zv zh zq => c_X4_here w (xl x) h13 zv zh zq) (fun v15 h16 => ?_)
      refine s_iadd hG dX4_readNumber_48 ?_
      refine s_bipush hG dX4_readNumber_49 bc_48 ?_
      refine s_isub hG dX4_readNumber_51 ?_
      refine s_vI (fun v17 => ?_)
      refine s_istore_n (lv' := [(1, .int v17), (0, .ref (gB (GC w) + 9))]) hG dX4_readNumber_52 rfl (by decide) rfl ?_
      refine s_aload_n hG dX4_readNumber_53 1 rfl rfl ?_
      refine s_dup hG dX4_readNumber_54 rfl ?_
      refine s_getI hG hE dX4_readNumber_55 fl_X4_28 rfl kC_9 ?_
      refine s_iconst hG dX4_readNumber_58 ic_1 ?_
      refine s_iadd hG dX4_readNumber_59 ?_
      refine s_putI hG hE dX4_readNumber_60 fl_X4_28 rfl rfl kC_9 (fun h18 => ?_)
      refine s_iload_n hG dX4_readNumber_63 0 rfl rfl ?_
      exact s_iret hG hT dX4_readNumber_64

theorem c_X4_readNumber (w : WT) (l : Launch) (h : Hp) : ∀ v h', m_X4_readNumber h = some (v, h') → MetM l (GC w) yX4_readNumber cX4_readNumber 2 (some .int) 2 [.ref (gB (GC w) + 9)] h (inI v) h' :=
  met_of (by decide) (lokC w) (Nat.le_of_ble_eq_true rfl) (fun x hx hG hE hR hT => s_X4_readNumber w hx hG hE hR hT h)
theorem vv_X4_50 : VV RX4 50 yX4_readNumber cX4_readNumber 2 (some .int) 0 := ⟨⟨gw_at 620 (by decide +kernel) (by decide +kernel), gw_at 623 (by decide +kernel) (by decide +kernel), gw_at 88 (by decide +kernel) (by decide +kernel), by decide +kernel, by decide⟩, gw_at 622 (by decide +kernel) (by decide +kernel), gw_at 9 (by decide +kernel) (by decide +kernel)⟩
def m_X4_readDivisor (h : Hp) : Option (Int32 × Hp) := cb (m_X4_here h) fun v1 h2 => if v1 = 48 then hb (si h2 9 2 ((gi h2 9 2) + 1)) fun h4 => cb (m_X4_here h4) fun v5 h6 => cb (m_X4_isFigure v5 h6) fun v7 h8 => if v7 = 0 then some ((-1), h8) else cb (m_X4_here h8) fun v10 h11 => if v10 = 48 then some ((-1), h11) else cb (m_X4_here h11) fun v13 h14 => vb (v13 - 48) fun v15 => hb (si h14 9 2 ((gi h14 9 2) + 1)) fun h16 => some (v15, h16) else cb (m_X4_readNumber h2) fun v17 h18 => some (v17, h18)
set_option maxRecDepth 20000 in
set_option maxHeartbeats 4000000 in
theorem s_X4_readDivisor (w : WT) {x : CT} {l : Launch} (hx : xl x = l) (hG : Gd x cX4_readDivisor 2 RX4) (hE : Ge x (GC w)) (hR : Rm x 3) (hT : Rt x (some .int)) (h : Hp) : Sn x 2 (gA (GC w)) (0, 0) (ζM x (GC w) inI) (gW (GC w) h) 0 [(0, .ref (gB (GC w) + 9))] [] (m_X4_readDivisor h) := by
  unfold m_X4_readDivisor
  refine s_aload_n hG dX4_readDivisor_0 0 rfl rfl ?_
  refine s_callV (a := 9) (c := 4) (inj := inI) (As := []) (st := []) rfl hG hE dX4_readDivisor_1 hR (by decide) vv_X4_77 (by decide) rfl kC_9 rfl (Nat.le_of_ble_eq_true rfl) rfl (fun zv zh zq => c_X4_here w (xl x) h zv zh zq) (fun v1 h2 => ?_)
  refine s_bipush hG dX4_readDivisor_4 bc_48 ?_
  refine s_icmp_eq hG dX4_readDivisor_6 (tgt := 14) (by decide) (fun q3 => ?_) (fun q3 => ?_)
  · refine s_aload_n hG dX4_readDivisor_14 0 rfl rfl ?_
    refine s_dup hG dX4_readDivisor_15 rfl ?_
    refine s_getI hG hE dX4_readDivisor_16 fl_X4_28 rfl kC_9 ?_
    refine s_iconst hG dX4_readDivisor_19 ic_1 ?_
    refine s_iadd hG dX4_readDivisor_20 ?_
    refine s_putI hG hE dX4_readDivisor_21 fl_X4_28 rfl rfl kC_9 (fun h4 => ?_)
    refine s_aload_n hG dX4_readDivisor_24 0 rfl rfl ?_
    refine s_callV (a := 9) (c := 4) (inj := inI) (As := []) (st := []) rfl hG hE dX4_readDivisor_25 hR (by decide) vv_X4_77 (by decide) rfl kC_9 rfl (Nat.le_of_ble_eq_true rfl) rfl (fun zv zh zq => c_X4_here w (xl x) h4 zv zh zq) (fun v5 h6 => ?_)
    refine s_callS (inj := inI) (As := [.int v5]) (st := []) rfl hG hE dX4_readDivisor_28 hR (by decide) vs_X4_112 rfl (Nat.le_of_ble_eq_true rfl) rfl (fun zv zh zq => c_X4_isFigure w (xl x) v5 h6 zv zh zq) (fun v7 h8 => ?_)
    refine s_if_eq hG dX4_readDivisor_31 (tgt := 43) (by decide) (fun q9 => ?_) (fun q9 => ?_)
    · refine s_iconst hG dX4_readDivisor_43 ic_m1 ?_
      exact s_iret hG hT dX4_readDivisor_44
    · refine s_aload_n hG dX4_readDivisor_34 0 rfl rfl ?_
      refine s_callV (a := 9) (c := 4) (inj := inI) (As := []) (st := []) rfl hG hE dX4_readDivisor_35 hR (by decide) vv_X4_77 (by decide) rfl kC_9 rfl (Nat.le_of_ble_eq_true rfl) rfl (fun zv zh zq => c_X4_here w (xl x) h8 zv zh zq) (fun v10 h11 => ?_)
      refine s_bipush hG dX4_readDivisor_38 bc_48 ?_
      refine s_icmp_ne hG dX4_readDivisor_40 (tgt := 45) (by decide) (fun q12 => ?_) (fun q12 => ?_)
      · refine s_iconst hG dX4_readDivisor_43 ic_m1 ?_
        exact s_iret hG hT dX4_readDivisor_44
      · refine s_aload_n hG dX4_readDivisor_45 0 rfl rfl ?_
        refine s_callV (a := 9) (c := 4) (inj := inI) (As := []) (st := []) rfl hG hE dX4_readDivisor_46 hR (by decide) vv_X4_77 (by decide) rfl kC_9 rfl (Nat.le_of_ble_eq_true rfl) rfl (fun zv zh zq => c_X4_here w (xl x) h11 zv zh zq) (fun v13 h14 => ?_)
        refine s_bipush hG dX4_readDivisor_49 bc_48 ?_
        refine s_isub hG dX4_readDivisor_51 ?_
        refine s_vI (fun v15 => ?_)
        refine s_istore_n (lv' := [(1, .int v15), (0, .ref (gB (GC w) + 9))]) hG dX4_readDivisor_52 rfl (by decide) rfl ?_
        refine s_aload_n hG dX4_readDivisor_53 1 rfl rfl ?_
        refine s_dup hG dX4_readDivisor_54 rfl ?_
        refine s_getI hG hE dX4_readDivisor_55 fl_X4_28 rfl kC_9 ?_
        refine s_iconst hG dX4_readDivisor_58 ic_1 ?_
        refine s_iadd hG dX4_readDivisor_59 ?_
        refine s_putI hG hE dX4_readDivisor_60 fl_X4_28 rfl rfl kC_9 (fun h16 => ?_)
        refine s_iload_n hG dX4_readDivisor_63 0 rfl rfl ?_
        exact s_iret hG hT dX4_readDivisor_64
  · refine s_aload_n hG dX4_readDivisor_9 0 rfl rfl ?_
    refine s_callV (a := 9) (c := 4) (inj := inI) (As := []) (st := []) rfl hG hE dX4_readDivisor_10 hR (by decide) vv_X4_50 (by decide) rfl kC_9 rfl (Nat.le_of_ble_eq_true rfl) rfl (fun zv zh zq => c_X4_readNumber w (xl x) h2 zv zh zq) (fun v17 h18 => ?_)
    exact s_iret hG hT dX4_readDivisor_13

theorem c_X4_readDivisor (w : WT) (l : Launch) (h : Hp) : ∀ v h', m_X4_readDivisor h = some (v, h') → MetM l (GC w) yX4_readDivisor cX4_readDivisor 2 (some .int) 3 [.ref (gB (GC w) + 9)] h (inI v) h' :=
  met_of (by decide) (lokC w) (Nat.le_of_ble_eq_true rfl) (fun x hx hG hE hR hT => s_X4_readDivisor w hx hG hE hR hT h)
theorem fl_X3_9 : FL RX3 9 3 0 := ⟨by decide, by decide, gw_at 345 (by decide +kernel) (by decide +kernel), rfl⟩
theorem iC_3 {a : Nat} (h : LC a = (4, 0)) : a = 144 ∨ a = 150 ∨ a = 156 ∨ a = 162 ∨ a = 168 ∨ a = 174 := by
  have hl : a < 192 := layC_lt (by rw [h]; exact Nat.succ_ne_zero _)
  exact (show ∀ a, a < 192 → LC a = (4, 0) → a = 144 ∨ a = 150 ∨ a = 156 ∨ a = 162 ∨ a = 168 ∨ a = 174 by decide +kernel) a hl h
theorem fC_3_0 {a : Nat} (h : LC a = (4, 0)) : SC a 0 = some (a + 1) ∧ LC (a + 1) = (20, 8) := by
  rcases iC_3 h with rfl | rfl | rfl | rfl | rfl | rfl <;> exact ⟨rfl, rfl⟩
theorem fl_X3_15 : FL RX3 15 3 1 := ⟨by decide, by decide, gw_at 346 (by decide +kernel) (by decide +kernel), rfl⟩
theorem fC_3_1 {a : Nat} (h : LC a = (4, 0)) : SC a 1 = some (a + 2) ∧ LC (a + 2) = (20, 8) := by
  rcases iC_3 h with rfl | rfl | rfl | rfl | rfl | rfl <;> exact ⟨rfl, rfl⟩
theorem fl_X3_18 : FL RX3 18 3 2 := ⟨by decide, by decide, gw_at 348 (by decide +kernel) (by decide +kernel), rfl⟩
theorem fC_3_2 {a : Nat} (h : LC a = (4, 0)) : SC a 2 = some (a + 3) ∧ LC (a + 3) = (20, 8) := by
  rcases iC_3 h with rfl | rfl | rfl | rfl | rfl | rfl <;> exact ⟨rfl, rfl⟩
theorem fl_X3_21 : FL RX3 21 3 3 := ⟨by decide, by decide, gw_at 349 (by decide +kernel) (by decide +kernel), rfl⟩
theorem fC_3_3 {a : Nat} (h : LC a = (4, 0)) : SC a 3 = some (a + 4) ∧ LC (a + 4) = (20, 8) := by
  rcases iC_3 h with rfl | rfl | rfl | rfl | rfl | rfl <;> exact ⟨rfl, rfl⟩
def m_X3_beginClause (a0 : Nat) (a1 : Int32) (a2 : Int32) (h : Hp) : Option (Unit × Hp) := if (gi h a0 5) < 8 then ck (inb (gi h a0 5) 8) (hb (si h (a0 + 1) (gi h a0 5).toNatClampNeg a1) fun h3 => ck (inb (gi h3 a0 5) 8) (hb (si h3 (a0 + 2) (gi h3 a0 5).toNatClampNeg a2) fun h5 => ck (inb (gi h5 a0 5) 8) (hb (si h5 (a0 + 3) (gi h5 a0 5).toNatClampNeg (gi h5 a0 6)) fun h7 => ck (inb (gi h7 a0 5) 8) (hb (si h7 (a0 + 4) (gi h7 a0 5).toNatClampNeg (gi h7 a0 6)) fun h9 => hb (si h9 a0 5 ((gi h9 a0 5) + 1)) fun h10 => some ((), h10))))) else some ((), h)
set_option maxRecDepth 20000 in
set_option maxHeartbeats 4000000 in
theorem s_X3_beginClause (w : WT) {x : CT} {l : Launch} (hx : xl x = l) (hG : Gd x cX3_beginClause 3 RX3) (hE : Ge x (GC w)) (hR : Rm x 1) (hT : Rt x none) (a0 : Nat) (p0 : LC a0 = (4, 0)) (a1 : Int32) (a2 : Int32) (h : Hp) : Sn x 3 (gA (GC w)) (0, 0) (ζM x (GC w) inV) (gW (GC w) h) 0 [(0, .ref (gB (GC w) + a0)), (1, .int a1), (2, .int a2)] [] (m_X3_beginClause a0 a1 a2 h) := by
  unfold m_X3_beginClause
  refine s_aload_n hG dX3_beginClause_0 0 rfl rfl ?_
  refine s_getI hG hE dX3_beginClause_1 fl_X3_27 rfl p0 ?_
  refine s_bipush hG dX3_beginClause_4 bc_8 ?_
  refine s_icmp_lt hG dX3_beginClause_6 (tgt := 10) (by decide) (fun q1 => ?_) (fun q1 => ?_)
  · refine s_aload_n hG dX3_beginClause_10 0 rfl rfl ?_
    refine s_getS hG hE dX3_beginClause_11 fl_X3_9 rfl p0 ((fC_3_0 p0).1) (nzC ((fC_3_0 p0).2)) ?_
    refine s_aload_n hG dX3_beginClause_14 0 rfl rfl ?_
    refine s_getI hG hE dX3_beginClause_15 fl_X3_27 rfl p0 ?_
    refine s_iload_n hG dX3_beginClause_18 1 rfl rfl ?_
    refine s_ck (fun q2 => ?_)
    refine s_iast hG hE dX3_beginClause_19 ((fC_3_0 p0).2) q2 (fun h3 => ?_)
    refine s_aload_n hG dX3_beginClause_20 0 rfl rfl ?_
    refine s_getS hG hE dX3_beginClause_21 fl_X3_15 rfl p0 ((fC_3_1 p0).1) (nzC ((fC_3_1 p0).2)) ?_
    refine s_aload_n hG dX3_beginClause_24 0 rfl rfl ?_
    refine s_getI hG hE dX3_beginClause_25 fl_X3_27 rfl p0 ?_
    refine s_iload_n hG dX3_beginClause_28 2 rfl rfl ?_
    refine s_ck (fun q4 => ?_)
    refine s_iast hG hE dX3_beginClause_29 ((fC_3_1 p0).2) q4 (fun h5 => ?_)
    refine s_aload_n hG dX3_beginClause_30 0 rfl rfl ?_
    refine s_getS hG hE dX3_beginClause_31 fl_X3_18 rfl p0 ((fC_3_2 p0).1) (nzC ((fC_3_2 p0).2)) ?_
    refine s_aload_n hG dX3_beginClause_34 0 rfl rfl ?_
    refine s_getI hG hE dX3_beginClause_35 fl_X3_27 rfl p0 ?_
    refine s_aload_n hG dX3_beginClause_38 0 rfl rfl ?_
    refine s_getI hG hE dX3_beginClause_39 fl_X3_31 rfl p0 ?_
    refine s_ck (fun q6 => ?_)
    refine s_iast hG hE dX3_beginClause_42 ((fC_3_2 p0).2) q6 (fun h7 => ?_)
    refine s_aload_n hG dX3_beginClause_43 0 rfl rfl ?_
    refine s_getS hG hE dX3_beginClause_44 fl_X3_21 rfl p0 ((fC_3_3 p0).1) (nzC ((fC_3_3 p0).2)) ?_
    refine s_aload_n hG dX3_beginClause_47 0 rfl rfl ?_
    refine s_getI hG hE dX3_beginClause_48 fl_X3_27 rfl p0 ?_
    refine s_aload_n hG dX3_beginClause_51 0 rfl rfl ?_
    refine s_getI hG hE dX3_beginClause_52 fl_X3_31 rfl p0 ?_
    refine s_ck (fun q8 => ?_)
    refine s_iast hG hE dX3_beginClause_55 ((fC_3_3 p0).2) q8 (fun h9 => ?_)
    refine s_aload_n hG dX3_beginClause_56 0 rfl rfl ?_
    refine s_dup hG dX3_beginClause_57 rfl ?_
    refine s_getI hG hE dX3_beginClause_58 fl_X3_27 rfl p0 ?_
    refine s_iconst hG dX3_beginClause_61 ic_1 ?_
    refine s_iadd hG dX3_beginClause_62 ?_
    refine s_putI hG hE dX3_beginClause_63 fl_X3_27 rfl rfl p0 (fun h10 => ?_)
    exact s_vret hG hT dX3_beginClause_66
  · exact s_vret hG hT dX3_beginClause_9

theorem c_X3_beginClause (w : WT) (l : Launch) (a0 : Nat) (p0 : LC a0 = (4, 0)) (a1 : Int32) (a2 : Int32) (h : Hp) : ∀ v h', m_X3_beginClause a0 a1 a2 h = some (v, h') → MetM l (GC w) yX3_beginClause cX3_beginClause 3 none 1 [.ref (gB (GC w) + a0), .int a1, .int a2] h (inV v) h' :=
  met_of (by decide) (lokC w) (Nat.le_of_ble_eq_true rfl) (fun x hx hG hE hR hT => s_X3_beginClause w hx hG hE hR hT a0 p0 a1 a2 h)
theorem bc_32 : (Int8.ofInt 32).toInt32 = 32 := by decide
theorem vv_X4_35 : VV RX4 35 yX4_pass cX4_pass 2 (some .boolean) 1 := ⟨⟨gw_at 612 (by decide +kernel) (by decide +kernel), gw_at 615 (by decide +kernel) (by decide +kernel), gw_at 88 (by decide +kernel) (by decide +kernel), by decide +kernel, by decide⟩, gw_at 614 (by decide +kernel) (by decide +kernel), gw_at 7 (by decide +kernel) (by decide +kernel)⟩
theorem vv_X4_97 : VV RX4 97 yX4_readDivisor cX4_readDivisor 2 (some .int) 0 := ⟨⟨gw_at 627 (by decide +kernel) (by decide +kernel), gw_at 630 (by decide +kernel) (by decide +kernel), gw_at 88 (by decide +kernel) (by decide +kernel), by decide +kernel, by decide⟩, gw_at 629 (by decide +kernel) (by decide +kernel), gw_at 10 (by decide +kernel) (by decide +kernel)⟩
theorem fl_X4_19 : FL RX4 19 4 3 := ⟨by decide, by decide, gw_at 132 (by decide +kernel) (by decide +kernel), rfl⟩
theorem vv_X4_46 : VV RX4 46 yX3_beginClause cX3_beginClause 3 none 2 := ⟨⟨gw_at 631 (by decide +kernel) (by decide +kernel), gw_at 634 (by decide +kernel) (by decide +kernel), gw_at 94 (by decide +kernel) (by decide +kernel), by decide +kernel, by decide⟩, gw_at 632 (by decide +kernel) (by decide +kernel), gw_at 633 (by decide +kernel) (by decide +kernel)⟩
theorem fl_X4_106 : FL RX4 106 3 9 := ⟨by decide, by decide, gw_at 360 (by decide +kernel) (by decide +kernel), rfl⟩
theorem fl_X4_109 : FL RX4 109 3 10 := ⟨by decide, by decide, gw_at 363 (by decide +kernel) (by decide +kernel), rfl⟩
theorem fl_X4_100 : FL RX4 100 3 7 := ⟨by decide, by decide, gw_at 354 (by decide +kernel) (by decide +kernel), rfl⟩
theorem fl_X4_103 : FL RX4 103 3 8 := ⟨by decide, by decide, gw_at 357 (by decide +kernel) (by decide +kernel), rfl⟩
def m_X4_readShare (a1 : Int32) (h : Hp) : Option (Int32 × Hp) := cb (m_X4_readNumber h) fun v1 h2 => if v1 < 0 then some (0, h2) else cb (m_X4_pass 32 h2) fun v4 h5 => if v4 = 0 then some (0, h5) else cb (m_X4_readDivisor h5) fun v7 h8 => if 1 ≤ v7 then ck (kC 3 (gr h8 9 3)) (cb (m_X3_beginClause (gr h8 9 3) a1 0 h8) fun _ h12 => if a1 = 4 then ck (kC 3 (gr h12 9 3)) (hb (si h12 (gr h12 9 3) 7 v1) fun h19 => ck (kC 3 (gr h19 9 3)) (hb (si h19 (gr h19 9 3) 8 v7) fun h21 => some (1, h21))) else ck (kC 3 (gr h12 9 3)) (hb (si h12 (gr h12 9 3) 9 v1) fun h15 => ck (kC 3 (gr h15 9 3)) (hb (si h15 (gr h15 9 3) 10 v7) fun h17 => some (1, h17)))) else some (0, h8)
set_option maxRecDepth 20000 in
set_option maxHeartbeats 4000000 in
theorem s_X4_readShare (w : WT) {x : CT} {l : Launch} (hx : xl x = l) (hG : Gd x cX4_readShare 4 RX4) (hE : Ge x (GC w)) (hR : Rm x 4) (hT : Rt x (some .boolean)) (a1 : Int32) (h : Hp) : Sn x 4 (gA (GC w)) (0, 0) (ζM x (GC w) inI) (gW (GC w) h) 0 [(0, .ref (gB (GC w) + 9)), (1, .int a1)] [] (m_X4_readShare a1 h) := by
  unfold m_X4_readShare
  refine s_aload_n hG dX4_readShare_0 0 rfl rfl ?_
  refine s_callV (a := 9) (c := 4) (inj := inI) (As := []) (st := []) rfl hG hE dX4_readShare_1 hR (by decide) vv_X4_50 (by decide) rfl kC_9 rfl (Nat.le_of_ble_eq_true rfl) rfl (fun zv zh zq => c_X4_readNumber w (xl x) h zv zh zq) (fun v1 h2 => ?_)
  refine s_istore_n (lv' := [(2, .int v1), (0, .ref (gB (GC w) + 9)), (1, .int a1)]) hG dX4_readShare_4 rfl (by decide) rfl ?_
  refine s_iload_n hG dX4_readShare_5 0 rfl rfl ?_
  refine s_if_lt hG dX4_readShare_6 (tgt := 18) (by decide) (fun q3 => ?_) (fun q3 => ?_)
  · refine s_iconst hG dX4_readShare_18 ic_0 ?_
    exact s_zret hG hT (by decide) dX4_readShare_19
  · refine s_aload_n hG dX4_readShare_9 1 rfl rfl ?_
    refine s_bipush hG dX4_readShare_10 bc_32 ?_
    refine s_callV (a := 9) (c := 4) (inj := inI) (As := [.int 32]) (st := []) rfl hG hE dX4_readShare_12 hR (by decide) vv_X4_35 (by decide) rfl kC_9 rfl (Nat.le_of_ble_eq_true rfl) rfl (fun zv zh zq => c_X4_pass w (xl x) 32 h2 zv zh zq) (fun v4 h5 => ?_)
    refine s_if_ne hG dX4_readShare_15 (tgt := 20) (by decide) (fun q6 => ?_) (fun q6 => ?_)
    · refine s_iconst hG dX4_readShare_18 ic_0 ?_
      exact s_zret hG hT (by decide) dX4_readShare_19
    · refine s_aload_n hG dX4_readShare_20 1 rfl rfl ?_
      refine s_callV (a := 9) (c := 4) (inj := inI) (As := []) (st := []) rfl hG hE dX4_readShare_21 hR (by decide) vv_X4_97 (by decide) rfl kC_9 rfl (Nat.le_of_ble_eq_true rfl) rfl (fun zv zh zq => c_X4_readDivisor w (xl x) h5 zv zh zq) (fun v7 h8 => ?_)
      refine s_istore_n (lv' := [(3, .int v7), (2, .int v1), (0, .ref (gB (GC w) + 9)), (1, .int a1)]) hG dX4_readShare_24 rfl (by decide) rfl ?_
      refine s_iload_n hG dX4_readShare_25 0 rfl rfl ?_
      refine s_iconst hG dX4_readShare_26 ic_1 ?_
      refine s_icmp_ge hG dX4_readShare_27 (tgt := 32) (by decide) (fun q9 => ?_) (fun q9 => ?_)
      · refine s_aload_n hG dX4_readShare_32 2 rfl rfl ?_
        refine s_getR hG hE dX4_readShare_33 fl_X4_19 rfl kC_9 ?_
        refine s_ck (fun q10 => ?_)
        refine s_nn (nzC (kC_of q10)) ?_
        refine s_iload_n hG dX4_readShare_36 3 rfl rfl ?_
        refine s_iconst hG dX4_readShare_37 ic_0 ?_
        refine s_callV (a := gr h8 9 3) (c := 3) (inj := inV) (As := [.int a1, .int 0]) (st := []) rfl hG hE dX4_readShare_38 hR (by decide) vv_X4_46 (by decide) rfl (kC_of q10) rfl (Nat.le_of_ble_eq_true rfl) rfl (fun zv zh zq => c_X3_beginClause w (xl x) (gr h8 9 3) (kC_of q10) a1 0 h8 zv zh zq) (fun v11 h12 => ?_)
        refine s_iload_n hG dX4_readShare_41 3 rfl rfl ?_
        refine s_iconst hG dX4_readShare_42 ic_4 ?_
        refine s_icmp_ne hG dX4_readShare_43 (tgt := 65) (by decide) (fun q13 => ?_) (fun q13 => ?_)
        · refine s_aload_n hG dX4_readShare_46 2 rfl rfl ?_
          refine s_getR hG hE dX4_readShare_47 fl_X4_19 rfl kC_9 ?_
          refine s_ck (fun q18 => ?_)
          refine s_nn (nzC (kC_of q18)) ?_
          refine s_iload_n hG dX4_readShare_50 1 rfl rfl ?_
          refine s_putI hG hE dX4_readShare_51 fl_X4_100 rfl rfl (kC_of q18) (fun h19 => ?_)
          refine s_aload_n hG dX4_readShare_54 2 rfl rfl ?_
          refine s_getR hG hE dX4_readShare_55 fl_X4_19 rfl kC_9 ?_
          refine s_ck (fun q20 => ?_)
          refine s_nn (nzC (kC_of q20)) ?_
          refine s_iload_n hG dX4_readShare_58 0 rfl rfl ?_
          refine s_putI hG hE dX4_readShare_59 fl_X4_103 rfl rfl (kC_of q20) (fun h21 => ?_)
          refine s_goto (tgt := 81) hG dX4_readShare_62 (by decide) ?_
          refine s_iconst hG dX4_readShare_81 ic_1 ?_
          exact s_zret hG hT (by decide) dX4_readShare_82
        · refine s_aload_n hG dX4_readShare_65 2 rfl rfl ?_
          refine s_getR hG hE dX4_readShare_66 fl_X4_19 rfl kC_9 ?_
          refine s_ck (fun q14 => ?_)
          refine s_nn (nzC (kC_of q14)) ?_
          refine s_iload_n hG dX4_readShare_69 1 rfl rfl ?_
          refine s_putI hG hE dX4_readShare_70 fl_X4_106 rfl rfl (kC_of q14) (fun h15 => ?_)
          refine s_aload_n hG dX4_readShare_73 2 rfl rfl ?_
          refine s_getR hG hE dX4_readShare_74 fl_X4_19 rfl kC_9 ?_
          refine s_ck (fun q16 => ?_)
          refine s_nn (nzC (kC_of q16)) ?_
          refine s_iload_n hG dX4_readShare_77 0 rfl rfl ?_
          refine s_putI hG hE dX4_readShare_78 fl_X4_109 rfl rfl (kC_of q16) (fun h17 => ?_)
          refine s_iconst hG dX4_readShare_81 ic_1 ?_
          exact s_zret hG hT (by decide) dX4_readShare_82
      · refine s_iconst hG dX4_readShare_30 ic_0 ?_
        exact s_zret hG hT (by decide) dX4_readShare_31

theorem c_X4_readShare (w : WT) (l : Launch) (a1 : Int32) (h : Hp) : ∀ v h', m_X4_readShare a1 h = some (v, h') → MetM l (GC w) yX4_readShare cX4_readShare 4 (some .boolean) 4 [.ref (gB (GC w) + 9), .int a1] h (inI v) h' :=
  met_of (by decide) (lokC w) (Nat.le_of_ble_eq_true rfl) (fun x hx hG hE hR hT => s_X4_readShare w hx hG hE hR hT a1 h)
def m_J1_canEncode_9a6ad (a0 : Int32) (h : Hp) : Option (Int32 × Hp) := if a0 < 0 then some (0, h) else if 255 < a0 then some (0, h) else some (1, h)
set_option maxRecDepth 20000 in
set_option maxHeartbeats 4000000 in
theorem s_J1_canEncode_9a6ad (w : WT) {x : CT} {l : Launch} (hx : xl x = l) (hG : Gd x cJ1_canEncode_9a6ad 1 RJ1) (hE : Ge x (GC w)) (hR : Rm x 1) (hT : Rt x (some .boolean)) (a0 : Int32) (h : Hp) : Sn x 1 (gA (GC w)) (0, 0) (ζM x (GC w) inI) (gW (GC w) h) 0 [(0, .int a0)] [] (m_J1_canEncode_9a6ad a0 h) := by
  unfold m_J1_canEncode_9a6ad
  refine s_iload_n hG dJ1_canEncode_9a6ad_0 0 rfl rfl ?_
  refine s_if_lt hG dJ1_canEncode_9a6ad_1 (tgt := 15) (by decide) (fun q1 => ?_) (fun q1 => ?_)
  · refine s_iconst hG dJ1_canEncode_9a6ad_15 ic_0 ?_
    exact s_zret hG hT (by decide) dJ1_canEncode_9a6ad_16
  · refine s_iload_n hG dJ1_canEncode_9a6ad_4 0 rfl rfl ?_
    refine s_sipush hG dJ1_canEncode_9a6ad_5 sc_255 ?_
    refine s_icmp_gt hG dJ1_canEncode_9a6ad_8 (tgt := 15) (by decide) (fun q2 => ?_) (fun q2 => ?_)
    · refine s_iconst hG dJ1_canEncode_9a6ad_15 ic_0 ?_
      exact s_zret hG hT (by decide) dJ1_canEncode_9a6ad_16
    · refine s_iconst hG dJ1_canEncode_9a6ad_11 ic_1 ?_
      refine s_goto (tgt := 16) hG dJ1_canEncode_9a6ad_12 (by decide) ?_
      exact s_zret hG hT (by decide) dJ1_canEncode_9a6ad_16

theorem c_J1_canEncode_9a6ad (w : WT) (l : Launch) (a0 : Int32) (h : Hp) : ∀ v h', m_J1_canEncode_9a6ad a0 h = some (v, h') → MetM l (GC w) yJ1_canEncode_9a6ad cJ1_canEncode_9a6ad 1 (some .boolean) 1 [.int a0] h (inI v) h' :=
  met_of (by decide) (lokC w) (Nat.le_of_ble_eq_true rfl) (fun x hx hG hE hR hT => s_J1_canEncode_9a6ad w hx hG hE hR hT a0 h)
def m_J1_indexOfChar_4cfef_L7 : Nat → Nat → Int32 → Int32 → Int32 → Hp → Option (Int32 × Hp)
  | 0, _, _, _, _, _ => none
  | n + 1, a0, a3, a4, a5, h => if a3 ≤ a5 then some ((-1), h) else ck (inb a5 (sLen.getD a0 0)) (if ((sByt.getD a0 []).getD a5.toNatClampNeg 0) = a4 then some (a5, h) else vb (a5 + 1) fun v4 => m_J1_indexOfChar_4cfef_L7 n a0 a3 a4 v4 h)
set_option maxRecDepth 20000 in
set_option maxHeartbeats 4000000 in
theorem s_J1_indexOfChar_4cfef_L7 (w : WT) {x : CT} {l : Launch} (hx : xl x = l) (hG : Gd x cJ1_indexOfChar_4cfef 6 RJ1) (hE : Ge x (GC w)) (hR : Rm x 1) (hT : Rt x (some .int)) : ∀ (n : Nat) (a0 : Nat) (p0 : a0 < 12) (a3 : Int32) (a4 : Int32) (a5 : Int32) (h : Hp), Sn x 6 (gA (GC w)) (0, 0) (ζM x (GC w) inI) (gW (GC w) h) 7 [(0, .ref (gV (GC w) a0)), (3, .int a3), (4, .int a4), (5, .int a5)] [] (m_J1_indexOfChar_4cfef_L7 n a0 a3 a4 a5 h) := by
  intro n
  induction n with
  | zero => intro a0 p0 a3 a4 a5 h; exact s_none
  | succ n ih =>
    intro a0 p0 a3 a4 a5 h
    rw [m_J1_indexOfChar_4cfef_L7]
    refine s_iload hG dJ1_indexOfChar_4cfef_7 3 rfl ?_
    refine s_iload_n hG dJ1_indexOfChar_4cfef_9 1 rfl rfl ?_
    refine s_icmp_ge hG dJ1_indexOfChar_4cfef_10 (tgt := 31) (by decide) (fun q1 => ?_) (fun q1 => ?_)
    · refine s_iconst hG dJ1_indexOfChar_4cfef_31 ic_m1 ?_
      exact s_iret hG hT dJ1_indexOfChar_4cfef_32
    · refine s_aload_n hG dJ1_indexOfChar_4cfef_13 0 rfl rfl ?_
      refine s_iload hG dJ1_indexOfChar_4cfef_14 3 rfl ?_
      refine s_ck (fun q2 => ?_)
      refine s_kbal (Wd := gW (GC w) h) hG hE p0 dJ1_indexOfChar_4cfef_16 q2 ?_
      refine s_iload hG dJ1_indexOfChar_4cfef_17 2 rfl ?_
      refine s_icmp_ne hG dJ1_indexOfChar_4cfef_19 (tgt := 25) (by decide) (fun q3 => ?_) (fun q3 => ?_)
      · refine s_iload hG dJ1_indexOfChar_4cfef_22 3 rfl ?_
        exact s_iret hG hT dJ1_indexOfChar_4cfef_24
      · refine s_iinc hG dJ1_indexOfChar_4cfef_25 3 rfl ic_1 (by decide) (fun v4 => [(5, .int v4), (0, .ref (gV (GC w) a0)), (3, .int a3), (4, .int a4)]) (fun _ => rfl) (fun v4 => ?_)
        refine s_goto (tgt := 7) hG dJ1_indexOfChar_4cfef_28 (by decide) ?_
        refine s_lv [1, 2, 3, 0] rfl ?_
        exact ih a0 p0 a3 a4 v4 h

def m_J1_indexOfChar_4cfef (a0 : Nat) (a1 : Int32) (a2 : Int32) (a3 : Int32) (h : Hp) : Option (Int32 × Hp) := m_J1_indexOfChar_4cfef_L7 FU a0 a3 a1.toInt8.toInt32 a2 h
set_option maxRecDepth 20000 in
set_option maxHeartbeats 4000000 in
theorem s_J1_indexOfChar_4cfef (w : WT) {x : CT} {l : Launch} (hx : xl x = l) (hG : Gd x cJ1_indexOfChar_4cfef 6 RJ1) (hE : Ge x (GC w)) (hR : Rm x 1) (hT : Rt x (some .int)) (a0 : Nat) (p0 : a0 < 12) (a1 : Int32) (a2 : Int32) (a3 : Int32) (h : Hp) : Sn x 6 (gA (GC w)) (0, 0) (ζM x (GC w) inI) (gW (GC w) h) 0 [(0, .ref (gV (GC w) a0)), (1, .int a1), (2, .int a2), (3, .int a3)] [] (m_J1_indexOfChar_4cfef a0 a1 a2 a3 h) := by
  unfold m_J1_indexOfChar_4cfef
  refine s_iload_n hG dJ1_indexOfChar_4cfef_0 1 rfl rfl ?_
  refine s_i2b hG dJ1_indexOfChar_4cfef_1 ?_
  refine s_istore (lv' := [(4, .int a1.toInt8.toInt32), (0, .ref (gV (GC w) a0)), (1, .int a1), (2, .int a2), (3, .int a3)]) hG dJ1_indexOfChar_4cfef_2 (by decide) rfl ?_
  refine s_iload_n hG dJ1_indexOfChar_4cfef_4 3 rfl rfl ?_
  refine s_istore (lv' := [(5, .int a2), (4, .int a1.toInt8.toInt32), (0, .ref (gV (GC w) a0)), (1, .int a1), (2, .int a2), (3, .int a3)]) hG dJ1_indexOfChar_4cfef_5 (by decide) rfl ?_
  refine s_lv [2, 5, 1, 0] rfl ?_
  exact s_J1_indexOfChar_4cfef_L7 w hx hG hE hR hT FU a0 p0 a3 a1.toInt8.toInt32 a2 h

theorem c_J1_indexOfChar_4cfef (w : WT) (l : Launch) (a0 : Nat) (p0 : a0 < 12) (a1 : Int32) (a2 : Int32) (a3 : Int32) (h : Hp) : ∀ v h', m_J1_indexOfChar_4cfef a0 a1 a2 a3 h = some (v, h') → MetM l (GC w) yJ1_indexOfChar_4cfef cJ1_indexOfChar_4cfef 6 (some .int) 1 [.ref (gV (GC w) a0), .int a1, .int a2, .int a3] h (inI v) h' :=
  met_of (by decide) (lokC w) (Nat.le_of_ble_eq_true rfl) (fun x hx hG hE hR hT => s_J1_indexOfChar_4cfef w hx hG hE hR hT a0 p0 a1 a2 a3 h)
theorem vs_J1_88 : VS RJ1 88 yJ1_canEncode_9a6ad cJ1_canEncode_9a6ad 1 (some .boolean) 1 := ⟨⟨gw_at 652 (by decide +kernel) (by decide +kernel), gw_at 654 (by decide +kernel) (by decide +kernel), gw_at 98 (by decide +kernel) (by decide +kernel), by decide +kernel, by decide⟩, gw_at 653 (by decide +kernel) (by decide +kernel)⟩
theorem wd_655 : Cond.methodLink RJ1 92 Lib.Math.max.name ∈ GW := gw_at 655 (by decide +kernel) (by decide +kernel)
theorem wd_656 : Cond.static Lib.Math.max.name ∈ GW := gw_at 656 (by decide +kernel) (by decide +kernel)
theorem wd_101 : Cond.initialized "java/lang/Math" ∈ GW := gw_at 101 (by decide +kernel) (by decide +kernel)
theorem wd_657 : Cond.code Lib.Math.max.name Lib.Math.max.code 2 (some .int) ∈ GW := gw_at 657 (by decide +kernel) (by decide +kernel)
theorem wd_658 : Cond.methodLink RJ1 38 Lib.Math.min.name ∈ GW := gw_at 658 (by decide +kernel) (by decide +kernel)
theorem wd_659 : Cond.static Lib.Math.min.name ∈ GW := gw_at 659 (by decide +kernel) (by decide +kernel)
theorem wd_660 : Cond.code Lib.Math.min.name Lib.Math.min.code 2 (some .int) ∈ GW := gw_at 660 (by decide +kernel) (by decide +kernel)
theorem vs_J1_95 : VS RJ1 95 yJ1_indexOfChar_4cfef cJ1_indexOfChar_4cfef 6 (some .int) 4 := ⟨⟨gw_at 661 (by decide +kernel) (by decide +kernel), gw_at 663 (by decide +kernel) (by decide +kernel), gw_at 98 (by decide +kernel) (by decide +kernel), by decide +kernel, by decide⟩, gw_at 662 (by decide +kernel) (by decide +kernel)⟩
def m_J1_indexOf_4cfef (a0 : Nat) (a1 : Int32) (a2 : Int32) (a3 : Int32) (h : Hp) : Option (Int32 × Hp) := cb (m_J1_canEncode_9a6ad a1 h) fun v1 h2 => if v1 = 0 then some ((-1), h2) else vb (if a2 < 0 then 0 else a2) fun v4 => vb (if (Int32.ofNat (sLen.getD a0 0)) < a3 then (Int32.ofNat (sLen.getD a0 0)) else a3) fun v5 => if v4 < v5 then cb (m_J1_indexOfChar_4cfef a0 a1 v4 v5 h2) fun v7 h8 => some (v7, h8) else some ((-1), h2)
set_option maxRecDepth 20000 in
set_option maxHeartbeats 4000000 in
theorem s_J1_indexOf_4cfef (w : WT) {x : CT} {l : Launch} (hx : xl x = l) (hG : Gd x cJ1_indexOf_4cfef 4 RJ1) (hE : Ge x (GC w)) (hR : Rm x 2) (hT : Rt x (some .int)) (a0 : Nat) (p0 : a0 < 12) (a1 : Int32) (a2 : Int32) (a3 : Int32) (h : Hp) : Sn x 4 (gA (GC w)) (0, 0) (ζM x (GC w) inI) (gW (GC w) h) 0 [(0, .ref (gV (GC w) a0)), (1, .int a1), (2, .int a2), (3, .int a3)] [] (m_J1_indexOf_4cfef a0 a1 a2 a3 h) := by
  unfold m_J1_indexOf_4cfef
  refine s_iload_n hG dJ1_indexOf_4cfef_0 1 rfl rfl ?_
  refine s_callS (inj := inI) (As := [.int a1]) (st := []) rfl hG hE dJ1_indexOf_4cfef_1 hR (by decide) vs_J1_88 rfl (Nat.le_of_ble_eq_true rfl) rfl (fun zv zh zq => c_J1_canEncode_9a6ad w (xl x) a1 h zv zh zq) (fun v1 h2 => ?_)
  refine s_if_ne hG dJ1_indexOf_4cfef_4 (tgt := 9) (by decide) (fun q3 => ?_) (fun q3 => ?_)
  · refine s_iconst hG dJ1_indexOf_4cfef_7 ic_m1 ?_
    exact s_iret hG hT dJ1_indexOf_4cfef_8
  · refine s_iload_n hG dJ1_indexOf_4cfef_9 2 rfl rfl ?_
    refine s_iconst hG dJ1_indexOf_4cfef_10 ic_0 ?_
    refine s_mmax hG hR (by decide) dJ1_indexOf_4cfef_11 wd_655 wd_656 wd_101 wd_657 (Nat.le_of_ble_eq_true rfl) ?_
    refine s_vI (fun v4 => ?_)
    refine s_istore_n (lv' := [(2, .int v4), (0, .ref (gV (GC w) a0)), (1, .int a1), (3, .int a3)]) hG dJ1_indexOf_4cfef_14 rfl (by decide) rfl ?_
    refine s_iload_n hG dJ1_indexOf_4cfef_15 3 rfl rfl ?_
    refine s_aload_n hG dJ1_indexOf_4cfef_16 1 rfl rfl ?_
    refine s_klen (Wd := gW (GC w) h2) hG hE p0 dJ1_indexOf_4cfef_17 ?_
    refine s_mmin hG hR (by decide) dJ1_indexOf_4cfef_18 wd_658 wd_659 wd_101 wd_660 (Nat.le_of_ble_eq_true rfl) ?_
    refine s_vI (fun v5 => ?_)
    refine s_istore_n (lv' := [(3, .int v5), (2, .int v4), (0, .ref (gV (GC w) a0)), (1, .int a1)]) hG dJ1_indexOf_4cfef_21 rfl (by decide) rfl ?_
    refine s_iload_n hG dJ1_indexOf_4cfef_22 1 rfl rfl ?_
    refine s_iload_n hG dJ1_indexOf_4cfef_23 0 rfl rfl ?_
    refine s_icmp_lt hG dJ1_indexOf_4cfef_24 (tgt := 29) (by decide) (fun q6 => ?_) (fun q6 => ?_)
    · refine s_aload_n hG dJ1_indexOf_4cfef_29 2 rfl rfl ?_
      refine s_iload_n hG dJ1_indexOf_4cfef_30 3 rfl rfl ?_
      refine s_iload_n hG dJ1_indexOf_4cfef_31 1 rfl rfl ?_
      refine s_iload_n hG dJ1_indexOf_4cfef_32 0 rfl rfl ?_
      refine s_callS (inj := inI) (As := [.ref (gV (GC w) a0), .int a1, .int v4, .int v5]) (st := []) rfl hG hE dJ1_indexOf_4cfef_33 hR (by decide) vs_J1_95 rfl (Nat.le_of_ble_eq_true rfl) rfl (fun zv zh zq => c_J1_indexOfChar_4cfef w (xl x) a0 p0 a1 v4 v5 h2 zv zh zq) (fun v7 h8 => ?_)
      exact s_iret hG hT dJ1_indexOf_4cfef_36
    · refine s_iconst hG dJ1_indexOf_4cfef_27 ic_m1 ?_
      exact s_iret hG hT dJ1_indexOf_4cfef_28

theorem c_J1_indexOf_4cfef (w : WT) (l : Launch) (a0 : Nat) (p0 : a0 < 12) (a1 : Int32) (a2 : Int32) (a3 : Int32) (h : Hp) : ∀ v h', m_J1_indexOf_4cfef a0 a1 a2 a3 h = some (v, h') → MetM l (GC w) yJ1_indexOf_4cfef cJ1_indexOf_4cfef 4 (some .int) 2 [.ref (gV (GC w) a0), .int a1, .int a2, .int a3] h (inI v) h' :=
  met_of (by decide) (lokC w) (Nat.le_of_ble_eq_true rfl) (fun x hx hG hE hR hT => s_J1_indexOf_4cfef w hx hG hE hR hT a0 p0 a1 a2 a3 h)
theorem vv_J0_505 : VV RJ0 505 yJ0_length_8abf5 cJ0_length_8abf5 1 (some .int) 0 := ⟨⟨gw_at 648 (by decide +kernel) (by decide +kernel), gw_at 563 (by decide +kernel) (by decide +kernel), gw_at 97 (by decide +kernel) (by decide +kernel), by decide +kernel, by decide⟩, gw_at 561 (by decide +kernel) (by decide +kernel), gw_at 562 (by decide +kernel) (by decide +kernel)⟩
theorem vs_J0_637 : VS RJ0 637 yJ1_indexOf_4cfef cJ1_indexOf_4cfef 4 (some .int) 4 := ⟨⟨gw_at 649 (by decide +kernel) (by decide +kernel), gw_at 651 (by decide +kernel) (by decide +kernel), gw_at 98 (by decide +kernel) (by decide +kernel), by decide +kernel, by decide⟩, gw_at 650 (by decide +kernel) (by decide +kernel)⟩
def m_J0_indexOf_7cf53 (a0 : Nat) (a1 : Int32) (a2 : Int32) (h : Hp) : Option (Int32 × Hp) := cb (m_J0_isLatin1_aae02 a0 h) fun v1 h2 => if v1 = 0 then cb (m_J0_length_8abf5 a0 h2) fun v4 h5 => none else cb (m_J0_length_8abf5 a0 h2) fun v6 h7 => cb (m_J1_indexOf_4cfef a0 a1 a2 v6 h7) fun v8 h9 => some (v8, h9)
set_option maxRecDepth 20000 in
set_option maxHeartbeats 4000000 in
theorem s_J0_indexOf_7cf53 (w : WT) {x : CT} {l : Launch} (hx : xl x = l) (hG : Gd x cJ0_indexOf_7cf53 3 RJ0) (hE : Ge x (GC w)) (hR : Rm x 3) (hT : Rt x (some .int)) (a0 : Nat) (p0 : a0 < 12) (a1 : Int32) (a2 : Int32) (h : Hp) : Sn x 3 (gA (GC w)) (0, 0) (ζM x (GC w) inI) (gW (GC w) h) 0 [(0, .ref (gK (GC w) a0)), (1, .int a1), (2, .int a2)] [] (m_J0_indexOf_7cf53 a0 a1 a2 h) := by
  unfold m_J0_indexOf_7cf53
  refine s_aload_n hG dJ0_indexOf_7cf53_0 0 rfl rfl ?_
  refine s_callK (inj := inI) (As := []) (st := []) rfl hG hE dJ0_indexOf_7cf53_1 hR (by decide) vv_J0_492 p0 rfl rfl (Nat.le_of_ble_eq_true rfl) rfl (fun zv zh zq => c_J0_isLatin1_aae02 w (xl x) a0 p0 h zv zh zq) (fun v1 h2 => ?_)
  refine s_if_eq hG dJ0_indexOf_7cf53_4 (tgt := 23) (by decide) (fun q3 => ?_) (fun q3 => ?_)
  · refine s_aload_n hG dJ0_indexOf_7cf53_23 0 rfl rfl ?_
    refine s_kval (Wd := gW (GC w) h2) hG hE p0 dJ0_indexOf_7cf53_24 wd_1577 ?_
    refine s_iload_n hG dJ0_indexOf_7cf53_27 1 rfl rfl ?_
    refine s_iload_n hG dJ0_indexOf_7cf53_28 2 rfl rfl ?_
    refine s_aload_n hG dJ0_indexOf_7cf53_29 0 rfl rfl ?_
    refine s_callK (inj := inI) (As := []) (st := [.int a2, .int a1, .ref (gV (GC w) a0)]) rfl hG hE dJ0_indexOf_7cf53_30 hR (by decide) vv_J0_505 p0 rfl rfl (Nat.le_of_ble_eq_true rfl) rfl (fun zv zh zq => c_J0_length_8abf5 w (xl x) a0 p0 h2 zv zh zq) (fun v4 h5 => ?_)
    exact s_none
  · refine s_aload_n hG dJ0_indexOf_7cf53_7 0 rfl rfl ?_
    refine s_kval (Wd := gW (GC w) h2) hG hE p0 dJ0_indexOf_7cf53_8 wd_1577 ?_
    refine s_iload_n hG dJ0_indexOf_7cf53_11 1 rfl rfl ?_
    refine s_iload_n hG dJ0_indexOf_7cf53_12 2 rfl rfl ?_
    refine s_aload_n hG dJ0_indexOf_7cf53_13 0 rfl rfl ?_
    refine s_callK (inj := inI) (As := []) (st := [.int a2, .int a1, .ref (gV (GC w) a0)]) rfl hG hE dJ0_indexOf_7cf53_14 hR (by decide) vv_J0_505 p0 rfl rfl (Nat.le_of_ble_eq_true rfl) rfl (fun zv zh zq => c_J0_length_8abf5 w (xl x) a0 p0 h2 zv zh zq) (fun v6 h7 => ?_)
    refine s_callS (inj := inI) (As := [.ref (gV (GC w) a0), .int a1, .int a2, .int v6]) (st := []) rfl hG hE dJ0_indexOf_7cf53_17 hR (by decide) vs_J0_637 rfl (Nat.le_of_ble_eq_true rfl) rfl (fun zv zh zq => c_J1_indexOf_4cfef w (xl x) a0 p0 a1 a2 v6 h7 zv zh zq) (fun v8 h9 => ?_)
    refine s_goto (tgt := 36) hG dJ0_indexOf_7cf53_20 (by decide) ?_
    exact s_iret hG hT dJ0_indexOf_7cf53_36

theorem c_J0_indexOf_7cf53 (w : WT) (l : Launch) (a0 : Nat) (p0 : a0 < 12) (a1 : Int32) (a2 : Int32) (h : Hp) : ∀ v h', m_J0_indexOf_7cf53 a0 a1 a2 h = some (v, h') → MetM l (GC w) yJ0_indexOf_7cf53 cJ0_indexOf_7cf53 3 (some .int) 3 [.ref (gK (GC w) a0), .int a1, .int a2] h (inI v) h' :=
  met_of (by decide) (lokC w) (Nat.le_of_ble_eq_true rfl) (fun x hx hG hE hR hT => s_J0_indexOf_7cf53 w hx hG hE hR hT a0 p0 a1 a2 h)
theorem vv_J0_633 : VV RJ0 633 yJ0_indexOf_7cf53 cJ0_indexOf_7cf53 3 (some .int) 2 := ⟨⟨gw_at 644 (by decide +kernel) (by decide +kernel), gw_at 647 (by decide +kernel) (by decide +kernel), gw_at 97 (by decide +kernel) (by decide +kernel), by decide +kernel, by decide⟩, gw_at 645 (by decide +kernel) (by decide +kernel), gw_at 646 (by decide +kernel) (by decide +kernel)⟩
def m_J0_indexOf_0f7a4 (a0 : Nat) (a1 : Int32) (h : Hp) : Option (Int32 × Hp) := cb (m_J0_indexOf_7cf53 a0 a1 0 h) fun v1 h2 => some (v1, h2)
set_option maxRecDepth 20000 in
set_option maxHeartbeats 4000000 in
theorem s_J0_indexOf_0f7a4 (w : WT) {x : CT} {l : Launch} (hx : xl x = l) (hG : Gd x cJ0_indexOf_0f7a4 2 RJ0) (hE : Ge x (GC w)) (hR : Rm x 4) (hT : Rt x (some .int)) (a0 : Nat) (p0 : a0 < 12) (a1 : Int32) (h : Hp) : Sn x 2 (gA (GC w)) (0, 0) (ζM x (GC w) inI) (gW (GC w) h) 0 [(0, .ref (gK (GC w) a0)), (1, .int a1)] [] (m_J0_indexOf_0f7a4 a0 a1 h) := by
  unfold m_J0_indexOf_0f7a4
  refine s_aload_n hG dJ0_indexOf_0f7a4_0 0 rfl rfl ?_
  refine s_iload_n hG dJ0_indexOf_0f7a4_1 1 rfl rfl ?_
  refine s_iconst hG dJ0_indexOf_0f7a4_2 ic_0 ?_
  refine s_callK (inj := inI) (As := [.int a1, .int 0]) (st := []) rfl hG hE dJ0_indexOf_0f7a4_3 hR (by decide) vv_J0_633 p0 rfl rfl (Nat.le_of_ble_eq_true rfl) rfl (fun zv zh zq => c_J0_indexOf_7cf53 w (xl x) a0 p0 a1 0 h zv zh zq) (fun v1 h2 => ?_)
  exact s_iret hG hT dJ0_indexOf_0f7a4_6

theorem c_J0_indexOf_0f7a4 (w : WT) (l : Launch) (a0 : Nat) (p0 : a0 < 12) (a1 : Int32) (h : Hp) : ∀ v h', m_J0_indexOf_0f7a4 a0 a1 h = some (v, h') → MetM l (GC w) yJ0_indexOf_0f7a4 cJ0_indexOf_0f7a4 2 (some .int) 4 [.ref (gK (GC w) a0), .int a1] h (inI v) h' :=
  met_of (by decide) (lokC w) (Nat.le_of_ble_eq_true rfl) (fun x hx hG hE hR hT => s_J0_indexOf_0f7a4 w hx hG hE hR hT a0 p0 a1 h)
theorem vv_X4_133 : VV RX4 133 yJ0_indexOf_0f7a4 cJ0_indexOf_0f7a4 2 (some .int) 1 := ⟨⟨gw_at 640 (by decide +kernel) (by decide +kernel), gw_at 643 (by decide +kernel) (by decide +kernel), gw_at 97 (by decide +kernel) (by decide +kernel), by decide +kernel, by decide⟩, gw_at 641 (by decide +kernel) (by decide +kernel), gw_at 642 (by decide +kernel) (by decide +kernel)⟩
def m_X4_readOneOf_L20 (t0 : Int32) (h : Hp) : Option (Int32 × Hp) := if t0 < 0 then some (t0, h) else hb (si h 9 2 ((gi h 9 2) + 1)) fun h2 => some (t0, h2)
set_option maxRecDepth 20000 in
set_option maxHeartbeats 4000000 in
theorem s_X4_readOneOf_L20 (w : WT) {x : CT} {l : Launch} (hx : xl x = l) (hG : Gd x cX4_readOneOf 3 RX4) (hE : Ge x (GC w)) (hR : Rm x 5) (hT : Rt x (some .int)) (t0 : Int32) (h : Hp) : Sn x 3 (gA (GC w)) (0, 0) (ζM x (GC w) inI) (gW (GC w) h) 20 [(0, .ref (gB (GC w) + 9))] [.int t0] (m_X4_readOneOf_L20 t0 h) := by
  unfold m_X4_readOneOf_L20
  refine s_istore_n (lv' := [(2, .int t0), (0, .ref (gB (GC w) + 9))]) hG dX4_readOneOf_20 rfl (by decide) rfl ?_
  refine s_iload_n hG dX4_readOneOf_21 0 rfl rfl ?_
  refine s_if_lt hG dX4_readOneOf_22 (tgt := 35) (by decide) (fun q1 => ?_) (fun q1 => ?_)
  · refine s_iload_n hG dX4_readOneOf_35 0 rfl rfl ?_
    exact s_iret hG hT dX4_readOneOf_36
  · refine s_aload_n hG dX4_readOneOf_25 1 rfl rfl ?_
    refine s_dup hG dX4_readOneOf_26 rfl ?_
    refine s_getI hG hE dX4_readOneOf_27 fl_X4_28 rfl kC_9 ?_
    refine s_iconst hG dX4_readOneOf_30 ic_1 ?_
    refine s_iadd hG dX4_readOneOf_31 ?_
    refine s_putI hG hE dX4_readOneOf_32 fl_X4_28 rfl rfl kC_9 (fun h2 => ?_)
    refine s_iload_n hG dX4_readOneOf_35 0 rfl rfl ?_
    exact s_iret hG hT dX4_readOneOf_36

def m_X4_readOneOf (a1 : Nat) (h : Hp) : Option (Int32 × Hp) := cb (m_X4_here h) fun v1 h2 => if 0 ≤ v1 then cb (m_X4_here h2) fun v4 h5 => cb (m_J0_indexOf_0f7a4 a1 ((v4.toUInt32 % 65536).toInt32) h5) fun v6 h7 => m_X4_readOneOf_L20 v6 h7 else m_X4_readOneOf_L20 (-1) h2
set_option maxRecDepth 20000 in
set_option maxHeartbeats 4000000 in
theorem s_X4_readOneOf (w : WT) {x : CT} {l : Launch} (hx : xl x = l) (hG : Gd x cX4_readOneOf 3 RX4) (hE : Ge x (GC w)) (hR : Rm x 5) (hT : Rt x (some .int)) (a1 : Nat) (p1 : a1 < 12) (h : Hp) : Sn x 3 (gA (GC w)) (0, 0) (ζM x (GC w) inI) (gW (GC w) h) 0 [(0, .ref (gB (GC w) + 9)), (1, .ref (gK (GC w) a1))] [] (m_X4_readOneOf a1 h) := by
  unfold m_X4_readOneOf
  refine s_aload_n hG dX4_readOneOf_0 0 rfl rfl ?_
  refine s_callV (a := 9) (c := 4) (inj := inI) (As := []) (st := []) rfl hG hE dX4_readOneOf_1 hR (by decide) vv_X4_77 (by decide) rfl kC_9 rfl (Nat.le_of_ble_eq_true rfl) rfl (fun zv zh zq => c_X4_here w (xl x) h zv zh zq) (fun v1 h2 => ?_)
  refine s_if_ge hG dX4_readOneOf_4 (tgt := 11) (by decide) (fun q3 => ?_) (fun q3 => ?_)
  · refine s_aload_n hG dX4_readOneOf_11 1 rfl rfl ?_
    refine s_aload_n hG dX4_readOneOf_12 0 rfl rfl ?_
    refine s_callV (a := 9) (c := 4) (inj := inI) (As := []) (st := [.ref (gK (GC w) a1)]) rfl hG hE dX4_readOneOf_13 hR (by decide) vv_X4_77 (by decide) rfl kC_9 rfl (Nat.le_of_ble_eq_true rfl) rfl (fun zv zh zq => c_X4_here w (xl x) h2 zv zh zq) (fun v4 h5 => ?_)
    refine s_i2c hG dX4_readOneOf_16 ?_
    refine s_callK (inj := inI) (As := [.int ((v4.toUInt32 % 65536).toInt32)]) (st := []) rfl hG hE dX4_readOneOf_17 hR (by decide) vv_X4_133 p1 rfl rfl (Nat.le_of_ble_eq_true rfl) rfl (fun zv zh zq => c_J0_indexOf_0f7a4 w (xl x) a1 p1 ((v4.toUInt32 % 65536).toInt32) h5 zv zh zq) (fun v6 h7 => ?_)
    refine s_lv [0] rfl ?_
    exact s_X4_readOneOf_L20 w hx hG hE hR hT v6 h7
  · refine s_iconst hG dX4_readOneOf_7 ic_m1 ?_
    refine s_goto (tgt := 20) hG dX4_readOneOf_8 (by decide) ?_
    refine s_lv [0] rfl ?_
    exact s_X4_readOneOf_L20 w hx hG hE hR hT (-1) h2

theorem c_X4_readOneOf (w : WT) (l : Launch) (a1 : Nat) (p1 : a1 < 12) (h : Hp) : ∀ v h', m_X4_readOneOf a1 h = some (v, h') → MetM l (GC w) yX4_readOneOf cX4_readOneOf 3 (some .int) 5 [.ref (gB (GC w) + 9), .ref (gK (GC w) a1)] h (inI v) h' :=
  met_of (by decide) (lokC w) (Nat.le_of_ble_eq_true rfl) (fun x hx hG hE hR hT => s_X4_readOneOf w hx hG hE hR hT a1 p1 h)
theorem fl_X3_24 : FL RX3 24 3 4 := ⟨by decide, by decide, gw_at 350 (by decide +kernel) (by decide +kernel), rfl⟩
theorem fC_3_4 {a : Nat} (h : LC a = (4, 0)) : SC a 4 = some (a + 5) ∧ LC (a + 5) = (20, 100) := by
  rcases iC_3 h with rfl | rfl | rfl | rfl | rfl | rfl <;> exact ⟨rfl, rfl⟩
def m_X3_addStep (a0 : Nat) (a1 : Int32) (h : Hp) : Option (Unit × Hp) := if 100 ≤ (gi h a0 6) then some ((), h) else if 1 ≤ (gi h a0 5) then ck (inb (gi h a0 6) 100) (hb (si h (a0 + 5) (gi h a0 6).toNatClampNeg a1) fun h4 => hb (si h4 a0 6 ((gi h4 a0 6) + 1)) fun h5 => ck (inb ((gi h5 a0 5) - 1) 8) (hb (si h5 (a0 + 4) ((gi h5 a0 5) - 1).toNatClampNeg (gi h5 a0 6)) fun h7 => some ((), h7))) else some ((), h)
set_option maxRecDepth 20000 in
set_option maxHeartbeats 4000000 in
theorem s_X3_addStep (w : WT) {x : CT} {l : Launch} (hx : xl x = l) (hG : Gd x cX3_addStep 2 RX3) (hE : Ge x (GC w)) (hR : Rm x 1) (hT : Rt x none) (a0 : Nat) (p0 : LC a0 = (4, 0)) (a1 : Int32) (h : Hp) : Sn x 2 (gA (GC w)) (0, 0) (ζM x (GC w) inV) (gW (GC w) h) 0 [(0, .ref (gB (GC w) + a0)), (1, .int a1)] [] (m_X3_addStep a0 a1 h) := by
  unfold m_X3_addStep
  refine s_aload_n hG dX3_addStep_0 0 rfl rfl ?_
  refine s_getI hG hE dX3_addStep_1 fl_X3_31 rfl p0 ?_
  refine s_bipush hG dX3_addStep_4 bc_100 ?_
  refine s_icmp_ge hG dX3_addStep_6 (tgt := 17) (by decide) (fun q1 => ?_) (fun q1 => ?_)
  · exact s_vret hG hT dX3_addStep_17
  · refine s_aload_n hG dX3_addStep_9 0 rfl rfl ?_
    refine s_getI hG hE dX3_addStep_10 fl_X3_27 rfl p0 ?_
    refine s_iconst hG dX3_addStep_13 ic_1 ?_
    refine s_icmp_ge hG dX3_addStep_14 (tgt := 18) (by decide) (fun q2 => ?_) (fun q2 => ?_)
    · refine s_aload_n hG dX3_addStep_18 0 rfl rfl ?_
      refine s_getS hG hE dX3_addStep_19 fl_X3_24 rfl p0 ((fC_3_4 p0).1) (nzC ((fC_3_4 p0).2)) ?_
      refine s_aload_n hG dX3_addStep_22 0 rfl rfl ?_
      refine s_getI hG hE dX3_addStep_23 fl_X3_31 rfl p0 ?_
      refine s_iload_n hG dX3_addStep_26 1 rfl rfl ?_
      refine s_ck (fun q3 => ?_)
      refine s_iast hG hE dX3_addStep_27 ((fC_3_4 p0).2) q3 (fun h4 => ?_)
      refine s_aload_n hG dX3_addStep_28 0 rfl rfl ?_
      refine s_dup hG dX3_addStep_29 rfl ?_
      refine s_getI hG hE dX3_addStep_30 fl_X3_31 rfl p0 ?_
      refine s_iconst hG dX3_addStep_33 ic_1 ?_
      refine s_iadd hG dX3_addStep_34 ?_
      refine s_putI hG hE dX3_addStep_35 fl_X3_31 rfl rfl p0 (fun h5 => ?_)
      refine s_aload_n hG dX3_addStep_38 0 rfl rfl ?_
      refine s_getS hG hE dX3_addStep_39 fl_X3_21 rfl p0 ((fC_3_3 p0).1) (nzC ((fC_3_3 p0).2)) ?_
      refine s_aload_n hG dX3_addStep_42 0 rfl rfl ?_
      refine s_getI hG hE dX3_addStep_43 fl_X3_27 rfl p0 ?_
      refine s_iconst hG dX3_addStep_46 ic_1 ?_
      refine s_isub hG dX3_addStep_47 ?_
      refine s_aload_n hG dX3_addStep_48 0 rfl rfl ?_
      refine s_getI hG hE dX3_addStep_49 fl_X3_31 rfl p0 ?_
      refine s_ck (fun q6 => ?_)
      refine s_iast hG hE dX3_addStep_52 ((fC_3_3 p0).2) q6 (fun h7 => ?_)
      exact s_vret hG hT dX3_addStep_53
    · exact s_vret hG hT dX3_addStep_17

theorem c_X3_addStep (w : WT) (l : Launch) (a0 : Nat) (p0 : LC a0 = (4, 0)) (a1 : Int32) (h : Hp) : ∀ v h', m_X3_addStep a0 a1 h = some (v, h') → MetM l (GC w) yX3_addStep cX3_addStep 2 none 1 [.ref (gB (GC w) + a0), .int a1] h (inV v) h' :=
  met_of (by decide) (lokC w) (Nat.le_of_ble_eq_true rfl) (fun x hx hG hE hR hT => s_X3_addStep w hx hG hE hR hT a0 p0 a1 h)
theorem vv_X3_49 : VV RX3 49 yX3_addStep cX3_addStep 2 none 1 := ⟨⟨gw_at 717 (by decide +kernel) (by decide +kernel), gw_at 720 (by decide +kernel) (by decide +kernel), gw_at 94 (by decide +kernel) (by decide +kernel), by decide +kernel, by decide⟩, gw_at 718 (by decide +kernel) (by decide +kernel), gw_at 719 (by decide +kernel) (by decide +kernel)⟩
def m_X3_addTest (a0 : Nat) (a1 : Int32) (a2 : Int32) (a3 : Int32) (h : Hp) : Option (Unit × Hp) := cb (m_X3_addStep a0 ((((a1 * 3) + a2) * 100) + a3) h) fun _ h2 => some ((), h2)
set_option maxRecDepth 20000 in
set_option maxHeartbeats 4000000 in
theorem s_X3_addTest (w : WT) {x : CT} {l : Launch} (hx : xl x = l) (hG : Gd x cX3_addTest 4 RX3) (hE : Ge x (GC w)) (hR : Rm x 2) (hT : Rt x none) (a0 : Nat) (p0 : LC a0 = (4, 0)) (a1 : Int32) (a2 : Int32) (a3 : Int32) (h : Hp) : Sn x 4 (gA (GC w)) (0, 0) (ζM x (GC w) inV) (gW (GC w) h) 0 [(0, .ref (gB (GC w) + a0)), (1, .int a1), (2, .int a2), (3, .int a3)] [] (m_X3_addTest a0 a1 a2 a3 h) := by
  unfold m_X3_addTest
  refine s_aload_n hG dX3_addTest_0 0 rfl rfl ?_
  refine s_iload_n hG dX3_addTest_1 1 rfl rfl ?_
  refine s_iconst hG dX3_addTest_2 ic_3 ?_
  refine s_imul hG dX3_addTest_3 ?_
  refine s_iload_n hG dX3_addTest_4 2 rfl rfl ?_
  refine s_iadd hG dX3_addTest_5 ?_
  refine s_bipush hG dX3_addTest_6 bc_100 ?_
  refine s_imul hG dX3_addTest_8 ?_
  refine s_iload_n hG dX3_addTest_9 3 rfl rfl ?_
  refine s_iadd hG dX3_addTest_10 ?_
  refine s_callV (a := a0) (c := 3) (inj := inV) (As := [.int ((((a1 * 3) + a2) * 100) + a3)]) (st := []) rfl hG hE dX3_addTest_11 hR (by decide) vv_X3_49 (by decide) rfl p0 rfl (Nat.le_of_ble_eq_true rfl) rfl (fun zv zh zq => c_X3_addStep w (xl x) a0 p0 ((((a1 * 3) + a2) * 100) + a3) h zv zh zq) (fun v1 h2 => ?_)
  exact s_vret hG hT dX3_addTest_14

theorem c_X3_addTest (w : WT) (l : Launch) (a0 : Nat) (p0 : LC a0 = (4, 0)) (a1 : Int32) (a2 : Int32) (a3 : Int32) (h : Hp) : ∀ v h', m_X3_addTest a0 a1 a2 a3 h = some (v, h') → MetM l (GC w) yX3_addTest cX3_addTest 4 none 2 [.ref (gB (GC w) + a0), .int a1, .int a2, .int a3] h (inV v) h' :=
  met_of (by decide) (lokC w) (Nat.le_of_ble_eq_true rfl) (fun x hx hG hE hR hT => s_X3_addTest w hx hG hE hR hT a0 p0 a1 a2 a3 h)
theorem vv_X4_58 : VV RX4 58 yX4_readOneOf cX4_readOneOf 3 (some .int) 1 := ⟨⟨gw_at 636 (by decide +kernel) (by decide +kernel), gw_at 639 (by decide +kernel) (by decide +kernel), gw_at 88 (by decide +kernel) (by decide +kernel), by decide +kernel, by decide⟩, gw_at 638 (by decide +kernel) (by decide +kernel), gw_at 11 (by decide +kernel) (by decide +kernel)⟩
theorem vv_X4_129 : VV RX4 129 yX3_addTest cX3_addTest 4 none 3 := ⟨⟨gw_at 713 (by decide +kernel) (by decide +kernel), gw_at 716 (by decide +kernel) (by decide +kernel), gw_at 94 (by decide +kernel) (by decide +kernel), by decide +kernel, by decide⟩, gw_at 714 (by decide +kernel) (by decide +kernel), gw_at 715 (by decide +kernel) (by decide +kernel)⟩
def m_X4_readTest (h : Hp) : Option (Int32 × Hp) := cb (m_X4_readOneOf 10 h) fun v1 h2 => if 0 ≤ v1 then cb (m_X4_readOneOf 11 h2) fun v4 h5 => if 0 ≤ v4 then cb (m_X4_readNumber h5) fun v7 h8 => if 0 ≤ v7 then ck (kC 3 (gr h8 9 3)) (cb (m_X3_addTest (gr h8 9 3) v1 v4 v7 h8) fun _ h12 => some (1, h12)) else some (0, h8) else some (0, h5) else some (0, h2)
set_option maxRecDepth 20000 in
set_option maxHeartbeats 4000000 in
theorem s_X4_readTest (w : WT) {x : CT} {l : Launch} (hx : xl x = l) (hG : Gd x cX4_readTest 4 RX4) (hE : Ge x (GC w)) (hR : Rm x 6) (hT : Rt x (some .boolean)) (h : Hp) : Sn x 4 (gA (GC w)) (0, 0) (ζM x (GC w) inI) (gW (GC w) h) 0 [(0, .ref (gB (GC w) + 9))] [] (m_X4_readTest h) := by
  unfold m_X4_readTest
  refine s_aload_n hG dX4_readTest_0 0 rfl rfl ?_
  refine s_ldcK hG hE 10 (by decide) rfl dX4_readTest_1 ?_
  refine s_callV (a := 9) (c := 4) (inj := inI) (As := [.ref (gK (GC w) 10)]) (st := []) rfl hG hE dX4_readTest_3 hR (by decide) vv_X4_58 (by decide) rfl kC_9 rfl (Nat.le_of_ble_eq_true rfl) rfl (fun zv zh zq => c_X4_readOneOf w (xl x) 10 ((by decide)) h zv zh zq) (fun v1 h2 => ?_)
  refine s_istore_n (lv' := [(1, .int v1), (0, .ref (gB (GC w) + 9))]) hG dX4_readTest_6 rfl (by decide) rfl ?_
  refine s_iload_n hG dX4_readTest_7 0 rfl rfl ?_
  refine s_if_ge hG dX4_readTest_8 (tgt := 13) (by decide) (fun q3 => ?_) (fun q3 => ?_)
  · refine s_aload_n hG dX4_readTest_13 1 rfl rfl ?_
    refine s_ldcK hG hE 11 (by decide) rfl dX4_readTest_14 ?_
    refine s_callV (a := 9) (c := 4) (inj := inI) (As := [.ref (gK (GC w) 11)]) (st := []) rfl hG hE dX4_readTest_16 hR (by decide) vv_X4_58 (by decide) rfl kC_9 rfl (Nat.le_of_ble_eq_true rfl) rfl (fun zv zh zq => c_X4_readOneOf w (xl x) 11 ((by decide)) h2 zv zh zq) (fun v4 h5 => ?_)
    refine s_istore_n (lv' := [(2, .int v4), (1, .int v1), (0, .ref (gB (GC w) + 9))]) hG dX4_readTest_19 rfl (by decide) rfl ?_
    refine s_iload_n hG dX4_readTest_20 0 rfl rfl ?_
    refine s_if_ge hG dX4_readTest_21 (tgt := 26) (by decide) (fun q6 => ?_) (fun q6 => ?_)
    · refine s_aload_n hG dX4_readTest_26 2 rfl rfl ?_
      refine s_callV (a := 9) (c := 4) (inj := inI) (As := []) (st := []) rfl hG hE dX4_readTest_27 hR (by decide) vv_X4_50 (by decide) rfl kC_9 rfl (Nat.le_of_ble_eq_true rfl) rfl (fun zv zh zq => c_X4_readNumber w (xl x) h5 zv zh zq) (fun v7 h8 => ?_)
      refine s_istore_n (lv' := [(3, .int v7), (2, .int v4), (1, .int v1), (0, .ref (gB (GC w) + 9))]) hG dX4_readTest_30 rfl (by decide) rfl ?_
      refine s_iload_n hG dX4_readTest_31 0 rfl rfl ?_
      refine s_if_ge hG dX4_readTest_32 (tgt := 37) (by decide) (fun q9 => ?_) (fun q9 => ?_)
      · refine s_aload_n hG dX4_readTest_37 3 rfl rfl ?_
        refine s_getR hG hE dX4_readTest_38 fl_X4_19 rfl kC_9 ?_
        refine s_ck (fun q10 => ?_)
        refine s_nn (nzC (kC_of q10)) ?_
        refine s_iload_n hG dX4_readTest_41 2 rfl rfl ?_
        refine s_iload_n hG dX4_readTest_42 1 rfl rfl ?_
        refine s_iload_n hG dX4_readTest_43 0 rfl rfl ?_
        refine s_callV (a := gr h8 9 3) (c := 3) (inj := inV) (As := [.int v1, .int v4, .int v7]) (st := []) rfl hG hE dX4_readTest_44 hR (by decide) vv_X4_129 (by decide) rfl (kC_of q10) rfl (Nat.le_of_ble_eq_true rfl) rfl (fun zv zh zq => c_X3_addTest w (xl x) (gr h8 9 3) (kC_of q10) v1 v4 v7 h8 zv zh zq) (fun v11 h12 => ?_)
        refine s_iconst hG dX4_readTest_47 ic_1 ?_
        exact s_zret hG hT (by decide) dX4_readTest_48
      · refine s_iconst hG dX4_readTest_35 ic_0 ?_
        exact s_zret hG hT (by decide) dX4_readTest_36
    · refine s_iconst hG dX4_readTest_24 ic_0 ?_
      exact s_zret hG hT (by decide) dX4_readTest_25
  · refine s_iconst hG dX4_readTest_11 ic_0 ?_
    exact s_zret hG hT (by decide) dX4_readTest_12

theorem c_X4_readTest (w : WT) (l : Launch) (h : Hp) : ∀ v h', m_X4_readTest h = some (v, h') → MetM l (GC w) yX4_readTest cX4_readTest 4 (some .boolean) 6 [.ref (gB (GC w) + 9)] h (inI v) h' :=
  met_of (by decide) (lokC w) (Nat.le_of_ble_eq_true rfl) (fun x hx hG hE hR hT => s_X4_readTest w hx hG hE hR hT h)
theorem bc_124 : (Int8.ofInt 124).toInt32 = 124 := by decide
theorem bc_38 : (Int8.ofInt 38).toInt32 = 38 := by decide
theorem bc_m3 : (Int8.ofInt (-3)).toInt32 = (-3) := by decide
theorem vv_X4_118 : VV RX4 118 yX3_addStep cX3_addStep 2 none 1 := ⟨⟨gw_at 721 (by decide +kernel) (by decide +kernel), gw_at 720 (by decide +kernel) (by decide +kernel), gw_at 94 (by decide +kernel) (by decide +kernel), by decide +kernel, by decide⟩, gw_at 718 (by decide +kernel) (by decide +kernel), gw_at 719 (by decide +kernel) (by decide +kernel)⟩
theorem vv_X4_115 : VV RX4 115 yX4_readSingle cX4_readSingle 2 (some .boolean) 1 := ⟨⟨gw_at 703 (by decide +kernel) (by decide +kernel), gw_at 706 (by decide +kernel) (by decide +kernel), gw_at 88 (by decide +kernel) (by decide +kernel), by decide +kernel, by decide⟩, gw_at 705 (by decide +kernel) (by decide +kernel), gw_at 13 (by decide +kernel) (by decide +kernel)⟩
def m_X4_readEither_L64 (F : Int32 → Hp → Option (Int32 × Hp)) (k7 : Int32 → Int32 → Int32 → Int32 → Hp → Option (Int32 × Hp)) (a1 : Int32) (a2 : Int32) (a4 : Int32) (h : Hp) : Option (Int32 × Hp) := cb (m_X4_pass 124 h) fun v1 h2 => if v1 = 0 then some (1, h2) else vb (a4 + 1) fun v4 => k7 a1 a2 v1 v4 h2
set_option maxRecDepth 20000 in
set_option maxHeartbeats 4000000 in
theorem s_X4_readEither_L64 (w : WT) (dd : Nat) {x : CT} {l : Launch} (hx : xl x = l) (hG : Gd x cX4_readEither 5 RX4) (hE : Ge x (GC w)) (hR : Rm x (dd + 3)) (hT : Rt x (some .boolean)) (F : Int32 → Hp → Option (Int32 × Hp)) (HF : ∀ (l : Launch) (a1 : Int32) (h : Hp) v h', F a1 h = some (v, h') → MetM l (GC w) yX4_readSingle cX4_readSingle 2 (some .boolean) dd [.ref (gB (GC w) + 9), .int a1] h (inI v) h') (k7 : Int32 → Int32 → Int32 → Int32 → Hp → Option (Int32 × Hp)) (hk7 : ∀ (a1 : Int32) (a2 : Int32) (a3 : Int32) (a4 : Int32) (h : Hp), Sn x 5 (gA (GC w)) (0, 0) (ζM x (GC w) inI) (gW (GC w) h) 7 [(0, .ref (gB (GC w) + 9)), (1, .int a1), (2, .int a2), (3, .int a3), (4, .int a4)] [] (k7 a1 a2 a3 a4 h)) (a1 : Int32) (a2 : Int32) (a4 : Int32) (h : Hp) : Sn x 5 (gA (GC w)) (0, 0) (ζM x (GC w) inI) (gW (GC w) h) 64 [(0, .ref (gB (GC w) + 9)), (1, .int a1), (2, .int a2), (4, .int a4)] [] (m_X4_readEither_L64 F k7 a1 a2 a4 h) := by
  unfold m_X4_readEither_L64
  refine s_aload_n hG dX4_readEither_64 0 rfl rfl ?_
  refine s_bipush hG dX4_readEither_65 bc_124 ?_
  refine s_callV (a := 9) (c := 4) (inj := inI) (As := [.int 124]) (st := []) rfl hG hE dX4_readEither_67 hR (by omega) vv_X4_35 (by decide) rfl kC_9 rfl (Nat.le_of_ble_eq_true rfl) rfl (fun zv zh zq => c_X4_pass w (xl x) 124 h zv zh zq) (fun v1 h2 => ?_)
  refine s_istore_n (lv' := [(3, .int v1), (0, .ref (gB (GC w) + 9)), (1, .int a1), (2, .int a2), (4, .int a4)]) hG dX4_readEither_70 rfl (by decide) rfl ?_
  refine s_iload_n hG dX4_readEither_71 0 rfl rfl ?_
  refine s_if_ne hG dX4_readEither_72 (tgt := 77) (by decide) (fun q3 => ?_) (fun q3 => ?_)
  · refine s_iconst hG dX4_readEither_75 ic_1 ?_
    exact s_zret hG hT (by decide) dX4_readEither_76
  · refine s_iinc hG dX4_readEither_77 4 rfl ic_1 (by decide) (fun v4 => [(4, .int v4), (3, .int v1), (0, .ref (gB (GC w) + 9)), (1, .int a1), (2, .int a2)]) (fun _ => rfl) (fun v4 => ?_)
    refine s_goto (tgt := 7) hG dX4_readEither_80 (by decide) ?_
    refine s_lv [2, 3, 4, 1, 0] rfl ?_
    exact hk7 a1 a2 v1 v4 h2

def m_X4_readEither_L37 (F : Int32 → Hp → Option (Int32 × Hp)) (k7 : Int32 → Int32 → Int32 → Int32 → Hp → Option (Int32 × Hp)) (a1 : Int32) (a3 : Int32) (a4 : Int32) (h : Hp) : Option (Int32 × Hp) := cb (m_X4_pass 38 h) fun v1 h2 => if v1 = 0 then if a3 = 0 then m_X4_readEither_L64 F k7 a1 v1 a4 h2 else ck (kC 3 (gr h2 9 3)) (cb (m_X3_addStep (gr h2 9 3) (-3) h2) fun _ h7 => m_X4_readEither_L64 F k7 a1 v1 a4 h7) else vb (a4 + 1) fun v8 => k7 a1 v1 a3 v8 h2
set_option maxRecDepth 20000 in
set_option maxHeartbeats 4000000 in
theorem s_X4_readEither_L37 (w : WT) (dd : Nat) {x : CT} {l : Launch} (hx : xl x = l) (hG : Gd x cX4_readEither 5 RX4) (hE : Ge x (GC w)) (hR : Rm x (dd + 3)) (hT : Rt x (some .boolean)) (F : Int32 → Hp → Option (Int32 × Hp)) (HF : ∀ (l : Launch) (a1 : Int32) (h : Hp) v h', F a1 h = some (v, h') → MetM l (GC w) yX4_readSingle cX4_readSingle 2 (some .boolean) dd [.ref (gB (GC w) + 9), .int a1] h (inI v) h') (k7 : Int32 → Int32 → Int32 → Int32 → Hp → Option (Int32 × Hp)) (hk7 : ∀ (a1 : Int32) (a2 : Int32) (a3 : Int32) (a4 : Int32) (h : Hp), Sn x 5 (gA (GC w)) (0, 0) (ζM x (GC w) inI) (gW (GC w) h) 7 [(0, .ref (gB (GC w) + 9)), (1, .int a1), (2, .int a2), (3, .int a3), (4, .int a4)] [] (k7 a1 a2 a3 a4 h)) (a1 : Int32) (a3 : Int32) (a4 : Int32) (h : Hp) : Sn x 5 (gA (GC w)) (0, 0) (ζM x (GC w) inI) (gW (GC w) h) 37 [(0, .ref (gB (GC w) + 9)), (1, .int a1), (3, .int a3), (4, .int a4)] [] (m_X4_readEither_L37 F k7 a1 a3 a4 h) := by
  unfold m_X4_readEither_L37
  refine s_aload_n hG dX4_readEither_37 0 rfl rfl ?_
  refine s_bipush hG dX4_readEither_38 bc_38 ?_
  refine s_callV (a := 9) (c := 4) (inj := inI) (As := [.int 38]) (st := []) rfl hG hE dX4_readEither_40 hR (by omega) vv_X4_35 (by decide) rfl kC_9 rfl (Nat.le_of_ble_eq_true rfl) rfl (fun zv zh zq => c_X4_pass w (xl x) 38 h zv zh zq) (fun v1 h2 => ?_)
  refine s_istore_n (lv' := [(2, .int v1), (0, .ref (gB (GC w) + 9)), (1, .int a1), (3, .int a3), (4, .int a4)]) hG dX4_readEither_43 rfl (by decide) rfl ?_
  refine s_iload_n hG dX4_readEither_44 0 rfl rfl ?_
  refine s_if_eq hG dX4_readEither_45 (tgt := 51) (by decide) (fun q3 => ?_) (fun q3 => ?_)
  · refine s_iload_n hG dX4_readEither_51 3 rfl rfl ?_
    refine s_if_eq hG dX4_readEither_52 (tgt := 64) (by decide) (fun q4 => ?_) (fun q4 => ?_)
    · refine s_lv [1, 2, 0, 4] rfl ?_
      exact s_X4_readEither_L64 w dd hx hG hE hR hT F HF k7 hk7 a1 v1 a4 h2
    · refine s_aload_n hG dX4_readEither_55 1 rfl rfl ?_
      refine s_getR hG hE dX4_readEither_56 fl_X4_19 rfl kC_9 ?_
      refine s_ck (fun q5 => ?_)
      refine s_nn (nzC (kC_of q5)) ?_
      refine s_bipush hG dX4_readEither_59 bc_m3 ?_
      refine s_callV (a := gr h2 9 3) (c := 3) (inj := inV) (As := [.int (-3)]) (st := []) rfl hG hE dX4_readEither_61 hR (by omega) vv_X4_118 (by decide) rfl (kC_of q5) rfl (Nat.le_of_ble_eq_true rfl) rfl (fun zv zh zq => c_X3_addStep w (xl x) (gr h2 9 3) (kC_of q5) (-3) h2 zv zh zq) (fun v6 h7 => ?_)
      refine s_lv [1, 2, 0, 4] rfl ?_
      exact s_X4_readEither_L64 w dd hx hG hE hR hT F HF k7 hk7 a1 v1 a4 h7
  · refine s_goto (tgt := 77) hG dX4_readEither_48 (by decide) ?_
    refine s_iinc hG dX4_readEither_77 4 rfl ic_1 (by decide) (fun v8 => [(4, .int v8), (2, .int v1), (0, .ref (gB (GC w) + 9)), (1, .int a1), (3, .int a3)]) (fun _ => rfl) (fun v8 => ?_)
    refine s_goto (tgt := 7) hG dX4_readEither_80 (by decide) ?_
    refine s_lv [2, 3, 1, 4, 0] rfl ?_
    exact hk7 a1 v1 a3 v8 h2

def m_X4_readEither_L7 (F : Int32 → Hp → Option (Int32 × Hp)) : Nat → Int32 → Int32 → Int32 → Int32 → Hp → Option (Int32 × Hp)
  | 0, _, _, _, _, _ => none
  | n + 1, a1, a2, a3, a4, h => if 100 ≤ a4 then some (0, h) else cb (F a1 h) fun v2 h3 => if v2 = 0 then some (0, h3) else if a2 = 0 then m_X4_readEither_L37 F (m_X4_readEither_L7 F n) a1 a3 a4 h3 else ck (kC 3 (gr h3 9 3)) (cb (m_X3_addStep (gr h3 9 3) (-2) h3) fun _ h8 => m_X4_readEither_L37 F (m_X4_readEither_L7 F n) a1 a3 a4 h8)
set_option maxRecDepth 20000 in
set_option maxHeartbeats 4000000 in
theorem s_X4_readEither_L7 (w : WT) (dd : Nat) {x : CT} {l : Launch} (hx : xl x = l) (hG : Gd x cX4_readEither 5 RX4) (hE : Ge x (GC w)) (hR : Rm x (dd + 3)) (hT : Rt x (some .boolean)) (F : Int32 → Hp → Option (Int32 × Hp)) (HF : ∀ (l : Launch) (a1 : Int32) (h : Hp) v h', F a1 h = some (v, h') → MetM l (GC w) yX4_readSingle cX4_readSingle 2 (some .boolean) dd [.ref (gB (GC w) + 9), .int a1] h (inI v) h') : ∀ (n : Nat) (a1 : Int32) (a2 : Int32) (a3 : Int32) (a4 : Int32) (h : Hp), Sn x 5 (gA (GC w)) (0, 0) (ζM x (GC w) inI) (gW (GC w) h) 7 [(0, .ref (gB (GC w) + 9)), (1, .int a1), (2, .int a2), (3, .int a3), (4, .int a4)] [] (m_X4_readEither_L7 F n a1 a2 a3 a4 h) := by
  intro n
  induction n with
  | zero => intro a1 a2 a3 a4 h; exact s_none
  | succ n ih =>
    intro a1 a2 a3 a4 h
    rw [m_X4_readEither_L7]
    refine s_iload hG dX4_readEither_7 4 rfl ?_
    refine s_bipush hG dX4_readEither_9 bc_100 ?_
    refine s_icmp_ge hG dX4_readEither_11 (tgt := 83) (by decide) (fun q1 => ?_) (fun q1 => ?_)
    · refine s_iconst hG dX4_readEither_83 ic_0 ?_
      exact s_zret hG hT (by decide) dX4_readEither_84
    · refine s_aload_n hG dX4_readEither_14 0 rfl rfl ?_
      refine s_iload_n hG dX4_readEither_15 1 rfl rfl ?_
      refine s_callV (a := 9) (c := 4) (inj := inI) (As := [.int a1]) (st := []) rfl hG hE dX4_readEither_16 hR (by omega) vv_X4_115 (by decide) rfl kC_9 rfl (Nat.le_of_ble_eq_true rfl) rfl (fun zv zh zq => HF (xl x) a1 h zv zh zq) (fun v2 h3 => ?_)
      refine s_if_ne hG dX4_readEither_19 (tgt := 24) (by decide) (fun q4 => ?_) (fun q4 => ?_)
      · refine s_iconst hG dX4_readEither_22 ic_0 ?_
        exact s_zret hG hT (by decide) dX4_readEither_23
      · refine s_iload_n hG dX4_readEither_24 2 rfl rfl ?_
        refine s_if_eq hG dX4_readEither_25 (tgt := 37) (by decide) (fun q5 => ?_) (fun q5 => ?_)
        · refine s_lv [0, 1, 3, 4] rfl ?_
          exact s_X4_readEither_L37 w dd hx hG hE hR hT F HF (m_X4_readEither_L7 F n) ih a1 a3 a4 h3
        · refine s_aload_n hG dX4_readEither_28 0 rfl rfl ?_
          refine s_getR hG hE dX4_readEither_29 fl_X4_19 rfl kC_9 ?_
          refine s_ck (fun q6 => ?_)
          refine s_nn (nzC (kC_of q6)) ?_
          refine s_bipush hG dX4_readEither_32 bc_m2 ?_
          refine s_callV (a := gr h3 9 3) (c := 3) (inj := inV) (As := [.int (-2)]) (st := []) rfl hG hE dX4_readEither_34 hR (by omega) vv_X4_118 (by decide) rfl (kC_of q6) rfl (Nat.le_of_ble_eq_true rfl) rfl (fun zv zh zq => c_X3_addStep w (xl x) (gr h3 9 3) (kC_of q6) (-2) h3 zv zh zq) (fun v7 h8 => ?_)
          refine s_lv [0, 1, 3, 4] rfl ?_
          exact s_X4_readEither_L37 w dd hx hG hE hR hT F HF (m_X4_readEither_L7 F n) ih a1 a3 a4 h8

def m_X4_readEither (F : Int32 → Hp → Option (Int32 × Hp)) (a1 : Int32) (h : Hp) : Option (Int32 × Hp) := m_X4_readEither_L7 F FU a1 0 0 0 h
set_option maxRecDepth 20000 in
set_option maxHeartbeats 4000000 in
theorem s_X4_readEither (w : WT) (dd : Nat) {x : CT} {l : Launch} (hx : xl x = l) (hG : Gd x cX4_readEither 5 RX4) (hE : Ge x (GC w)) (hR : Rm x (dd + 3)) (hT : Rt x (some .boolean)) (F : Int32 → Hp → Option (Int32 × Hp)) (HF : ∀ (l : Launch) (a1 : Int32) (h : Hp) v h', F a1 h = some (v, h') → MetM l (GC w) yX4_readSingle cX4_readSingle 2 (some .boolean) dd [.ref (gB (GC w) + 9), .int a1] h (inI v) h') (a1 : Int32) (h : Hp) : Sn x 5 (gA (GC w)) (0, 0) (ζM x (GC w) inI) (gW (GC w) h) 0 [(0, .ref (gB (GC w) + 9)), (1, .int a1)] [] (m_X4_readEither F a1 h) := by
  unfold m_X4_readEither
  refine s_iconst hG dX4_readEither_0 ic_0 ?_
  refine s_istore_n (lv' := [(2, .int 0), (0, .ref (gB (GC w) + 9)), (1, .int a1)]) hG dX4_readEither_1 rfl (by decide) rfl ?_
  refine s_iconst hG dX4_readEither_2 ic_0 ?_
  refine s_istore_n (lv' := [(3, .int 0), (2, .int 0), (0, .ref (gB (GC w) + 9)), (1, .int a1)]) hG dX4_readEither_3 rfl (by decide) rfl ?_
  refine s_iconst hG dX4_readEither_4 ic_0 ?_
  refine s_istore (lv' := [(4, .int 0), (3, .int 0), (2, .int 0), (0, .ref (gB (GC w) + 9)), (1, .int a1)]) hG dX4_readEither_5 (by decide) rfl ?_
  refine s_lv [3, 4, 2, 1, 0] rfl ?_
  exact s_X4_readEither_L7 w dd hx hG hE hR hT F HF FU a1 0 0 0 h

theorem c_X4_readEither (w : WT) (dd : Nat) (l : Launch) (F : Int32 → Hp → Option (Int32 × Hp)) (HF : ∀ (l : Launch) (a1 : Int32) (h : Hp) v h', F a1 h = some (v, h') → MetM l (GC w) yX4_readSingle cX4_readSingle 2 (some .boolean) dd [.ref (gB (GC w) + 9), .int a1] h (inI v) h') (a1 : Int32) (h : Hp) : ∀ v h', m_X4_readEither F a1 h = some (v, h') → MetM l (GC w) yX4_readEither cX4_readEither 5 (some .boolean) (dd + 3) [.ref (gB (GC w) + 9), .int a1] h (inI v) h' :=
  met_of (by decide) (lokC w) (Nat.le_of_ble_eq_true rfl) (fun x hx hG hE hR hT => s_X4_readEither w dd hx hG hE hR hT F HF a1 h)
theorem bc_40 : (Int8.ofInt 40).toInt32 = 40 := by decide
theorem vv_X4_62 : VV RX4 62 yX4_readEither cX4_readEither 5 (some .boolean) 1 := ⟨⟨gw_at 699 (by decide +kernel) (by decide +kernel), gw_at 702 (by decide +kernel) (by decide +kernel), gw_at 88 (by decide +kernel) (by decide +kernel), by decide +kernel, by decide⟩, gw_at 701 (by decide +kernel) (by decide +kernel), gw_at 12 (by decide +kernel) (by decide +kernel)⟩
theorem bc_41 : (Int8.ofInt 41).toInt32 = 41 := by decide
theorem bc_33 : (Int8.ofInt 33).toInt32 = 33 := by decide
theorem vv_X4_122 : VV RX4 122 yX4_readTest cX4_readTest 4 (some .boolean) 0 := ⟨⟨gw_at 707 (by decide +kernel) (by decide +kernel), gw_at 710 (by decide +kernel) (by decide +kernel), gw_at 88 (by decide +kernel) (by decide +kernel), by decide +kernel, by decide⟩, gw_at 709 (by decide +kernel) (by decide +kernel), gw_at 14 (by decide +kernel) (by decide +kernel)⟩
def m_X4_readSingle_L23 (R : Int32 → Hp → Option (Int32 × Hp)) (F : Int32 → Hp → Option (Int32 × Hp)) (a1 : Int32) (h : Hp) : Option (Int32 × Hp) := if a1 < 4 then cb (m_X4_pass 40 h) fun v2 h3 => if v2 = 0 then hb (si h3 9 2 ((gi h3 9 2) + 1)) fun h5 => cb (F (a1 + 1) h5) fun v6 h7 => if v6 = 0 then some (0, h7) else ck (kC 3 (gr h7 9 3)) (cb (m_X3_addStep (gr h7 9 3) (-1) h7) fun _ h11 => some (1, h11)) else cb (R (a1 + 1) h3) fun v12 h13 => if v12 = 0 then some (0, h13) else cb (m_X4_pass 41 h13) fun v15 h16 => if v15 = 0 then some (0, h16) else some (1, h16) else some (0, h)
set_option maxRecDepth 20000 in
set_option maxHeartbeats 4000000 in
theorem s_X4_readSingle_L23 (w : WT) (dd : Nat) {x : CT} {l : Launch} (hx : xl x = l) (hG : Gd x cX4_readSingle 2 RX4) (hE : Ge x (GC w)) (hR : Rm x (dd + 7)) (hT : Rt x (some .boolean)) (R : Int32 → Hp → Option (Int32 × Hp)) (HR : ∀ (l : Launch) (a1 : Int32) (h : Hp) v h', R a1 h = some (v, h') → MetM l (GC w) yX4_readEither cX4_readEither 5 (some .boolean) (dd + 3) [.ref (gB (GC w) + 9), .int a1] h (inI v) h') (F : Int32 → Hp → Option (Int32 × Hp)) (HF : ∀ (l : Launch) (a1 : Int32) (h : Hp) v h', F a1 h = some (v, h') → MetM l (GC w) yX4_readSingle cX4_readSingle 2 (some .boolean) dd [.ref (gB (GC w) + 9), .int a1] h (inI v) h') (a1 : Int32) (h : Hp) : Sn x 2 (gA (GC w)) (0, 0) (ζM x (GC w) inI) (gW (GC w) h) 23 [(0, .ref (gB (GC w) + 9)), (1, .int a1)] [] (m_X4_readSingle_L23 R F a1 h) := by
  unfold m_X4_readSingle_L23
  refine s_iload_n hG dX4_readSingle_23 1 rfl rfl ?_
  refine s_iconst hG dX4_readSingle_24 ic_4 ?_
  refine s_icmp_lt hG dX4_readSingle_25 (tgt := 30) (by decide) (fun q1 => ?_) (fun q1 => ?_)
  · refine s_aload_n hG dX4_readSingle_30 0 rfl rfl ?_
    refine s_bipush hG dX4_readSingle_31 bc_40 ?_
    refine s_callV (a := 9) (c := 4) (inj := inI) (As := [.int 40]) (st := []) rfl hG hE dX4_readSingle_33 hR (by omega) vv_X4_35 (by decide) rfl kC_9 rfl (Nat.le_of_ble_eq_true rfl) rfl (fun zv zh zq => c_X4_pass w (xl x) 40 h zv zh zq) (fun v2 h3 => ?_)
    refine s_if_eq hG dX4_readSingle_36 (tgt := 64) (by decide) (fun q4 => ?_) (fun q4 => ?_)
    · refine s_aload_n hG dX4_readSingle_64 0 rfl rfl ?_
      refine s_dup hG dX4_readSingle_65 rfl ?_
      refine s_getI hG hE dX4_readSingle_66 fl_X4_28 rfl kC_9 ?_
      refine s_iconst hG dX4_readSingle_69 ic_1 ?_
      refine s_iadd hG dX4_readSingle_70 ?_
      refine s_putI hG hE dX4_readSingle_71 fl_X4_28 rfl rfl kC_9 (fun h5 => ?_)
      refine s_aload_n hG dX4_readSingle_74 0 rfl rfl ?_
      refine s_iload_n hG dX4_readSingle_75 1 rfl rfl ?_
      refine s_iconst hG dX4_readSingle_76 ic_1 ?_
      refine s_iadd hG dX4_readSingle_77 ?_
      refine s_callV (a := 9) (c := 4) (inj := inI) (As := [.int (a1 + 1)]) (st := []) rfl hG hE dX4_readSingle_78 hR (by omega) vv_X4_115 (by decide) rfl kC_9 rfl (Nat.le_of_ble_eq_true rfl) rfl (fun zv zh zq => HF (xl x) (a1 + 1) h5 zv zh zq) (fun v6 h7 => ?_)
      refine s_if_ne hG dX4_readSingle_81 (tgt := 86) (by decide) (fun q8 => ?_) (fun q8 => ?_)
      · refine s_iconst hG dX4_readSingle_84 ic_0 ?_
        exact s_zret hG hT (by decide) dX4_readSingle_85
      · refine s_aload_n hG dX4_readSingle_86 0 rfl rfl ?_
        refine s_getR hG hE dX4_readSingle_87 fl_X4_19 rfl kC_9 ?_
        refine s_ck (fun q9 => ?_)
        refine s_nn (nzC (kC_of q9)) ?_
        refine s_iconst hG dX4_readSingle_90 ic_m1 ?_
        refine s_callV (a := gr h7 9 3) (c := 3) (inj := inV) (As := [.int (-1)]) (st := []) rfl hG hE dX4_readSingle_91 hR (by omega) vv_X4_118 (by decide) rfl (kC_of q9) rfl (Nat.le_of_ble_eq_true rfl) rfl (fun zv zh zq => c_X3_addStep w (xl x) (gr h7 9 3) (kC_of q9) (-1) h7 zv zh zq) (fun v10 h11 => ?_)
        refine s_iconst hG dX4_readSingle_94 ic_1 ?_
        exact s_zret hG hT (by decide) dX4_readSingle_95
    · refine s_aload_n hG dX4_readSingle_39 0 rfl rfl ?_
      refine s_iload_n hG dX4_readSingle_40 1 rfl rfl ?_
      refine s_iconst hG dX4_readSingle_41 ic_1 ?_
      refine s_iadd hG dX4_readSingle_42 ?_
      refine s_callV (a := 9) (c := 4) (inj := inI) (As := [.int (a1 + 1)]) (st := []) rfl hG hE dX4_readSingle_43 hR (by omega) vv_X4_62 (by decide) rfl kC_9 rfl (Nat.le_of_ble_eq_true rfl) rfl (fun zv zh zq => HR (xl x) (a1 + 1) h3 zv zh zq) (fun v12 h13 => ?_)
      refine s_if_eq hG dX4_readSingle_46 (tgt := 62) (by decide) (fun q14 => ?_) (fun q14 => ?_)
      · refine s_iconst hG dX4_readSingle_62 ic_0 ?_
        exact s_zret hG hT (by decide) dX4_readSingle_63
      · refine s_aload_n hG dX4_readSingle_49 0 rfl rfl ?_
        refine s_bipush hG dX4_readSingle_50 bc_41 ?_
        refine s_callV (a := 9) (c := 4) (inj := inI) (As := [.int 41]) (st := []) rfl hG hE dX4_readSingle_52 hR (by omega) vv_X4_35 (by decide) rfl kC_9 rfl (Nat.le_of_ble_eq_true rfl) rfl (fun zv zh zq => c_X4_pass w (xl x) 41 h13 zv zh zq) (fun v15 h16 => ?_)
        refine s_if_eq hG dX4_readSingle_55 (tgt := 62) (by decide) (fun q17 => ?_) (fun q17 => ?_)
        · refine s_iconst hG dX4_readSingle_62 ic_0 ?_
          exact s_zret hG hT (by decide) dX4_readSingle_63
        · refine s_iconst hG dX4_readSingle_58 ic_1 ?_
          refine s_goto (tgt := 63) hG dX4_readSingle_59 (by decide) ?_
          exact s_zret hG hT (by decide) dX4_readSingle_63
  · refine s_iconst hG dX4_readSingle_28 ic_0 ?_
    exact s_zret hG hT (by decide) dX4_readSingle_29

def m_X4_readSingle (R : Int32 → Hp → Option (Int32 × Hp)) (F : Int32 → Hp → Option (Int32 × Hp)) (a1 : Int32) (h : Hp) : Option (Int32 × Hp) := cb (m_X4_here h) fun v1 h2 => if v1 = 40 then m_X4_readSingle_L23 R F a1 h2 else cb (m_X4_here h2) fun v4 h5 => if v4 = 33 then m_X4_readSingle_L23 R F a1 h5 else cb (m_X4_readTest h5) fun v7 h8 => ck (isb v7) (some (v7, h8))
set_option maxRecDepth 20000 in
set_option maxHeartbeats 4000000 in
theorem s_X4_readSingle (w : WT) (dd : Nat) {x : CT} {l : Launch} (hx : xl x = l) (hG : Gd x cX4_readSingle 2 RX4) (hE : Ge x (GC w)) (hR : Rm x (dd + 7)) (hT : Rt x (some .boolean)) (R : Int32 → Hp → Option (Int32 × Hp)) (HR : ∀ (l : Launch) (a1 : Int32) (h : Hp) v h', R a1 h = some (v, h') → MetM l (GC w) yX4_readEither cX4_readEither 5 (some .boolean) (dd + 3) [.ref (gB (GC w) + 9), .int a1] h (inI v) h') (F : Int32 → Hp → Option (Int32 × Hp)) (HF : ∀ (l : Launch) (a1 : Int32) (h : Hp) v h', F a1 h = some (v, h') → MetM l (GC w) yX4_readSingle cX4_readSingle 2 (some .boolean) dd [.ref (gB (GC w) + 9), .int a1] h (inI v) h') (a1 : Int32) (h : Hp) : Sn x 2 (gA (GC w)) (0, 0) (ζM x (GC w) inI) (gW (GC w) h) 0 [(0, .ref (gB (GC w) + 9)), (1, .int a1)] [] (m_X4_readSingle R F a1 h) := by
  unfold m_X4_readSingle
  refine s_aload_n hG dX4_readSingle_0 0 rfl rfl ?_
  refine s_callV (a := 9) (c := 4) (inj := inI) (As := []) (st := []) rfl hG hE dX4_readSingle_1 hR (by omega) vv_X4_77 (by decide) rfl kC_9 rfl (Nat.le_of_ble_eq_true rfl) rfl (fun zv zh zq => c_X4_here w (xl x) h zv zh zq) (fun v1 h2 => ?_)
  refine s_bipush hG dX4_readSingle_4 bc_40 ?_
  refine s_icmp_eq hG dX4_readSingle_6 (tgt := 23) (by decide) (fun q3 => ?_) (fun q3 => ?_)
  · exact s_X4_readSingle_L23 w dd hx hG hE hR hT R HR F HF a1 h2
  · refine s_aload_n hG dX4_readSingle_9 0 rfl rfl ?_
    refine s_callV (a := 9) (c := 4) (inj := inI) (As := []) (st := []) rfl hG hE dX4_readSingle_10 hR (by omega) vv_X4_77 (by decide) rfl kC_9 rfl (Nat.le_of_ble_eq_true rfl) rfl (fun zv zh zq => c_X4_here w (xl x) h2 zv zh zq) (fun v4 h5 => ?_)
    refine s_bipush hG dX4_readSingle_13 bc_33 ?_
    refine s_icmp_eq hG dX4_readSingle_15 (tgt := 23) (by decide) (fun q6 => ?_) (fun q6 => ?_)
    · exact s_X4_readSingle_L23 w dd hx hG hE hR hT R HR F HF a1 h5
    · refine s_aload_n hG dX4_readSingle_18 0 rfl rfl ?_
      refine s_callV (a := 9) (c := 4) (inj := inI) (As := []) (st := []) rfl hG hE dX4_readSingle_19 hR (by omega) vv_X4_122 (by decide) rfl kC_9 rfl (Nat.le_of_ble_eq_true rfl) rfl (fun zv zh zq => c_X4_readTest w (xl x) h5 zv zh zq) (fun v7 h8 => ?_)
      refine s_ck (fun q9 => ?_)
      exact s_zret hG hT (isb_cases q9) dX4_readSingle_22

theorem c_X4_readSingle (w : WT) (dd : Nat) (l : Launch) (R : Int32 → Hp → Option (Int32 × Hp)) (HR : ∀ (l : Launch) (a1 : Int32) (h : Hp) v h', R a1 h = some (v, h') → MetM l (GC w) yX4_readEither cX4_readEither 5 (some .boolean) (dd + 3) [.ref (gB (GC w) + 9), .int a1] h (inI v) h') (F : Int32 → Hp → Option (Int32 × Hp)) (HF : ∀ (l : Launch) (a1 : Int32) (h : Hp) v h', F a1 h = some (v, h') → MetM l (GC w) yX4_readSingle cX4_readSingle 2 (some .boolean) dd [.ref (gB (GC w) + 9), .int a1] h (inI v) h') (a1 : Int32) (h : Hp) : ∀ v h', m_X4_readSingle R F a1 h = some (v, h') → MetM l (GC w) yX4_readSingle cX4_readSingle 2 (some .boolean) (dd + 7) [.ref (gB (GC w) + 9), .int a1] h (inI v) h' :=
  met_of (by decide) (lokC w) (Nat.le_of_ble_eq_true rfl) (fun x hx hG hE hR hT => s_X4_readSingle w dd hx hG hE hR hT R HR F HF a1 h)
def m_X4_readSingleN : Nat → Int32 → Hp → Option (Int32 × Hp)
  | 0, _, _ => none
  | n + 1, a, h => m_X4_readSingle (m_X4_readEither (m_X4_readSingleN n)) (m_X4_readSingleN n) a h
def m_X4_readEitherN (n : Nat) (a : Int32) (h : Hp) : Option (Int32 × Hp) := m_X4_readEither (m_X4_readSingleN n) a h
theorem c_X4_readSingleN (w : WT) : ∀ (n : Nat), ∀ (l : Launch) (a1 : Int32) (h : Hp) v h', m_X4_readSingleN n a1 h = some (v, h') → MetM l (GC w) yX4_readSingle cX4_readSingle 2 (some .boolean) (7 * n) [.ref (gB (GC w) + 9), .int a1] h (inI v) h' := by
  intro n
  induction n with
  | zero => intro l a h v h' q; cases q
  | succ n ih =>
    intro l a h v h' q
    exact c_X4_readSingle w (7 * n) l _ (fun l a h v h' q => c_X4_readEither w (7 * n) l _ ih a h v h' q) _ ih a h v h' q
theorem c_X4_readEitherN (w : WT) : ∀ (n : Nat), ∀ (l : Launch) (a1 : Int32) (h : Hp) v h', m_X4_readEitherN n a1 h = some (v, h') → MetM l (GC w) yX4_readEither cX4_readEither 5 (some .boolean) (7 * n + 3) [.ref (gB (GC w) + 9), .int a1] h (inI v) h' := by
  intro n l a h v h' q
  exact c_X4_readEither w (7 * n) l _ (c_X4_readSingleN w n) a h v h' q
