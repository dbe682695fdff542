def m_X9_tape_L69 : Nat → Int32 → Int32 → Hp → Option (Int32 × Hp)
  | 0, _, _, _ => none
  | n + 1, a1, a4, h => if 60 ≤ a4 then some (1, h) else ck (inb ((60 * a1) + a4) 360) (hb (sl h 28 ((60 * a1) + a4).toNatClampNeg 0) fun h3 => vb (a4 + 1) fun v4 => m_X9_tape_L69 n a1 v4 h3)
set_option maxRecDepth 20000 in
set_option maxHeartbeats 4000000 in
theorem s_X9_tape_L69 (w : WT) {x : CT} {l : Launch} (hx : xl x = l) (hG : Gd x cX9_tape 5 RX9) (hE : Ge x (GM w)) (hR : Rm x 3) (hT : Rt x (some .int)) : ∀ (n : Nat) (a1 : Int32) (a4 : Int32) (h : Hp), Sn x 5 (gA (GM w)) (0, 0) (ζM x (GM w) inI) (gW (GM w) h) 69 [(0, .ref (gB (GM w) + 1)), (1, .int a1), (4, .int a4)] [] (m_X9_tape_L69 n a1 a4 h) := by
  intro n
  induction n with
  | zero => intro a1 a4 h; exact s_none
  | succ n ih =>
    intro a1 a4 h
    rw [m_X9_tape_L69]
    refine s_iload hG dX9_tape_69 2 rfl ?_
    refine s_bipush hG dX9_tape_71 bc_60 ?_
    refine s_icmp_ge hG dX9_tape_73 (tgt := 95) (by decide) (fun q1 => ?_) (fun q1 => ?_)
    · refine s_iconst hG dX9_tape_95 ic_1 ?_
      exact s_iret hG hT dX9_tape_96
    · refine s_aload_n hG dX9_tape_76 0 rfl rfl ?_
      refine s_getS hG hE dX9_tape_77 fl_X9_137 rfl kM_1 fM_9_41 (nzM kM_28) ?_
      refine s_bipush hG dX9_tape_80 bc_60 ?_
      refine s_iload_n hG dX9_tape_82 1 rfl rfl ?_
      refine s_imul hG dX9_tape_83 ?_
      refine s_iload hG dX9_tape_84 2 rfl ?_
      refine s_iadd hG dX9_tape_86 ?_
      refine s_lconst hG dX9_tape_87 lc_0 ?_
      refine s_ck (fun q2 => ?_)
      refine s_last hG hE dX9_tape_88 kM_28 q2 (fun h3 => ?_)
      refine s_iinc hG dX9_tape_89 2 rfl ic_1 (by decide) (fun v4 => [(4, .int v4), (0, .ref (gB (GM w) + 1)), (1, .int a1)]) (fun _ => rfl) (fun v4 => ?_)
      refine s_goto (tgt := 69) hG dX9_tape_92 (by decide) ?_
      refine s_lv [1, 2, 0] rfl ?_
      exact ih a1 v4 h3

def m_X9_tape_L65 (a1 : Int32) (t0 : Int32) (t1 : Int32) (t2 : Nat) (h : Hp) : Option (Int32 × Hp) := ck (inb t1 6) (hb (si h t2 t1.toNatClampNeg t0) fun h2 => m_X9_tape_L69 FU a1 0 h2)
set_option maxRecDepth 20000 in
set_option maxHeartbeats 4000000 in
theorem s_X9_tape_L65 (w : WT) {x : CT} {l : Launch} (hx : xl x = l) (hG : Gd x cX9_tape 5 RX9) (hE : Ge x (GM w)) (hR : Rm x 3) (hT : Rt x (some .int)) (a1 : Int32) (t0 : Int32) (t1 : Int32) (t2 : Nat) (q2 : LM t2 = (20, 6)) (h : Hp) : Sn x 5 (gA (GM w)) (0, 0) (ζM x (GM w) inI) (gW (GM w) h) 65 [(0, .ref (gB (GM w) + 1)), (1, .int a1)] [.int t0, .int t1, .ref (gB (GM w) + t2)] (m_X9_tape_L65 a1 t0 t1 t2 h) := by
  unfold m_X9_tape_L65
  refine s_ck (fun q1 => ?_)
  refine s_iast hG hE dX9_tape_65 q2 q1 (fun h2 => ?_)
  refine s_iconst hG dX9_tape_66 ic_0 ?_
  refine s_istore (lv' := [(4, .int 0), (0, .ref (gB (GM w) + 1)), (1, .int a1)]) hG dX9_tape_67 (by decide) rfl ?_
  refine s_lv [1, 2, 0] rfl ?_
  exact s_X9_tape_L69 w hx hG hE hR hT FU a1 0 h2

def m_X9_tape_L44 (a1 : Int32) (a2 : Int32) (a3 : Int32) (h : Hp) : Option (Int32 × Hp) := ck (inb a1 6) (hb (si h 26 a1.toNatClampNeg a2) fun h2 => if 0 ≤ a2 then m_X9_tape_L65 a1 a3 a1 27 h2 else m_X9_tape_L65 a1 0 a1 27 h2)
set_option maxRecDepth 20000 in
set_option maxHeartbeats 4000000 in
theorem s_X9_tape_L44 (w : WT) {x : CT} {l : Launch} (hx : xl x = l) (hG : Gd x cX9_tape 5 RX9) (hE : Ge x (GM w)) (hR : Rm x 3) (hT : Rt x (some .int)) (a1 : Int32) (a2 : Int32) (a3 : Int32) (h : Hp) : Sn x 5 (gA (GM w)) (0, 0) (ζM x (GM w) inI) (gW (GM w) h) 44 [(0, .ref (gB (GM w) + 1)), (1, .int a1), (2, .int a2), (3, .int a3)] [] (m_X9_tape_L44 a1 a2 a3 h) := by
  unfold m_X9_tape_L44
  refine s_aload_n hG dX9_tape_44 0 rfl rfl ?_
  refine s_getS hG hE dX9_tape_45 fl_X9_131 rfl kM_1 fM_9_39 (nzM kM_26) ?_
  refine s_iload_n hG dX9_tape_48 1 rfl rfl ?_
  refine s_iload_n hG dX9_tape_49 2 rfl rfl ?_
  refine s_ck (fun q1 => ?_)
  refine s_iast hG hE dX9_tape_50 kM_26 q1 (fun h2 => ?_)
  refine s_aload_n hG dX9_tape_51 0 rfl rfl ?_
  refine s_getS hG hE dX9_tape_52 fl_X9_134 rfl kM_1 fM_9_40 (nzM kM_27) ?_
  refine s_iload_n hG dX9_tape_55 1 rfl rfl ?_
  refine s_iload_n hG dX9_tape_56 2 rfl rfl ?_
  refine s_if_ge hG dX9_tape_57 (tgt := 64) (by decide) (fun q3 => ?_) (fun q3 => ?_)
  · refine s_iload_n hG dX9_tape_64 3 rfl rfl ?_
    refine s_lv [0, 1] rfl ?_
    exact s_X9_tape_L65 w hx hG hE hR hT a1 a3 a1 27 kM_27 h2
  · refine s_iconst hG dX9_tape_60 ic_0 ?_
    refine s_goto (tgt := 65) hG dX9_tape_61 (by decide) ?_
    refine s_lv [0, 1] rfl ?_
    exact s_X9_tape_L65 w hx hG hE hR hT a1 0 a1 27 kM_27 h2

def m_X9_tape_L33 (a1 : Int32) (a2 : Int32) (a3 : Int32) (h : Hp) : Option (Int32 × Hp) := if a2 < 0 then m_X9_tape_L44 a1 a2 a3 h else if 0 ≤ a3 then m_X9_tape_L44 a1 a2 a3 h else some ((-14), h)
set_option maxRecDepth 20000 in
set_option maxHeartbeats 4000000 in
theorem s_X9_tape_L33 (w : WT) {x : CT} {l : Launch} (hx : xl x = l) (hG : Gd x cX9_tape 5 RX9) (hE : Ge x (GM w)) (hR : Rm x 3) (hT : Rt x (some .int)) (a1 : Int32) (a2 : Int32) (a3 : Int32) (h : Hp) : Sn x 5 (gA (GM w)) (0, 0) (ζM x (GM w) inI) (gW (GM w) h) 33 [(0, .ref (gB (GM w) + 1)), (1, .int a1), (2, .int a2), (3, .int a3)] [] (m_X9_tape_L33 a1 a2 a3 h) := by
  unfold m_X9_tape_L33
  refine s_iload_n hG dX9_tape_33 2 rfl rfl ?_
  refine s_if_lt hG dX9_tape_34 (tgt := 44) (by decide) (fun q1 => ?_) (fun q1 => ?_)
  · exact s_X9_tape_L44 w hx hG hE hR hT a1 a2 a3 h
  · refine s_iload_n hG dX9_tape_37 3 rfl rfl ?_
    refine s_if_ge hG dX9_tape_38 (tgt := 44) (by decide) (fun q2 => ?_) (fun q2 => ?_)
    · exact s_X9_tape_L44 w hx hG hE hR hT a1 a2 a3 h
    · refine s_bipush hG dX9_tape_41 bc_m14 ?_
      exact s_iret hG hT dX9_tape_43

def m_X9_tape (a1 : Int32) (a2 : Int32) (a3 : Int32) (h : Hp) : Option (Int32 × Hp) := cb (m_X9_isTape a1 h) fun v1 h2 => if v1 = 0 then some ((-1), h2) else cb (m_X9_in a2 (-1) 4 h2) fun v4 h5 => if v4 = 0 then some ((-2), h5) else if a2 < 0 then m_X9_tape_L33 a1 a2 a3 h5 else if a3 ≤ 60 then m_X9_tape_L33 a1 a2 a3 h5 else some ((-2), h5)
set_option maxRecDepth 20000 in
set_option maxHeartbeats 4000000 in
theorem s_X9_tape (w : WT) {x : CT} {l : Launch} (hx : xl x = l) (hG : Gd x cX9_tape 5 RX9) (hE : Ge x (GM w)) (hR : Rm x 3) (hT : Rt x (some .int)) (a1 : Int32) (a2 : Int32) (a3 : Int32) (h : Hp) : Sn x 5 (gA (GM w)) (0, 0) (ζM x (GM w) inI) (gW (GM w) h) 0 [(0, .ref (gB (GM w) + 1)), (1, .int a1), (2, .int a2), (3, .int a3)] [] (m_X9_tape a1 a2 a3 h) := by
  unfold m_X9_tape
  refine s_aload_n hG dX9_tape_0 0 rfl rfl ?_
  refine s_iload_n hG dX9_tape_1 1 rfl rfl ?_
  refine s_callV (a := 1) (c := 9) (inj := inI) (As := [.int a1]) (st := []) rfl hG hE dX9_tape_2 hR (by decide) vv_X9_322 (by decide) rfl kM_1 rfl (Nat.le_of_ble_eq_true rfl) rfl (fun zv zh zq => c_X9_isTape w (xl x) a1 h zv zh zq) (fun v1 h2 => ?_)
  refine s_if_ne hG dX9_tape_5 (tgt := 10) (by decide) (fun q3 => ?_) (fun q3 => ?_)
  · refine s_iconst hG dX9_tape_8 ic_m1 ?_
    exact s_iret hG hT dX9_tape_9
  · refine s_aload_n hG dX9_tape_10 0 rfl rfl ?_
    refine s_iload_n hG dX9_tape_11 2 rfl rfl ?_
    refine s_iconst hG dX9_tape_12 ic_m1 ?_
    refine s_iconst hG dX9_tape_13 ic_4 ?_
    refine s_callV (a := 1) (c := 9) (inj := inI) (As := [.int a2, .int (-1), .int 4]) (st := []) rfl hG hE dX9_tape_14 hR (by decide) vv_X9_144 (by decide) rfl kM_1 rfl (Nat.le_of_ble_eq_true rfl) rfl (fun zv zh zq => c_X9_in w (xl x) a2 (-1) 4 h2 zv zh zq) (fun v4 h5 => ?_)
    refine s_if_eq hG dX9_tape_17 (tgt := 30) (by decide) (fun q6 => ?_) (fun q6 => ?_)
    · refine s_bipush hG dX9_tape_30 bc_m2 ?_
      exact s_iret hG hT dX9_tape_32
    · refine s_iload_n hG dX9_tape_20 2 rfl rfl ?_
      refine s_if_lt hG dX9_tape_21 (tgt := 33) (by decide) (fun q7 => ?_) (fun q7 => ?_)
      · exact s_X9_tape_L33 w hx hG hE hR hT a1 a2 a3 h5
      · refine s_iload_n hG dX9_tape_24 3 rfl rfl ?_
        refine s_bipush hG dX9_tape_25 bc_60 ?_
        refine s_icmp_le hG dX9_tape_27 (tgt := 33) (by decide) (fun q8 => ?_) (fun q8 => ?_)
        · exact s_X9_tape_L33 w hx hG hE hR hT a1 a2 a3 h5
        · refine s_bipush hG dX9_tape_30 bc_m2 ?_
          exact s_iret hG hT dX9_tape_32

theorem c_X9_tape (w : WT) (l : Launch) (a1 : Int32) (a2 : Int32) (a3 : Int32) (h : Hp) : ∀ v h', m_X9_tape a1 a2 a3 h = some (v, h') → MetM l (GM w) yX9_tape cX9_tape 5 (some .int) 3 [.ref (gB (GM w) + 1), .int a1, .int a2, .int a3] h (inI v) h' :=
  met_of (by decide) (lokM w) (Nat.le_of_ble_eq_true rfl) (fun x hx hG hE hR hT => s_X9_tape w hx hG hE hR hT a1 a2 a3 h)
def m_X9_narrow (a1 : Int32) (a2 : Int64) (h : Hp) : Option (Int64 × Hp) := if a1 = 0 then some (a2.toInt32.toInt8.toInt32.toInt64, h) else if a1 = 1 then some (a2.toInt32.toInt16.toInt32.toInt64, h) else if a1 = 2 then some (a2.toInt32.toInt64, h) else if a1 = 4 then if a2 = 0 then some (0, h) else some (1, h) else some (a2, h)
set_option maxRecDepth 20000 in
set_option maxHeartbeats 4000000 in
theorem s_X9_narrow (w : WT) {x : CT} {l : Launch} (hx : xl x = l) (hG : Gd x cX9_narrow 4 RX9) (hE : Ge x (GM w)) (hR : Rm x 1) (hT : Rt x (some .long)) (a1 : Int32) (a2 : Int64) (h : Hp) : Sn x 4 (gA (GM w)) (0, 0) (ζM x (GM w) inL) (gW (GM w) h) 0 [(0, .ref (gB (GM w) + 1)), (1, .int a1), (2, .long a2)] [] (m_X9_narrow a1 a2 h) := by
  unfold m_X9_narrow
  refine s_iload_n hG dX9_narrow_0 1 rfl rfl ?_
  refine s_if_ne hG dX9_narrow_1 (tgt := 11) (by decide) (fun q1 => ?_) (fun q1 => ?_)
  · refine s_lload_n hG dX9_narrow_4 2 rfl rfl ?_
    refine s_l2i hG dX9_narrow_5 ?_
    refine s_i2b hG dX9_narrow_6 ?_
    refine s_i2l hG dX9_narrow_7 ?_
    refine s_goto (tgt := 54) hG dX9_narrow_8 (by decide) ?_
    exact s_lret hG hT dX9_narrow_54
  · refine s_iload_n hG dX9_narrow_11 1 rfl rfl ?_
    refine s_iconst hG dX9_narrow_12 ic_1 ?_
    refine s_icmp_ne hG dX9_narrow_13 (tgt := 23) (by decide) (fun q2 => ?_) (fun q2 => ?_)
    · refine s_lload_n hG dX9_narrow_16 2 rfl rfl ?_
      refine s_l2i hG dX9_narrow_17 ?_
      refine s_i2s hG dX9_narrow_18 ?_
      refine s_i2l hG dX9_narrow_19 ?_
      refine s_goto (tgt := 54) hG dX9_narrow_20 (by decide) ?_
      exact s_lret hG hT dX9_narrow_54
    · refine s_iload_n hG dX9_narrow_23 1 rfl rfl ?_
      refine s_iconst hG dX9_narrow_24 ic_2 ?_
      refine s_icmp_ne hG dX9_narrow_25 (tgt := 34) (by decide) (fun q3 => ?_) (fun q3 => ?_)
      · refine s_lload_n hG dX9_narrow_28 2 rfl rfl ?_
        refine s_l2i hG dX9_narrow_29 ?_
        refine s_i2l hG dX9_narrow_30 ?_
        refine s_goto (tgt := 54) hG dX9_narrow_31 (by decide) ?_
        exact s_lret hG hT dX9_narrow_54
      · refine s_iload_n hG dX9_narrow_34 1 rfl rfl ?_
        refine s_iconst hG dX9_narrow_35 ic_4 ?_
        refine s_icmp_ne hG dX9_narrow_36 (tgt := 53) (by decide) (fun q4 => ?_) (fun q4 => ?_)
        · refine s_lload_n hG dX9_narrow_39 2 rfl rfl ?_
          refine s_lconst hG dX9_narrow_40 lc_0 ?_
          refine s_lcmp_eq hG dX9_narrow_41 dX9_narrow_42 (tgt := 49) (by decide) (fun q5 => ?_) (fun q5 => ?_)
          · refine s_lconst hG dX9_narrow_49 lc_0 ?_
            refine s_goto (tgt := 54) hG dX9_narrow_50 (by decide) ?_
            exact s_lret hG hT dX9_narrow_54
          · refine s_lconst hG dX9_narrow_45 lc_1 ?_
            refine s_goto (tgt := 54) hG dX9_narrow_46 (by decide) ?_
            exact s_lret hG hT dX9_narrow_54
        · refine s_lload_n hG dX9_narrow_53 2 rfl rfl ?_
          exact s_lret hG hT dX9_narrow_54

theorem c_X9_narrow (w : WT) (l : Launch) (a1 : Int32) (a2 : Int64) (h : Hp) : ∀ v h', m_X9_narrow a1 a2 h = some (v, h') → MetM l (GM w) yX9_narrow cX9_narrow 4 (some .long) 1 [.ref (gB (GM w) + 1), .int a1, .long a2] h (inL v) h' :=
  met_of (by decide) (lokM w) (Nat.le_of_ble_eq_true rfl) (fun x hx hG hE hR hT => s_X9_narrow w hx hG hE hR hT a1 a2 h)
theorem vv_X9_349 : VV RX9 349 yX9_narrow cX9_narrow 4 (some .long) 2 := ⟨⟨gw_at 1564 (by decide +kernel) (by decide +kernel), gw_at 1567 (by decide +kernel) (by decide +kernel), gw_at 96 (by decide +kernel) (by decide +kernel), by decide +kernel, by decide⟩, gw_at 1566 (by decide +kernel) (by decide +kernel), gw_at 85 (by decide +kernel) (by decide +kernel)⟩
def m_X9_item (a1 : Int32) (a2 : Int32) (a3 : Int64) (h : Hp) : Option (Int32 × Hp) := cb (m_X9_isTape a1 h) fun v1 h2 => if v1 = 0 then some ((-1), h2) else ck (inb a1 6) (if 0 ≤ (gi h2 26 a1.toNatClampNeg) then cb (m_X9_in a2 0 ((gi h2 27 a1.toNatClampNeg) - 1) h2) fun v6 h7 => if v6 = 0 then some ((-13), h7) else cb (m_X9_narrow (gi h7 26 a1.toNatClampNeg) a3 h7) fun v9 h10 => ck (inb ((60 * a1) + a2) 360) (hb (sl h10 28 ((60 * a1) + a2).toNatClampNeg v9) fun h12 => some (1, h12)) else some ((-11), h2))
set_option maxRecDepth 20000 in
set_option maxHeartbeats 4000000 in
theorem s_X9_item (w : WT) {x : CT} {l : Launch} (hx : xl x = l) (hG : Gd x cX9_item 5 RX9) (hE : Ge x (GM w)) (hR : Rm x 3) (hT : Rt x (some .int)) (a1 : Int32) (a2 : Int32) (a3 : Int64) (h : Hp) : Sn x 5 (gA (GM w)) (0, 0) (ζM x (GM w) inI) (gW (GM w) h) 0 [(0, .ref (gB (GM w) + 1)), (1, .int a1), (2, .int a2), (3, .long a3)] [] (m_X9_item a1 a2 a3 h) := by
  unfold m_X9_item
  refine s_aload_n hG dX9_item_0 0 rfl rfl ?_
  refine s_iload_n hG dX9_item_1 1 rfl rfl ?_
  refine s_callV (a := 1) (c := 9) (inj := inI) (As := [.int a1]) (st := []) rfl hG hE dX9_item_2 hR (by decide) vv_X9_322 (by decide) rfl kM_1 rfl (Nat.le_of_ble_eq_true rfl) rfl (fun zv zh zq => c_X9_isTape w (xl x) a1 h zv zh zq) (fun v1 h2 => ?_)
  refine s_if_ne hG dX9_item_5 (tgt := 10) (by decide) (fun q3 => ?_) (fun q3 => ?_)
  · refine s_iconst hG dX9_item_8 ic_m1 ?_
    exact s_iret hG hT dX9_item_9
  · refine s_aload_n hG dX9_item_10 0 rfl rfl ?_
    refine s_getS hG hE dX9_item_11 fl_X9_131 rfl kM_1 fM_9_39 (nzM kM_26) ?_
    refine s_iload_n hG dX9_item_14 1 rfl rfl ?_
    refine s_ck (fun q4 => ?_)
    refine s_iald hG hE dX9_item_15 kM_26 q4 ?_
    refine s_if_ge hG dX9_item_16 (tgt := 22) (by decide) (fun q5 => ?_) (fun q5 => ?_)
    · refine s_aload_n hG dX9_item_22 0 rfl rfl ?_
      refine s_iload_n hG dX9_item_23 2 rfl rfl ?_
      refine s_iconst hG dX9_item_24 ic_0 ?_
      refine s_aload_n hG dX9_item_25 0 rfl rfl ?_
      refine s_getS hG hE dX9_item_26 fl_X9_134 rfl kM_1 fM_9_40 (nzM kM_27) ?_
      refine s_iload_n hG dX9_item_29 1 rfl rfl ?_
      refine s_iald hG hE dX9_item_30 kM_27 q4 ?_
      refine s_iconst hG dX9_item_31 ic_1 ?_
      refine s_isub hG dX9_item_32 ?_
      refine s_callV (a := 1) (c := 9) (inj := inI) (As := [.int a2, .int 0, .int ((gi h2 27 a1.toNatClampNeg) - 1)]) (st := []) rfl hG hE dX9_item_33 hR (by decide) vv_X9_144 (by decide) rfl kM_1 rfl (Nat.le_of_ble_eq_true rfl) rfl (fun zv zh zq => c_X9_in w (xl x) a2 0 ((gi h2 27 a1.toNatClampNeg) - 1) h2 zv zh zq) (fun v6 h7 => ?_)
      refine s_if_ne hG dX9_item_36 (tgt := 42) (by decide) (fun q8 => ?_) (fun q8 => ?_)
      · refine s_bipush hG dX9_item_39 bc_m13 ?_
        exact s_iret hG hT dX9_item_41
      · refine s_aload_n hG dX9_item_42 0 rfl rfl ?_
        refine s_getS hG hE dX9_item_43 fl_X9_137 rfl kM_1 fM_9_41 (nzM kM_28) ?_
        refine s_bipush hG dX9_item_46 bc_60 ?_
        refine s_iload_n hG dX9_item_48 1 rfl rfl ?_
        refine s_imul hG dX9_item_49 ?_
        refine s_iload_n hG dX9_item_50 2 rfl rfl ?_
        refine s_iadd hG dX9_item_51 ?_
        refine s_aload_n hG dX9_item_52 0 rfl rfl ?_
        refine s_aload_n hG dX9_item_53 0 rfl rfl ?_
        refine s_getS hG hE dX9_item_54 fl_X9_131 rfl kM_1 fM_9_39 (nzM kM_26) ?_
        refine s_iload_n hG dX9_item_57 1 rfl rfl ?_
        refine s_iald hG hE dX9_item_58 kM_26 q4 ?_
        refine s_lload_n hG dX9_item_59 3 rfl rfl ?_
        refine s_callV (a := 1) (c := 9) (inj := inL) (As := [.int (gi h7 26 a1.toNatClampNeg), .long a3]) (st := [.int ((60 * a1) + a2), .ref (gB (GM w) + 28)]) rfl hG hE dX9_item_60 hR (by decide) vv_X9_349 (by decide) rfl kM_1 rfl (Nat.le_of_ble_eq_true rfl) rfl (fun zv zh zq => c_X9_narrow w (xl x) (gi h7 26 a1.toNatClampNeg) a3 h7 zv zh zq) (fun v9 h10 => ?_)
        refine s_ck (fun q11 => ?_)
        refine s_last hG hE dX9_item_63 kM_28 q11 (fun h12 => ?_)
        refine s_iconst hG dX9_item_64 ic_1 ?_
        exact s_iret hG hT dX9_item_65
    · refine s_bipush hG dX9_item_19 bc_m11 ?_
      exact s_iret hG hT dX9_item_21

theorem c_X9_item (w : WT) (l : Launch) (a1 : Int32) (a2 : Int32) (a3 : Int64) (h : Hp) : ∀ v h', m_X9_item a1 a2 a3 h = some (v, h') → MetM l (GM w) yX9_item cX9_item 5 (some .int) 3 [.ref (gB (GM w) + 1), .int a1, .int a2, .long a3] h (inI v) h' :=
  met_of (by decide) (lokM w) (Nat.le_of_ble_eq_true rfl) (fun x hx hG hE hR hT => s_X9_item w hx hG hE hR hT a1 a2 a3 h)
def m_X9_read (a1 : Int32) (a2 : Int32) (h : Hp) : Option (Int64 × Hp) := cb (m_X9_isTape a1 h) fun v1 h2 => if v1 = 0 then some ((-9223372036854775808), h2) else ck (inb a1 6) (if (gi h2 26 a1.toNatClampNeg) < 0 then some ((-9223372036854775808), h2) else cb (m_X9_in a2 0 ((gi h2 27 a1.toNatClampNeg) - 1) h2) fun v6 h7 => if v6 = 0 then some ((-9223372036854775808), h7) else ck (inb ((60 * a1) + a2) 360) (some (gl h7 28 ((60 * a1) + a2).toNatClampNeg, h7)))
set_option maxRecDepth 20000 in
set_option maxHeartbeats 4000000 in
theorem s_X9_read (w : WT) {x : CT} {l : Launch} (hx : xl x = l) (hG : Gd x cX9_read 3 RX9) (hE : Ge x (GM w)) (hR : Rm x 3) (hT : Rt x (some .long)) (a1 : Int32) (a2 : Int32) (h : Hp) : Sn x 3 (gA (GM w)) (0, 0) (ζM x (GM w) inL) (gW (GM w) h) 0 [(0, .ref (gB (GM w) + 1)), (1, .int a1), (2, .int a2)] [] (m_X9_read a1 a2 h) := by
  unfold m_X9_read
  refine s_aload_n hG dX9_read_0 0 rfl rfl ?_
  refine s_iload_n hG dX9_read_1 1 rfl rfl ?_
  refine s_callV (a := 1) (c := 9) (inj := inI) (As := [.int a1]) (st := []) rfl hG hE dX9_read_2 hR (by decide) vv_X9_322 (by decide) rfl kM_1 rfl (Nat.le_of_ble_eq_true rfl) rfl (fun zv zh zq => c_X9_isTape w (xl x) a1 h zv zh zq) (fun v1 h2 => ?_)
  refine s_if_eq hG dX9_read_5 (tgt := 34) (by decide) (fun q3 => ?_) (fun q3 => ?_)
  · refine s_ldc2 hG dX9_read_34 wd_1394 ?_
    refine s_goto (tgt := 51) hG dX9_read_37 (by decide) ?_
    exact s_lret hG hT dX9_read_51
  · refine s_aload_n hG dX9_read_8 0 rfl rfl ?_
    refine s_getS hG hE dX9_read_9 fl_X9_131 rfl kM_1 fM_9_39 (nzM kM_26) ?_
    refine s_iload_n hG dX9_read_12 1 rfl rfl ?_
    refine s_ck (fun q4 => ?_)
    refine s_iald hG hE dX9_read_13 kM_26 q4 ?_
    refine s_if_lt hG dX9_read_14 (tgt := 34) (by decide) (fun q5 => ?_) (fun q5 => ?_)
    · refine s_ldc2 hG dX9_read_34 wd_1394 ?_
      refine s_goto (tgt := 51) hG dX9_read_37 (by decide) ?_
      exact s_lret hG hT dX9_read_51
    · refine s_aload_n hG dX9_read_17 0 rfl rfl ?_
      refine s_iload_n hG dX9_read_18 2 rfl rfl ?_
      refine s_iconst hG dX9_read_19 ic_0 ?_
      refine s_aload_n hG dX9_read_20 0 rfl rfl ?_
      refine s_getS hG hE dX9_read_21 fl_X9_134 rfl kM_1 fM_9_40 (nzM kM_27) ?_
      refine s_iload_n hG dX9_read_24 1 rfl rfl ?_
      refine s_iald hG hE dX9_read_25 kM_27 q4 ?_
      refine s_iconst hG dX9_read_26 ic_1 ?_
      refine s_isub hG dX9_read_27 ?_
      refine s_callV (a := 1) (c := 9) (inj := inI) (As := [.int a2, .int 0, .int ((gi h2 27 a1.toNatClampNeg) - 1)]) (st := []) rfl hG hE dX9_read_28 hR (by decide) vv_X9_144 (by decide) rfl kM_1 rfl (Nat.le_of_ble_eq_true rfl) rfl (fun zv zh zq => c_X9_in w (xl x) a2 0 ((gi h2 27 a1.toNatClampNeg) - 1) h2 zv zh zq) (fun v6 h7 => ?_)
      refine s_if_ne hG dX9_read_31 (tgt := 40) (by decide) (fun q8 => ?_) (fun q8 => ?_)
      · refine s_ldc2 hG dX9_read_34 wd_1394 ?_
        refine s_goto (tgt := 51) hG dX9_read_37 (by decide) ?_
        exact s_lret hG hT dX9_read_51
      · refine s_aload_n hG dX9_read_40 0 rfl rfl ?_
        refine s_getS hG hE dX9_read_41 fl_X9_137 rfl kM_1 fM_9_41 (nzM kM_28) ?_
        refine s_bipush hG dX9_read_44 bc_60 ?_
        refine s_iload_n hG dX9_read_46 1 rfl rfl ?_
        refine s_imul hG dX9_read_47 ?_
        refine s_iload_n hG dX9_read_48 2 rfl rfl ?_
        refine s_iadd hG dX9_read_49 ?_
        refine s_ck (fun q9 => ?_)
        refine s_lald hG hE dX9_read_50 kM_28 q9 ?_
        exact s_lret hG hT dX9_read_51

theorem c_X9_read (w : WT) (l : Launch) (a1 : Int32) (a2 : Int32) (h : Hp) : ∀ v h', m_X9_read a1 a2 h = some (v, h') → MetM l (GM w) yX9_read cX9_read 3 (some .long) 3 [.ref (gB (GM w) + 1), .int a1, .int a2] h (inL v) h' :=
  met_of (by decide) (lokM w) (Nat.le_of_ble_eq_true rfl) (fun x hx hG hE hR hT => s_X9_read w hx hG hE hR hT a1 a2 h)
theorem fl_X9_141 : FL RX9 141 9 42 := ⟨by decide, by decide, gw_at 1109 (by decide +kernel) (by decide +kernel), rfl⟩
theorem fM_9_42 : SM 1 42 = some 29 := rfl
theorem kM_29 : LM 29 = (21, 60) := rfl
def m_X9_shift_L141 : Nat → Int32 → Int32 → Int32 → Int32 → Hp → Option (Int32 × Hp)
  | 0, _, _, _, _, _ => none
  | n + 1, a3, a4, a5, a6, h => if a5 ≤ a6 then some (a5, h) else ck (inb a6 60) (ck (inb (((60 * a3) + a4) + a6) 360) (hb (sl h 28 (((60 * a3) + a4) + a6).toNatClampNeg (gl h 29 a6.toNatClampNeg)) fun h4 => vb (a6 + 1) fun v5 => m_X9_shift_L141 n a3 a4 a5 v5 h4))
set_option maxRecDepth 20000 in
set_option maxHeartbeats 4000000 in
theorem s_X9_shift_L141 (w : WT) {x : CT} {l : Launch} (hx : xl x = l) (hG : Gd x cX9_shift 7 RX9) (hE : Ge x (GM w)) (hR : Rm x 3) (hT : Rt x (some .int)) : ∀ (n : Nat) (a3 : Int32) (a4 : Int32) (a5 : Int32) (a6 : Int32) (h : Hp), Sn x 7 (gA (GM w)) (0, 0) (ζM x (GM w) inI) (gW (GM w) h) 141 [(0, .ref (gB (GM w) + 1)), (3, .int a3), (4, .int a4), (5, .int a5), (6, .int a6)] [] (m_X9_shift_L141 n a3 a4 a5 a6 h) := by
  intro n
  induction n with
  | zero => intro a3 a4 a5 a6 h; exact s_none
  | succ n ih =>
    intro a3 a4 a5 a6 h
    rw [m_X9_shift_L141]
    refine s_iload hG dX9_shift_141 4 rfl ?_
    refine s_iload hG dX9_shift_143 3 rfl ?_
    refine s_icmp_ge hG dX9_shift_145 (tgt := 176) (by decide) (fun q1 => ?_) (fun q1 => ?_)
    · refine s_iload hG dX9_shift_176 3 rfl ?_
      exact s_iret hG hT dX9_shift_178
    · refine s_aload_n hG dX9_shift_148 0 rfl rfl ?_
      refine s_getS hG hE dX9_shift_149 fl_X9_137 rfl kM_1 fM_9_41 (nzM kM_28) ?_
      refine s_bipush hG dX9_shift_152 bc_60 ?_
      refine s_iload_n hG dX9_shift_154 1 rfl rfl ?_
      refine s_imul hG dX9_shift_155 ?_
      refine s_iload hG dX9_shift_156 2 rfl ?_
      refine s_iadd hG dX9_shift_158 ?_
      refine s_iload hG dX9_shift_159 4 rfl ?_
      refine s_iadd hG dX9_shift_161 ?_
      refine s_aload_n hG dX9_shift_162 0 rfl rfl ?_
      refine s_getS hG hE dX9_shift_163 fl_X9_141 rfl kM_1 fM_9_42 (nzM kM_29) ?_
      refine s_iload hG dX9_shift_166 4 rfl ?_
      refine s_ck (fun q2 => ?_)
      refine s_lald hG hE dX9_shift_168 kM_29 q2 ?_
      refine s_ck (fun q3 => ?_)
      refine s_last hG hE dX9_shift_169 kM_28 q3 (fun h4 => ?_)
      refine s_iinc hG dX9_shift_170 4 rfl ic_1 (by decide) (fun v5 => [(6, .int v5), (0, .ref (gB (GM w) + 1)), (3, .int a3), (4, .int a4), (5, .int a5)]) (fun _ => rfl) (fun v5 => ?_)
      refine s_goto (tgt := 141) hG dX9_shift_173 (by decide) ?_
      refine s_lv [1, 2, 3, 4, 0] rfl ?_
      exact ih a3 a4 a5 v5 h4

def m_X9_shift_L104 : Nat → Int32 → Int32 → Int32 → Int32 → Int32 → Int32 → Hp → Option (Int32 × Hp)
  | 0, _, _, _, _, _, _, _ => none
  | n + 1, a1, a2, a3, a4, a5, a6, h => if a5 ≤ a6 then m_X9_shift_L141 FU a3 a4 a5 0 h else ck (inb (((60 * a1) + a2) + a6) 360) (ck (inb a6 60) (hb (sl h 29 a6.toNatClampNeg (gl h 28 (((60 * a1) + a2) + a6).toNatClampNeg)) fun h4 => vb (a6 + 1) fun v5 => m_X9_shift_L104 n a1 a2 a3 a4 a5 v5 h4))
set_option maxRecDepth 20000 in
set_option maxHeartbeats 4000000 in
theorem s_X9_shift_L104 (w : WT) {x : CT} {l : Launch} (hx : xl x = l) (hG : Gd x cX9_shift 7 RX9) (hE : Ge x (GM w)) (hR : Rm x 3) (hT : Rt x (some .int)) : ∀ (n : Nat) (a1 : Int32) (a2 : Int32) (a3 : Int32) (a4 : Int32) (a5 : Int32) (a6 : Int32) (h : Hp), Sn x 7 (gA (GM w)) (0, 0) (ζM x (GM w) inI) (gW (GM w) h) 104 [(0, .ref (gB (GM w) + 1)), (1, .int a1), (2, .int a2), (3, .int a3), (4, .int a4), (5, .int a5), (6, .int a6)] [] (m_X9_shift_L104 n a1 a2 a3 a4 a5 a6 h) := by
  intro n
  induction n with
  | zero => intro a1 a2 a3 a4 a5 a6 h; exact s_none
  | succ n ih =>
    intro a1 a2 a3 a4 a5 a6 h
    rw [m_X9_shift_L104]
    refine s_iload hG dX9_shift_104 6 rfl ?_
    refine s_iload hG dX9_shift_106 5 rfl ?_
    refine s_icmp_ge hG dX9_shift_108 (tgt := 138) (by decide) (fun q1 => ?_) (fun q1 => ?_)
    · refine s_iconst hG dX9_shift_138 ic_0 ?_
      refine s_istore (lv' := [(6, .int 0), (0, .ref (gB (GM w) + 1)), (1, .int a1), (2, .int a2), (3, .int a3), (4, .int a4), (5, .int a5)]) hG dX9_shift_139 (by decide) rfl ?_
      refine s_lv [1, 4, 5, 6, 0] rfl ?_
      exact s_X9_shift_L141 w hx hG hE hR hT FU a3 a4 a5 0 h
    · refine s_aload_n hG dX9_shift_111 0 rfl rfl ?_
      refine s_getS hG hE dX9_shift_112 fl_X9_141 rfl kM_1 fM_9_42 (nzM kM_29) ?_
      refine s_iload hG dX9_shift_115 6 rfl ?_
      refine s_aload_n hG dX9_shift_117 0 rfl rfl ?_
      refine s_getS hG hE dX9_shift_118 fl_X9_137 rfl kM_1 fM_9_41 (nzM kM_28) ?_
      refine s_bipush hG dX9_shift_121 bc_60 ?_
      refine s_iload_n hG dX9_shift_123 1 rfl rfl ?_
      refine s_imul hG dX9_shift_124 ?_
      refine s_iload_n hG dX9_shift_125 2 rfl rfl ?_
      refine s_iadd hG dX9_shift_126 ?_
      refine s_iload hG dX9_shift_127 6 rfl ?_
      refine s_iadd hG dX9_shift_129 ?_
      refine s_ck (fun q2 => ?_)
      refine s_lald hG hE dX9_shift_130 kM_28 q2 ?_
      refine s_ck (fun q3 => ?_)
      refine s_last hG hE dX9_shift_131 kM_29 q3 (fun h4 => ?_)
      refine s_iinc hG dX9_shift_132 6 rfl ic_1 (by decide) (fun v5 => [(6, .int v5), (0, .ref (gB (GM w) + 1)), (1, .int a1), (2, .int a2), (3, .int a3), (4, .int a4), (5, .int a5)]) (fun _ => rfl) (fun v5 => ?_)
      refine s_goto (tgt := 104) hG dX9_shift_135 (by decide) ?_
      refine s_lv [1, 2, 3, 4, 5, 6, 0] rfl ?_
      exact ih a1 a2 a3 a4 a5 v5 h4

def m_X9_shift (a1 : Int32) (a2 : Int32) (a3 : Int32) (a4 : Int32) (a5 : Int32) (h : Hp) : Option (Int32 × Hp) := cb (m_X9_isTape a1 h) fun v1 h2 => if v1 = 0 then some ((-1), h2) else cb (m_X9_isTape a3 h2) fun v4 h5 => if v4 = 0 then some ((-1), h5) else ck (inb a1 6) (if (gi h5 26 a1.toNatClampNeg) < 0 then some ((-11), h5) else ck (inb a3 6) (if 0 ≤ (gi h5 26 a3.toNatClampNeg) then if (gi h5 26 a1.toNatClampNeg) = (gi h5 26 a3.toNatClampNeg) then if a5 < 0 then some ((-13), h5) else if a2 < 0 then some ((-13), h5) else if a4 < 0 then some ((-13), h5) else if ((gi h5 27 a1.toNatClampNeg) - a5) < a2 then some ((-13), h5) else if a4 ≤ ((gi h5 27 a3.toNatClampNeg) - a5) then m_X9_shift_L104 FU a1 a2 a3 a4 a5 0 h5 else some ((-13), h5) else some ((-12), h5) else some ((-11), h5)))
set_option maxRecDepth 20000 in
set_option maxHeartbeats 4000000 in
theorem s_X9_shift (w : WT) {x : CT} {l : Launch} (hx : xl x = l) (hG : Gd x cX9_shift 7 RX9) (hE : Ge x (GM w)) (hR : Rm x 3) (hT : Rt x (some .int)) (a1 : Int32) (a2 : Int32) (a3 : Int32) (a4 : Int32) (a5 : Int32) (h : Hp) : Sn x 7 (gA (GM w)) (0, 0) (ζM x (GM w) inI) (gW (GM w) h) 0 [(0, .ref (gB (GM w) + 1)), (1, .int a1), (2, .int a2), (3, .int a3), (4, .int a4), (5, .int a5)] [] (m_X9_shift a1 a2 a3 a4 a5 h) := by
  unfold m_X9_shift
  refine s_aload_n hG dX9_shift_0 0 rfl rfl ?_
  refine s_iload_n hG dX9_shift_1 1 rfl rfl ?_
  refine s_callV (a := 1) (c := 9) (inj := inI) (As := [.int a1]) (st := []) rfl hG hE dX9_shift_2 hR (by decide) vv_X9_322 (by decide) rfl kM_1 rfl (Nat.le_of_ble_eq_true rfl) rfl (fun zv zh zq => c_X9_isTape w (xl x) a1 h zv zh zq) (fun v1 h2 => ?_)
  refine s_if_eq hG dX9_shift_5 (tgt := 16) (by decide) (fun q3 => ?_) (fun q3 => ?_)
  · refine s_iconst hG dX9_shift_16 ic_m1 ?_
    exact s_iret hG hT dX9_shift_17
  · refine s_aload_n hG dX9_shift_8 0 rfl rfl ?_
    refine s_iload_n hG dX9_shift_9 3 rfl rfl ?_
    refine s_callV (a := 1) (c := 9) (inj := inI) (As := [.int a3]) (st := []) rfl hG hE dX9_shift_10 hR (by decide) vv_X9_322 (by decide) rfl kM_1 rfl (Nat.le_of_ble_eq_true rfl) rfl (fun zv zh zq => c_X9_isTape w (xl x) a3 h2 zv zh zq) (fun v4 h5 => ?_)
    refine s_if_ne hG dX9_shift_13 (tgt := 18) (by decide) (fun q6 => ?_) (fun q6 => ?_)
    · refine s_iconst hG dX9_shift_16 ic_m1 ?_
      exact s_iret hG hT dX9_shift_17
    · refine s_aload_n hG dX9_shift_18 0 rfl rfl ?_
      refine s_getS hG hE dX9_shift_19 fl_X9_131 rfl kM_1 fM_9_39 (nzM kM_26) ?_
      refine s_iload_n hG dX9_shift_22 1 rfl rfl ?_
      refine s_ck (fun q7 => ?_)
      refine s_iald hG hE dX9_shift_23 kM_26 q7 ?_
      refine s_if_lt hG dX9_shift_24 (tgt := 36) (by decide) (fun q8 => ?_) (fun q8 => ?_)
      · refine s_bipush hG dX9_shift_36 bc_m11 ?_
        exact s_iret hG hT dX9_shift_38
      · refine s_aload_n hG dX9_shift_27 0 rfl rfl ?_
        refine s_getS hG hE dX9_shift_28 fl_X9_131 rfl kM_1 fM_9_39 (nzM kM_26) ?_
        refine s_iload_n hG dX9_shift_31 3 rfl rfl ?_
        refine s_ck (fun q9 => ?_)
        refine s_iald hG hE dX9_shift_32 kM_26 q9 ?_
        refine s_if_ge hG dX9_shift_33 (tgt := 39) (by decide) (fun q10 => ?_) (fun q10 => ?_)
        · refine s_aload_n hG dX9_shift_39 0 rfl rfl ?_
          refine s_getS hG hE dX9_shift_40 fl_X9_131 rfl kM_1 fM_9_39 (nzM kM_26) ?_
          refine s_iload_n hG dX9_shift_43 1 rfl rfl ?_
          refine s_iald hG hE dX9_shift_44 kM_26 q7 ?_
          refine s_aload_n hG dX9_shift_45 0 rfl rfl ?_
          refine s_getS hG hE dX9_shift_46 fl_X9_131 rfl kM_1 fM_9_39 (nzM kM_26) ?_
          refine s_iload_n hG dX9_shift_49 3 rfl rfl ?_
          refine s_iald hG hE dX9_shift_50 kM_26 q9 ?_
          refine s_icmp_eq hG dX9_shift_51 (tgt := 57) (by decide) (fun q11 => ?_) (fun q11 => ?_)
          · refine s_iload hG dX9_shift_57 5 rfl ?_
            refine s_if_lt hG dX9_shift_59 (tgt := 98) (by decide) (fun q12 => ?_) (fun q12 => ?_)
            · refine s_bipush hG dX9_shift_98 bc_m13 ?_
              exact s_iret hG hT dX9_shift_100
            · refine s_iload_n hG dX9_shift_62 2 rfl rfl ?_
              refine s_if_lt hG dX9_shift_63 (tgt := 98) (by decide) (fun q13 => ?_) (fun q13 => ?_)
              · refine s_bipush hG dX9_shift_98 bc_m13 ?_
                exact s_iret hG hT dX9_shift_100
              · refine s_iload hG dX9_shift_66 4 rfl ?_
                refine s_if_lt hG dX9_shift_68 (tgt := 98) (by decide) (fun q14 => ?_) (fun q14 => ?_)
                · refine s_bipush hG dX9_shift_98 bc_m13 ?_
                  exact s_iret hG hT dX9_shift_100
                · refine s_iload_n hG dX9_shift_71 2 rfl rfl ?_
                  refine s_aload_n hG dX9_shift_72 0 rfl rfl ?_
                  refine s_getS hG hE dX9_shift_73 fl_X9_134 rfl kM_1 fM_9_40 (nzM kM_27) ?_
                  refine s_iload_n hG dX9_shift_76 1 rfl rfl ?_
                  refine s_iald hG hE dX9_shift_77 kM_27 q7 ?_
                  refine s_iload hG dX9_shift_78 5 rfl ?_
                  refine s_isub hG dX9_shift_80 ?_
                  refine s_icmp_gt hG dX9_shift_81 (tgt := 98) (by decide) (fun q15 => ?_) (fun q15 => ?_)
                  · refine s_bipush hG dX9_shift_98 bc_m13 ?_
                    exact s_iret hG hT dX9_shift_100
                  · refine s_iload hG dX9_shift_84 4 rfl ?_
                    refine s_aload_n hG dX9_shift_86 0 rfl rfl ?_
                    refine s_getS hG hE dX9_shift_87 fl_X9_134 rfl kM_1 fM_9_40 (nzM kM_27) ?_
                    refine s_iload_n hG dX9_shift_90 3 rfl rfl ?_
                    refine s_iald hG hE dX9_shift_91 kM_27 q9 ?_
                    refine s_iload hG dX9_shift_92 5 rfl ?_
                    refine s_isub hG dX9_shift_94 ?_
                    refine s_icmp_le hG dX9_shift_95 (tgt := 101) (by decide) (fun q16 => ?_) (fun q16 => ?_)
                    · refine s_iconst hG dX9_shift_101 ic_0 ?_
                      refine s_istore (lv' := [(6, .int 0), (0, .ref (gB (GM w) + 1)), (1, .int a1), (2, .int a2), (3, .int a3), (4, .int a4), (5, .int a5)]) hG dX9_shift_102 (by decide) rfl ?_
                      refine s_lv [1, 2, 3, 4, 5, 6, 0] rfl ?_
                      exact s_X9_shift_L104 w hx hG hE hR hT FU a1 a2 a3 a4 a5 0 h5
                    · refine s_bipush hG dX9_shift_98 bc_m13 ?_
                      exact s_iret hG hT dX9_shift_100
          · refine s_bipush hG dX9_shift_54 bc_m12 ?_
            exact s_iret hG hT dX9_shift_56
        · refine s_bipush hG dX9_shift_36 bc_m11 ?_
          exact s_iret hG hT dX9_shift_38

theorem c_X9_shift (w : WT) (l : Launch) (a1 : Int32) (a2 : Int32) (a3 : Int32) (a4 : Int32) (a5 : Int32) (h : Hp) : ∀ v h', m_X9_shift a1 a2 a3 a4 a5 h = some (v, h') → MetM l (GM w) yX9_shift cX9_shift 7 (some .int) 3 [.ref (gB (GM w) + 1), .int a1, .int a2, .int a3, .int a4, .int a5] h (inI v) h' :=
  met_of (by decide) (lokM w) (Nat.le_of_ble_eq_true rfl) (fun x hx hG hE hR hT => s_X9_shift w hx hG hE hR hT a1 a2 a3 a4 a5 h)
