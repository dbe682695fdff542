theorem fl_X9_100 : FL RX9 100 9 29 := ⟨by decide, by decide, gw_at 1096 (by decide +kernel) (by decide +kernel), rfl⟩
theorem fM_9_29 : SM 1 29 = some 21 := rfl
theorem kM_21 : LM 21 = (20, 24) := rfl
theorem fl_X9_103 : FL RX9 103 9 30 := ⟨by decide, by decide, gw_at 1097 (by decide +kernel) (by decide +kernel), rfl⟩
theorem fM_9_30 : SM 1 30 = some 22 := rfl
theorem kM_22 : LM 22 = (20, 24) := rfl
def m_X9_keepAnswers_L2 : Nat → Int32 → Hp → Option (Unit × Hp)
  | 0, _, _ => none
  | n + 1, a1, h => if (gi h 1 1) ≤ a1 then some ((), h) else cb (m_X9_get a1 3 h) fun v2 h3 => ck (inb a1 24) (hb (si h3 21 a1.toNatClampNeg v2) fun h5 => cb (m_X9_get a1 4 h5) fun v6 h7 => hb (si h7 22 a1.toNatClampNeg v6) fun h8 => vb (a1 + 1) fun v9 => m_X9_keepAnswers_L2 n v9 h8)
set_option maxRecDepth 20000 in
set_option maxHeartbeats 4000000 in
theorem s_X9_keepAnswers_L2 (w : WT) {x : CT} {l : Launch} (hx : xl x = l) (hG : Gd x cX9_keepAnswers 2 RX9) (hE : Ge x (GM w)) (hR : Rm x 2) (hT : Rt x none) : ∀ (n : Nat) (a1 : Int32) (h : Hp), Sn x 2 (gA (GM w)) (0, 0) (ζM x (GM w) inV) (gW (GM w) h) 2 [(0, .ref (gB (GM w) + 1)), (1, .int a1)] [] (m_X9_keepAnswers_L2 n a1 h) := by
  intro n
  induction n with
  | zero => intro a1 h; exact s_none
  | succ n ih =>
    intro a1 h
    rw [m_X9_keepAnswers_L2]
    refine s_iload_n hG dX9_keepAnswers_2 1 rfl rfl ?_
    refine s_aload_n hG dX9_keepAnswers_3 0 rfl rfl ?_
    refine s_getI hG hE dX9_keepAnswers_4 fl_X9_13 rfl kM_1 ?_
    refine s_icmp_ge hG dX9_keepAnswers_7 (tgt := 40) (by decide) (fun q1 => ?_) (fun q1 => ?_)
    · exact s_vret hG hT dX9_keepAnswers_40
    · refine s_aload_n hG dX9_keepAnswers_10 0 rfl rfl ?_
      refine s_getS hG hE dX9_keepAnswers_11 fl_X9_100 rfl kM_1 fM_9_29 (nzM kM_21) ?_
      refine s_iload_n hG dX9_keepAnswers_14 1 rfl rfl ?_
      refine s_aload_n hG dX9_keepAnswers_15 0 rfl rfl ?_
      refine s_iload_n hG dX9_keepAnswers_16 1 rfl rfl ?_
      refine s_iconst hG dX9_keepAnswers_17 ic_3 ?_
      refine s_callV (a := 1) (c := 9) (inj := inI) (As := [.int a1, .int 3]) (st := [.int a1, .ref (gB (GM w) + 21)]) rfl hG hE dX9_keepAnswers_18 hR (by decide) vv_X9_148 (by decide) rfl kM_1 rfl (Nat.le_of_ble_eq_true rfl) rfl (fun zv zh zq => c_X9_get w (xl x) a1 3 h zv zh zq) (fun v2 h3 => ?_)
      refine s_ck (fun q4 => ?_)
      refine s_iast hG hE dX9_keepAnswers_21 kM_21 q4 (fun h5 => ?_)
      refine s_aload_n hG dX9_keepAnswers_22 0 rfl rfl ?_
      refine s_getS hG hE dX9_keepAnswers_23 fl_X9_103 rfl kM_1 fM_9_30 (nzM kM_22) ?_
      refine s_iload_n hG dX9_keepAnswers_26 1 rfl rfl ?_
      refine s_aload_n hG dX9_keepAnswers_27 0 rfl rfl ?_
      refine s_iload_n hG dX9_keepAnswers_28 1 rfl rfl ?_
      refine s_iconst hG dX9_keepAnswers_29 ic_4 ?_
      refine s_callV (a := 1) (c := 9) (inj := inI) (As := [.int a1, .int 4]) (st := [.int a1, .ref (gB (GM w) + 22)]) rfl hG hE dX9_keepAnswers_30 hR (by decide) vv_X9_148 (by decide) rfl kM_1 rfl (Nat.le_of_ble_eq_true rfl) rfl (fun zv zh zq => c_X9_get w (xl x) a1 4 h5 zv zh zq) (fun v6 h7 => ?_)
      refine s_iast hG hE dX9_keepAnswers_33 kM_22 q4 (fun h8 => ?_)
      refine s_iinc hG dX9_keepAnswers_34 1 rfl ic_1 (by decide) (fun v9 => [(1, .int v9), (0, .ref (gB (GM w) + 1))]) (fun _ => rfl) (fun v9 => ?_)
      refine s_goto (tgt := 2) hG dX9_keepAnswers_37 (by decide) ?_
      refine s_lv [1, 0] rfl ?_
      exact ih v9 h8

def m_X9_keepAnswers (h : Hp) : Option (Unit × Hp) := m_X9_keepAnswers_L2 FU 0 h
set_option maxRecDepth 20000 in
set_option maxHeartbeats 4000000 in
theorem s_X9_keepAnswers (w : WT) {x : CT} {l : Launch} (hx : xl x = l) (hG : Gd x cX9_keepAnswers 2 RX9) (hE : Ge x (GM w)) (hR : Rm x 2) (hT : Rt x none) (h : Hp) : Sn x 2 (gA (GM w)) (0, 0) (ζM x (GM w) inV) (gW (GM w) h) 0 [(0, .ref (gB (GM w) + 1))] [] (m_X9_keepAnswers h) := by
  unfold m_X9_keepAnswers
  refine s_iconst hG dX9_keepAnswers_0 ic_0 ?_
  refine s_istore_n (lv' := [(1, .int 0), (0, .ref (gB (GM w) + 1))]) hG dX9_keepAnswers_1 rfl (by decide) rfl ?_
  refine s_lv [1, 0] rfl ?_
  exact s_X9_keepAnswers_L2 w hx hG hE hR hT FU 0 h

theorem c_X9_keepAnswers (w : WT) (l : Launch) (h : Hp) : ∀ v h', m_X9_keepAnswers h = some (v, h') → MetM l (GM w) yX9_keepAnswers cX9_keepAnswers 2 none 2 [.ref (gB (GM w) + 1)] h (inV v) h' :=
  met_of (by decide) (lokM w) (Nat.le_of_ble_eq_true rfl) (fun x hx hG hE hR hT => s_X9_keepAnswers w hx hG hE hR hT h)
def m_X9_putBack_L2 : Nat → Int32 → Hp → Option (Unit × Hp)
  | 0, _, _ => none
  | n + 1, a1, h => if (gi h 1 1) ≤ a1 then some ((), h) else ck (inb a1 24) (ck (inb ((10 * a1) + 3) 240) (hb (si h 6 ((10 * a1) + 3).toNatClampNeg (gi h 21 a1.toNatClampNeg)) fun h4 => ck (inb ((10 * a1) + 4) 240) (hb (si h4 6 ((10 * a1) + 4).toNatClampNeg (gi h4 22 a1.toNatClampNeg)) fun h6 => vb (a1 + 1) fun v7 => m_X9_putBack_L2 n v7 h6)))
set_option maxRecDepth 20000 in
set_option maxHeartbeats 4000000 in
theorem s_X9_putBack_L2 (w : WT) {x : CT} {l : Launch} (hx : xl x = l) (hG : Gd x cX9_putBack 2 RX9) (hE : Ge x (GM w)) (hR : Rm x 1) (hT : Rt x none) : ∀ (n : Nat) (a1 : Int32) (h : Hp), Sn x 2 (gA (GM w)) (0, 0) (ζM x (GM w) inV) (gW (GM w) h) 2 [(0, .ref (gB (GM w) + 1)), (1, .int a1)] [] (m_X9_putBack_L2 n a1 h) := by
  intro n
  induction n with
  | zero => intro a1 h; exact s_none
  | succ n ih =>
    intro a1 h
    rw [m_X9_putBack_L2]
    refine s_iload_n hG dX9_putBack_2 1 rfl rfl ?_
    refine s_aload_n hG dX9_putBack_3 0 rfl rfl ?_
    refine s_getI hG hE dX9_putBack_4 fl_X9_13 rfl kM_1 ?_
    refine s_icmp_ge hG dX9_putBack_7 (tgt := 50) (by decide) (fun q1 => ?_) (fun q1 => ?_)
    · exact s_vret hG hT dX9_putBack_50
    · refine s_aload_n hG dX9_putBack_10 0 rfl rfl ?_
      refine s_getS hG hE dX9_putBack_11 fl_X9_29 rfl kM_1 fM_9_6 (nzM kM_6) ?_
      refine s_bipush hG dX9_putBack_14 bc_10 ?_
      refine s_iload_n hG dX9_putBack_16 1 rfl rfl ?_
      refine s_imul hG dX9_putBack_17 ?_
      refine s_iconst hG dX9_putBack_18 ic_3 ?_
      refine s_iadd hG dX9_putBack_19 ?_
      refine s_aload_n hG dX9_putBack_20 0 rfl rfl ?_
      refine s_getS hG hE dX9_putBack_21 fl_X9_100 rfl kM_1 fM_9_29 (nzM kM_21) ?_
      refine s_iload_n hG dX9_putBack_24 1 rfl rfl ?_
      refine s_ck (fun q2 => ?_)
      refine s_iald hG hE dX9_putBack_25 kM_21 q2 ?_
      refine s_ck (fun q3 => ?_)
      refine s_iast hG hE dX9_putBack_26 kM_6 q3 (fun h4 => ?_)
      refine s_aload_n hG dX9_putBack_27 0 rfl rfl ?_
      refine s_getS hG hE dX9_putBack_28 fl_X9_29 rfl kM_1 fM_9_6 (nzM kM_6) ?_
      refine s_bipush hG dX9_putBack_31 bc_10 ?_
      refine s_iload_n hG dX9_putBack_33 1 rfl rfl ?_
      refine s_imul hG dX9_putBack_34 ?_
      refine s_iconst hG dX9_putBack_35 ic_4 ?_
      refine s_iadd hG dX9_putBack_36 ?_
      refine s_aload_n hG dX9_putBack_37 0 rfl rfl ?_
      refine s_getS hG hE dX9_putBack_38 fl_X9_103 rfl kM_1 fM_9_30 (nzM kM_22) ?_
      refine s_iload_n hG dX9_putBack_41 1 rfl rfl ?_
      refine s_iald hG hE dX9_putBack_42 kM_22 q2 ?_
      refine s_ck (fun q5 => ?_)
      refine s_iast hG hE dX9_putBack_43 kM_6 q5 (fun h6 => ?_)
      refine s_iinc hG dX9_putBack_44 1 rfl ic_1 (by decide) (fun v7 => [(1, .int v7), (0, .ref (gB (GM w) + 1))]) (fun _ => rfl) (fun v7 => ?_)
      refine s_goto (tgt := 2) hG dX9_putBack_47 (by decide) ?_
      refine s_lv [1, 0] rfl ?_
      exact ih v7 h6

def m_X9_putBack (h : Hp) : Option (Unit × Hp) := m_X9_putBack_L2 FU 0 h
set_option maxRecDepth 20000 in
set_option maxHeartbeats 4000000 in
theorem s_X9_putBack (w : WT) {x : CT} {l : Launch} (hx : xl x = l) (hG : Gd x cX9_putBack 2 RX9) (hE : Ge x (GM w)) (hR : Rm x 1) (hT : Rt x none) (h : Hp) : Sn x 2 (gA (GM w)) (0, 0) (ζM x (GM w) inV) (gW (GM w) h) 0 [(0, .ref (gB (GM w) + 1))] [] (m_X9_putBack h) := by
  unfold m_X9_putBack
  refine s_iconst hG dX9_putBack_0 ic_0 ?_
  refine s_istore_n (lv' := [(1, .int 0), (0, .ref (gB (GM w) + 1))]) hG dX9_putBack_1 rfl (by decide) rfl ?_
  refine s_lv [1, 0] rfl ?_
  exact s_X9_putBack_L2 w hx hG hE hR hT FU 0 h

theorem c_X9_putBack (w : WT) (l : Launch) (h : Hp) : ∀ v h', m_X9_putBack h = some (v, h') → MetM l (GM w) yX9_putBack cX9_putBack 2 none 1 [.ref (gB (GM w) + 1)] h (inV v) h' :=
  met_of (by decide) (lokM w) (Nat.le_of_ble_eq_true rfl) (fun x hx hG hE hR hT => s_X9_putBack w hx hG hE hR hT h)
def m_X9_answerSo_L93 (t0 : Int32) (t1 : Int32) (t2 : Nat) (h : Hp) : Option (Unit × Hp) := ck (inb t1 240) (hb (si h t2 t1.toNatClampNeg t0) fun h2 => some ((), h2))
set_option maxRecDepth 20000 in
set_option maxHeartbeats 4000000 in
theorem s_X9_answerSo_L93 (w : WT) {x : CT} {l : Launch} (hx : xl x = l) (hG : Gd x cX9_answerSo 5 RX9) (hE : Ge x (GM w)) (hR : Rm x 2) (hT : Rt x none) (t0 : Int32) (t1 : Int32) (t2 : Nat) (q2 : LM t2 = (20, 240)) (h : Hp) : Sn x 5 (gA (GM w)) (0, 0) (ζM x (GM w) inV) (gW (GM w) h) 93 [] [.int t0, .int t1, .ref (gB (GM w) + t2)] (m_X9_answerSo_L93 t0 t1 t2 h) := by
  unfold m_X9_answerSo_L93
  refine s_ck (fun q1 => ?_)
  refine s_iast hG hE dX9_answerSo_93 q2 q1 (fun h2 => ?_)
  exact s_vret hG hT dX9_answerSo_94

def m_X9_answerSo_L72 (a1 : Int32) (a2 : Int32) (t0 : Int32) (t1 : Int32) (t2 : Nat) (h : Hp) : Option (Unit × Hp) := ck (inb t1 240) (hb (si h t2 t1.toNatClampNeg t0) fun h2 => if a2 = 4 then m_X9_answerSo_L93 0 ((10 * a1) + 4) 6 h2 else m_X9_answerSo_L93 1 ((10 * a1) + 4) 6 h2)
set_option maxRecDepth 20000 in
set_option maxHeartbeats 4000000 in
theorem s_X9_answerSo_L72 (w : WT) {x : CT} {l : Launch} (hx : xl x = l) (hG : Gd x cX9_answerSo 5 RX9) (hE : Ge x (GM w)) (hR : Rm x 2) (hT : Rt x none) (a1 : Int32) (a2 : Int32) (t0 : Int32) (t1 : Int32) (t2 : Nat) (q2 : LM t2 = (20, 240)) (h : Hp) : Sn x 5 (gA (GM w)) (0, 0) (ζM x (GM w) inV) (gW (GM w) h) 72 [(0, .ref (gB (GM w) + 1)), (1, .int a1), (2, .int a2)] [.int t0, .int t1, .ref (gB (GM w) + t2)] (m_X9_answerSo_L72 a1 a2 t0 t1 t2 h) := by
  unfold m_X9_answerSo_L72
  refine s_ck (fun q1 => ?_)
  refine s_iast hG hE dX9_answerSo_72 q2 q1 (fun h2 => ?_)
  refine s_aload_n hG dX9_answerSo_73 0 rfl rfl ?_
  refine s_getS hG hE dX9_answerSo_74 fl_X9_29 rfl kM_1 fM_9_6 (nzM kM_6) ?_
  refine s_bipush hG dX9_answerSo_77 bc_10 ?_
  refine s_iload_n hG dX9_answerSo_79 1 rfl rfl ?_
  refine s_imul hG dX9_answerSo_80 ?_
  refine s_iconst hG dX9_answerSo_81 ic_4 ?_
  refine s_iadd hG dX9_answerSo_82 ?_
  refine s_iload_n hG dX9_answerSo_83 2 rfl rfl ?_
  refine s_iconst hG dX9_answerSo_84 ic_4 ?_
  refine s_icmp_ne hG dX9_answerSo_85 (tgt := 92) (by decide) (fun q3 => ?_) (fun q3 => ?_)
  · refine s_iconst hG dX9_answerSo_88 ic_0 ?_
    refine s_goto (tgt := 93) hG dX9_answerSo_89 (by decide) ?_
    refine s_lv [] rfl ?_
    exact s_X9_answerSo_L93 w hx hG hE hR hT 0 ((10 * a1) + 4) 6 kM_6 h2
  · refine s_iconst hG dX9_answerSo_92 ic_1 ?_
    refine s_lv [] rfl ?_
    exact s_X9_answerSo_L93 w hx hG hE hR hT 1 ((10 * a1) + 4) 6 kM_6 h2

def m_X9_answerSo_L29 (a1 : Int32) (a2 : Int32) (a3 : Int32) (t0 : Int32) (h : Hp) : Option (Unit × Hp) := if a2 = 1 then m_X9_answerSo_L72 a1 a2 a3 ((10 * a1) + 3) 6 h else if a2 = 2 then m_X9_answerSo_L72 a1 a2 t0 ((10 * a1) + 3) 6 h else if a2 = 3 then m_X9_answerSo_L72 a1 a2 (a3 / 2) ((10 * a1) + 3) 6 h else m_X9_answerSo_L72 a1 a2 0 ((10 * a1) + 3) 6 h
set_option maxRecDepth 20000 in
set_option maxHeartbeats 4000000 in
theorem s_X9_answerSo_L29 (w : WT) {x : CT} {l : Launch} (hx : xl x = l) (hG : Gd x cX9_answerSo 5 RX9) (hE : Ge x (GM w)) (hR : Rm x 2) (hT : Rt x none) (a1 : Int32) (a2 : Int32) (a3 : Int32) (t0 : Int32) (h : Hp) : Sn x 5 (gA (GM w)) (0, 0) (ζM x (GM w) inV) (gW (GM w) h) 29 [(0, .ref (gB (GM w) + 1)), (1, .int a1), (2, .int a2), (3, .int a3)] [.int t0] (m_X9_answerSo_L29 a1 a2 a3 t0 h) := by
  unfold m_X9_answerSo_L29
  refine s_istore (lv' := [(4, .int t0), (0, .ref (gB (GM w) + 1)), (1, .int a1), (2, .int a2), (3, .int a3)]) hG dX9_answerSo_29 (by decide) rfl ?_
  refine s_aload_n hG dX9_answerSo_31 1 rfl rfl ?_
  refine s_getS hG hE dX9_answerSo_32 fl_X9_29 rfl kM_1 fM_9_6 (nzM kM_6) ?_
  refine s_bipush hG dX9_answerSo_35 bc_10 ?_
  refine s_iload_n hG dX9_answerSo_37 2 rfl rfl ?_
  refine s_imul hG dX9_answerSo_38 ?_
  refine s_iconst hG dX9_answerSo_39 ic_3 ?_
  refine s_iadd hG dX9_answerSo_40 ?_
  refine s_iload_n hG dX9_answerSo_41 3 rfl rfl ?_
  refine s_iconst hG dX9_answerSo_42 ic_1 ?_
  refine s_icmp_ne hG dX9_answerSo_43 (tgt := 50) (by decide) (fun q1 => ?_) (fun q1 => ?_)
  · refine s_iload_n hG dX9_answerSo_46 4 rfl rfl ?_
    refine s_goto (tgt := 72) hG dX9_answerSo_47 (by decide) ?_
    refine s_lv [1, 2, 3] rfl ?_
    exact s_X9_answerSo_L72 w hx hG hE hR hT a1 a2 a3 ((10 * a1) + 3) 6 kM_6 h
  · refine s_iload_n hG dX9_answerSo_50 3 rfl rfl ?_
    refine s_iconst hG dX9_answerSo_51 ic_2 ?_
    refine s_icmp_ne hG dX9_answerSo_52 (tgt := 60) (by decide) (fun q2 => ?_) (fun q2 => ?_)
    · refine s_iload hG dX9_answerSo_55 0 rfl ?_
      refine s_goto (tgt := 72) hG dX9_answerSo_57 (by decide) ?_
      refine s_lv [1, 2, 3] rfl ?_
      exact s_X9_answerSo_L72 w hx hG hE hR hT a1 a2 t0 ((10 * a1) + 3) 6 kM_6 h
    · refine s_iload_n hG dX9_answerSo_60 3 rfl rfl ?_
      refine s_iconst hG dX9_answerSo_61 ic_3 ?_
      refine s_icmp_ne hG dX9_answerSo_62 (tgt := 71) (by decide) (fun q3 => ?_) (fun q3 => ?_)
      · refine s_iload_n hG dX9_answerSo_65 4 rfl rfl ?_
        refine s_iconst hG dX9_answerSo_66 ic_2 ?_
        refine s_idiv hG dX9_answerSo_67 (by decide) ?_
        refine s_goto (tgt := 72) hG dX9_answerSo_68 (by decide) ?_
        refine s_lv [1, 2, 3] rfl ?_
        exact s_X9_answerSo_L72 w hx hG hE hR hT a1 a2 (a3 / 2) ((10 * a1) + 3) 6 kM_6 h
      · refine s_iconst hG dX9_answerSo_71 ic_0 ?_
        refine s_lv [1, 2, 3] rfl ?_
        exact s_X9_answerSo_L72 w hx hG hE hR hT a1 a2 0 ((10 * a1) + 3) 6 kM_6 h

def m_X9_answerSo (a1 : Int32) (a2 : Int32) (h : Hp) : Option (Unit × Hp) := cb (m_X9_get a1 1 h) fun v1 h2 => cb (m_X9_get a1 9 h2) fun v3 h4 => if v1 ≤ v3 then m_X9_answerSo_L29 a1 a2 v1 v1 h4 else cb (m_X9_get a1 9 h4) fun v6 h7 => m_X9_answerSo_L29 a1 a2 v1 v6 h7
set_option maxRecDepth 20000 in
set_option maxHeartbeats 4000000 in
theorem s_X9_answerSo (w : WT) {x : CT} {l : Launch} (hx : xl x = l) (hG : Gd x cX9_answerSo 5 RX9) (hE : Ge x (GM w)) (hR : Rm x 2) (hT : Rt x none) (a1 : Int32) (a2 : Int32) (h : Hp) : Sn x 5 (gA (GM w)) (0, 0) (ζM x (GM w) inV) (gW (GM w) h) 0 [(0, .ref (gB (GM w) + 1)), (1, .int a1), (2, .int a2)] [] (m_X9_answerSo a1 a2 h) := by
  unfold m_X9_answerSo
  refine s_aload_n hG dX9_answerSo_0 0 rfl rfl ?_
  refine s_iload_n hG dX9_answerSo_1 1 rfl rfl ?_
  refine s_iconst hG dX9_answerSo_2 ic_1 ?_
  refine s_callV (a := 1) (c := 9) (inj := inI) (As := [.int a1, .int 1]) (st := []) rfl hG hE dX9_answerSo_3 hR (by decide) vv_X9_148 (by decide) rfl kM_1 rfl (Nat.le_of_ble_eq_true rfl) rfl (fun zv zh zq => c_X9_get w (xl x) a1 1 h zv zh zq) (fun v1 h2 => ?_)
  refine s_istore_n (lv' := [(3, .int v1), (0, .ref (gB (GM w) + 1)), (1, .int a1), (2, .int a2)]) hG dX9_answerSo_6 rfl (by decide) rfl ?_
  refine s_aload_n hG dX9_answerSo_7 1 rfl rfl ?_
  refine s_iload_n hG dX9_answerSo_8 2 rfl rfl ?_
  refine s_bipush hG dX9_answerSo_9 bc_9 ?_
  refine s_callV (a := 1) (c := 9) (inj := inI) (As := [.int a1, .int 9]) (st := []) rfl hG hE dX9_answerSo_11 hR (by decide) vv_X9_148 (by decide) rfl kM_1 rfl (Nat.le_of_ble_eq_true rfl) rfl (fun zv zh zq => c_X9_get w (xl x) a1 9 h2 zv zh zq) (fun v3 h4 => ?_)
  refine s_iload_n hG dX9_answerSo_14 0 rfl rfl ?_
  refine s_icmp_ge hG dX9_answerSo_15 (tgt := 28) (by decide) (fun q5 => ?_) (fun q5 => ?_)
  · refine s_iload_n hG dX9_answerSo_28 0 rfl rfl ?_
    refine s_lv [1, 2, 3, 0] rfl ?_
    exact s_X9_answerSo_L29 w hx hG hE hR hT a1 a2 v1 v1 h4
  · refine s_aload_n hG dX9_answerSo_18 1 rfl rfl ?_
    refine s_iload_n hG dX9_answerSo_19 2 rfl rfl ?_
    refine s_bipush hG dX9_answerSo_20 bc_9 ?_
    refine s_callV (a := 1) (c := 9) (inj := inI) (As := [.int a1, .int 9]) (st := []) rfl hG hE dX9_answerSo_22 hR (by decide) vv_X9_148 (by decide) rfl kM_1 rfl (Nat.le_of_ble_eq_true rfl) rfl (fun zv zh zq => c_X9_get w (xl x) a1 9 h4 zv zh zq) (fun v6 h7 => ?_)
    refine s_goto (tgt := 29) hG dX9_answerSo_25 (by decide) ?_
    refine s_lv [1, 2, 3, 0] rfl ?_
    exact s_X9_answerSo_L29 w hx hG hE hR hT a1 a2 v1 v6 h7

theorem c_X9_answerSo (w : WT) (l : Launch) (a1 : Int32) (a2 : Int32) (h : Hp) : ∀ v h', m_X9_answerSo a1 a2 h = some (v, h') → MetM l (GM w) yX9_answerSo cX9_answerSo 5 none 2 [.ref (gB (GM w) + 1), .int a1, .int a2] h (inV v) h' :=
  met_of (by decide) (lokM w) (Nat.le_of_ble_eq_true rfl) (fun x hx hG hE hR hT => s_X9_answerSo w hx hG hE hR hT a1 a2 h)
theorem vv_X9_291 : VV RX9 291 yX9_at cX9_at 5 (some .int) 2 := ⟨⟨gw_at 1451 (by decide +kernel) (by decide +kernel), gw_at 1454 (by decide +kernel) (by decide +kernel), gw_at 96 (by decide +kernel) (by decide +kernel), by decide +kernel, by decide⟩, gw_at 1453 (by decide +kernel) (by decide +kernel), gw_at 71 (by decide +kernel) (by decide +kernel)⟩
theorem vv_X9_294 : VV RX9 294 yX9_answerSo cX9_answerSo 5 none 2 := ⟨⟨gw_at 1455 (by decide +kernel) (by decide +kernel), gw_at 1458 (by decide +kernel) (by decide +kernel), gw_at 96 (by decide +kernel) (by decide +kernel), by decide +kernel, by decide⟩, gw_at 1457 (by decide +kernel) (by decide +kernel), gw_at 72 (by decide +kernel) (by decide +kernel)⟩
def m_X9_layOut_L11 : Nat → Int32 → Int32 → Int32 → Hp → Option (Unit × Hp)
  | 0, _, _, _, _ => none
  | n + 1, a1, a3, a4, h => if a4 < 0 then some ((), h) else cb (m_X9_at a1 a4 h) fun v2 h3 => cb (m_X9_answerSo v2 (a3 - a3 / 5 * 5) h3) fun _ h5 => vb (a3 / 5) fun v6 => vb (a4 + (-1)) fun v7 => m_X9_layOut_L11 n a1 v6 v7 h5
set_option maxRecDepth 20000 in
set_option maxHeartbeats 4000000 in
theorem s_X9_layOut_L11 (w : WT) {x : CT} {l : Launch} (hx : xl x = l) (hG : Gd x cX9_layOut 5 RX9) (hE : Ge x (GM w)) (hR : Rm x 3) (hT : Rt x none) : ∀ (n : Nat) (a1 : Int32) (a3 : Int32) (a4 : Int32) (h : Hp), Sn x 5 (gA (GM w)) (0, 0) (ζM x (GM w) inV) (gW (GM w) h) 11 [(0, .ref (gB (GM w) + 1)), (1, .int a1), (3, .int a3), (4, .int a4)] [] (m_X9_layOut_L11 n a1 a3 a4 h) := by
  intro n
  induction n with
  | zero => intro a1 a3 a4 h; exact s_none
  | succ n ih =>
    intro a1 a3 a4 h
    rw [m_X9_layOut_L11]
    refine s_iload hG dX9_layOut_11 3 rfl ?_
    refine s_if_lt hG dX9_layOut_13 (tgt := 40) (by decide) (fun q1 => ?_) (fun q1 => ?_)
    · exact s_vret hG hT dX9_layOut_40
    · refine s_aload_n hG dX9_layOut_16 0 rfl rfl ?_
      refine s_aload_n hG dX9_layOut_17 0 rfl rfl ?_
      refine s_iload_n hG dX9_layOut_18 1 rfl rfl ?_
      refine s_iload hG dX9_layOut_19 3 rfl ?_
      refine s_callV (a := 1) (c := 9) (inj := inI) (As := [.int a1, .int a4]) (st := [.ref (gB (GM w) + 1)]) rfl hG hE dX9_layOut_21 hR (by decide) vv_X9_291 (by decide) rfl kM_1 rfl (Nat.le_of_ble_eq_true rfl) rfl (fun zv zh zq => c_X9_at w (xl x) a1 a4 h zv zh zq) (fun v2 h3 => ?_)
      refine s_iload_n hG dX9_layOut_24 2 rfl rfl ?_
      refine s_iconst hG dX9_layOut_25 ic_5 ?_
      refine s_irem hG dX9_layOut_26 (by decide) ?_
      refine s_callV (a := 1) (c := 9) (inj := inV) (As := [.int v2, .int (a3 - a3 / 5 * 5)]) (st := []) rfl hG hE dX9_layOut_27 hR (by decide) vv_X9_294 (by decide) rfl kM_1 rfl (Nat.le_of_ble_eq_true rfl) rfl (fun zv zh zq => c_X9_answerSo w (xl x) v2 (a3 - a3 / 5 * 5) h3 zv zh zq) (fun v4 h5 => ?_)
      refine s_iload_n hG dX9_layOut_30 2 rfl rfl ?_
      refine s_iconst hG dX9_layOut_31 ic_5 ?_
      refine s_idiv hG dX9_layOut_32 (by decide) ?_
      refine s_vI (fun v6 => ?_)
      refine s_istore_n (lv' := [(3, .int v6), (0, .ref (gB (GM w) + 1)), (1, .int a1), (4, .int a4)]) hG dX9_layOut_33 rfl (by decide) rfl ?_
      refine s_iinc hG dX9_layOut_34 3 rfl ic_m1 (by decide) (fun v7 => [(4, .int v7), (3, .int v6), (0, .ref (gB (GM w) + 1)), (1, .int a1)]) (fun _ => rfl) (fun v7 => ?_)
      refine s_goto (tgt := 11) hG dX9_layOut_37 (by decide) ?_
      refine s_lv [2, 3, 1, 0] rfl ?_
      exact ih a1 v6 v7 h5

def m_X9_layOut (a1 : Int32) (a2 : Int32) (h : Hp) : Option (Unit × Hp) := cb (m_X9_manyOf a1 h) fun v1 h2 => vb (v1 - 1) fun v3 => m_X9_layOut_L11 FU a1 a2 v3 h2
set_option maxRecDepth 20000 in
set_option maxHeartbeats 4000000 in
theorem s_X9_layOut (w : WT) {x : CT} {l : Launch} (hx : xl x = l) (hG : Gd x cX9_layOut 5 RX9) (hE : Ge x (GM w)) (hR : Rm x 3) (hT : Rt x none) (a1 : Int32) (a2 : Int32) (h : Hp) : Sn x 5 (gA (GM w)) (0, 0) (ζM x (GM w) inV) (gW (GM w) h) 0 [(0, .ref (gB (GM w) + 1)), (1, .int a1), (2, .int a2)] [] (m_X9_layOut a1 a2 h) := by
  unfold m_X9_layOut
  refine s_iload_n hG dX9_layOut_0 2 rfl rfl ?_
  refine s_istore_n (lv' := [(3, .int a2), (0, .ref (gB (GM w) + 1)), (1, .int a1), (2, .int a2)]) hG dX9_layOut_1 rfl (by decide) rfl ?_
  refine s_aload_n hG dX9_layOut_2 1 rfl rfl ?_
  refine s_iload_n hG dX9_layOut_3 2 rfl rfl ?_
  refine s_callV (a := 1) (c := 9) (inj := inI) (As := [.int a1]) (st := []) rfl hG hE dX9_layOut_4 hR (by decide) vv_X9_159 (by decide) rfl kM_1 rfl (Nat.le_of_ble_eq_true rfl) rfl (fun zv zh zq => c_X9_manyOf w (xl x) a1 h zv zh zq) (fun v1 h2 => ?_)
  refine s_iconst hG dX9_layOut_7 ic_1 ?_
  refine s_isub hG dX9_layOut_8 ?_
  refine s_vI (fun v3 => ?_)
  refine s_istore (lv' := [(4, .int v3), (3, .int a2), (0, .ref (gB (GM w) + 1)), (1, .int a1), (2, .int a2)]) hG dX9_layOut_9 (by decide) rfl ?_
  refine s_lv [2, 3, 1, 0] rfl ?_
  exact s_X9_layOut_L11 w hx hG hE hR hT FU a1 a2 v3 h2

theorem c_X9_layOut (w : WT) (l : Launch) (a1 : Int32) (a2 : Int32) (h : Hp) : ∀ v h', m_X9_layOut a1 a2 h = some (v, h') → MetM l (GM w) yX9_layOut cX9_layOut 5 none 3 [.ref (gB (GM w) + 1), .int a1, .int a2] h (inV v) h' :=
  met_of (by decide) (lokM w) (Nat.le_of_ble_eq_true rfl) (fun x hx hG hE hR hT => s_X9_layOut w hx hG hE hR hT a1 a2 h)
def m_X9_oathsOf_L85 (k12 : Int32 → Int32 → Int32 → Int32 → Hp → Option (Int32 × Hp)) (a1 : Int32) (a2 : Int32) (a4 : Int32) (t0 : Int32) (h : Hp) : Option (Int32 × Hp) := vb (t0 + 0) fun v1 => vb (a4 + 1) fun v2 => k12 a1 a2 v1 v2 h
set_option maxRecDepth 20000 in
set_option maxHeartbeats 4000000 in
theorem s_X9_oathsOf_L85 (w : WT) {x : CT} {l : Launch} (hx : xl x = l) (hG : Gd x cX9_oathsOf 6 RX9) (hE : Ge x (GM w)) (hR : Rm x 10) (hT : Rt x (some .int)) (k12 : Int32 → Int32 → Int32 → Int32 → Hp → Option (Int32 × Hp)) (hk12 : ∀ (a1 : Int32) (a2 : Int32) (a3 : Int32) (a4 : Int32) (h : Hp), Sn x 6 (gA (GM w)) (0, 0) (ζM x (GM w) inI) (gW (GM w) h) 12 [(0, .ref (gB (GM w) + 1)), (1, .int a1), (2, .int a2), (3, .int a3), (4, .int a4)] [] (k12 a1 a2 a3 a4 h)) (a1 : Int32) (a2 : Int32) (a4 : Int32) (t0 : Int32) (h : Hp) : Sn x 6 (gA (GM w)) (0, 0) (ζM x (GM w) inI) (gW (GM w) h) 85 [(0, .ref (gB (GM w) + 1)), (1, .int a1), (2, .int a2), (4, .int a4)] [.int t0] (m_X9_oathsOf_L85 k12 a1 a2 a4 t0 h) := by
  unfold m_X9_oathsOf_L85
  refine s_iconst hG dX9_oathsOf_85 ic_0 ?_
  refine s_iadd hG dX9_oathsOf_86 ?_
  refine s_vI (fun v1 => ?_)
  refine s_istore_n (lv' := [(3, .int v1), (0, .ref (gB (GM w) + 1)), (1, .int a1), (2, .int a2), (4, .int a4)]) hG dX9_oathsOf_87 rfl (by decide) rfl ?_
  refine s_iinc hG dX9_oathsOf_88 4 rfl ic_1 (by decide) (fun v2 => [(4, .int v2), (3, .int v1), (0, .ref (gB (GM w) + 1)), (1, .int a1), (2, .int a2)]) (fun _ => rfl) (fun v2 => ?_)
  refine s_goto (tgt := 12) hG dX9_oathsOf_91 (by decide) ?_
  refine s_lv [2, 3, 4, 1, 0] rfl ?_
  exact hk12 a1 a2 v1 v2 h

def m_X9_oathsOf_L57 (k12 : Int32 → Int32 → Int32 → Int32 → Hp → Option (Int32 × Hp)) (a1 : Int32) (a2 : Int32) (a4 : Int32) (a5 : Int32) (t0 : Int32) (h : Hp) : Option (Int32 × Hp) := cb (m_X9_oathBy a2 a4 a5 h) fun v1 h2 => ck (inb v1 48) (cb (m_X9_whoOf a2 a4 (gi h2 10 v1.toNatClampNeg) h2) fun v4 h5 => if v4 = 0 then vb (t0 + 1) fun v7 => vb (a4 + 1) fun v8 => k12 a1 a2 v7 v8 h5 else m_X9_oathsOf_L85 k12 a1 a2 a4 t0 h5)
set_option maxRecDepth 20000 in
set_option maxHeartbeats 4000000 in
theorem s_X9_oathsOf_L57 (w : WT) {x : CT} {l : Launch} (hx : xl x = l) (hG : Gd x cX9_oathsOf 6 RX9) (hE : Ge x (GM w)) (hR : Rm x 10) (hT : Rt x (some .int)) (k12 : Int32 → Int32 → Int32 → Int32 → Hp → Option (Int32 × Hp)) (hk12 : ∀ (a1 : Int32) (a2 : Int32) (a3 : Int32) (a4 : Int32) (h : Hp), Sn x 6 (gA (GM w)) (0, 0) (ζM x (GM w) inI) (gW (GM w) h) 12 [(0, .ref (gB (GM w) + 1)), (1, .int a1), (2, .int a2), (3, .int a3), (4, .int a4)] [] (k12 a1 a2 a3 a4 h)) (a1 : Int32) (a2 : Int32) (a4 : Int32) (a5 : Int32) (t0 : Int32) (h : Hp) : Sn x 6 (gA (GM w)) (0, 0) (ζM x (GM w) inI) (gW (GM w) h) 57 [(0, .ref (gB (GM w) + 1)), (1, .int a1), (2, .int a2), (4, .int a4), (5, .int a5)] [.int t0] (m_X9_oathsOf_L57 k12 a1 a2 a4 a5 t0 h) := by
  unfold m_X9_oathsOf_L57
  refine s_aload_n hG dX9_oathsOf_57 0 rfl rfl ?_
  refine s_iload_n hG dX9_oathsOf_58 2 rfl rfl ?_
  refine s_iload hG dX9_oathsOf_59 3 rfl ?_
  refine s_aload_n hG dX9_oathsOf_61 0 rfl rfl ?_
  refine s_getS hG hE dX9_oathsOf_62 fl_X9_50 rfl kM_1 fM_9_13 (nzM kM_10) ?_
  refine s_aload_n hG dX9_oathsOf_65 0 rfl rfl ?_
  refine s_iload_n hG dX9_oathsOf_66 2 rfl rfl ?_
  refine s_iload hG dX9_oathsOf_67 3 rfl ?_
  refine s_iload hG dX9_oathsOf_69 4 rfl ?_
  refine s_callV (a := 1) (c := 9) (inj := inI) (As := [.int a2, .int a4, .int a5]) (st := [.ref (gB (GM w) + 10), .int a4, .int a2, .ref (gB (GM w) + 1), .int t0]) rfl hG hE dX9_oathsOf_71 hR (by decide) vv_X9_266 (by decide) rfl kM_1 rfl (Nat.le_of_ble_eq_true rfl) rfl (fun zv zh zq => c_X9_oathBy w (xl x) a2 a4 a5 h zv zh zq) (fun v1 h2 => ?_)
  refine s_ck (fun q3 => ?_)
  refine s_iald hG hE dX9_oathsOf_74 kM_10 q3 ?_
  refine s_callV (a := 1) (c := 9) (inj := inI) (As := [.int a2, .int a4, .int (gi h2 10 v1.toNatClampNeg)]) (st := [.int t0]) rfl hG hE dX9_oathsOf_75 hR (by decide) vv_X9_254 (by decide) rfl kM_1 rfl (Nat.le_of_ble_eq_true rfl) rfl (fun zv zh zq => c_X9_whoOf w (xl x) a2 a4 (gi h2 10 v1.toNatClampNeg) h2 zv zh zq) (fun v4 h5 => ?_)
  refine s_if_ne hG dX9_oathsOf_78 (tgt := 85) (by decide) (fun q6 => ?_) (fun q6 => ?_)
  · refine s_iconst hG dX9_oathsOf_81 ic_1 ?_
    refine s_goto (tgt := 86) hG dX9_oathsOf_82 (by decide) ?_
    refine s_iadd hG dX9_oathsOf_86 ?_
    refine s_vI (fun v7 => ?_)
    refine s_istore_n (lv' := [(3, .int v7), (0, .ref (gB (GM w) + 1)), (1, .int a1), (2, .int a2), (4, .int a4), (5, .int a5)]) hG dX9_oathsOf_87 rfl (by decide) rfl ?_
    refine s_iinc hG dX9_oathsOf_88 4 rfl ic_1 (by decide) (fun v8 => [(4, .int v8), (3, .int v7), (0, .ref (gB (GM w) + 1)), (1, .int a1), (2, .int a2), (5, .int a5)]) (fun _ => rfl) (fun v8 => ?_)
    refine s_goto (tgt := 12) hG dX9_oathsOf_91 (by decide) ?_
    refine s_lv [2, 3, 4, 1, 0] rfl ?_
    exact hk12 a1 a2 v7 v8 h5
  · refine s_lv [0, 1, 2, 3] rfl ?_
    exact s_X9_oathsOf_L85 w hx hG hE hR hT k12 hk12 a1 a2 a4 t0 h5

def m_X9_oathsOf_L12 : Nat → Int32 → Int32 → Int32 → Int32 → Hp → Option (Int32 × Hp)
  | 0, _, _, _, _, _ => none
  | n + 1, a1, a2, a3, a4, h => if (gi h 1 1) ≤ a4 then some (a3, h) else cb (m_X9_get a4 0 h) fun v2 h3 => if v2 = a1 then cb (m_X9_comesTo a2 a4 h3) fun v5 h6 => if v5 = 3 then m_X9_oathsOf_L57 (m_X9_oathsOf_L12 n) a1 a2 a4 v5 a3 h6 else if v5 = 4 then m_X9_oathsOf_L57 (m_X9_oathsOf_L12 n) a1 a2 a4 v5 a3 h6 else m_X9_oathsOf_L85 (m_X9_oathsOf_L12 n) a1 a2 a4 a3 h6 else vb (a4 + 1) fun v9 => m_X9_oathsOf_L12 n a1 a2 a3 v9 h3
set_option maxRecDepth 20000 in
set_option maxHeartbeats 4000000 in
theorem s_X9_oathsOf_L12 (w : WT) {x : CT} {l : Launch} (hx : xl x = l) (hG : Gd x cX9_oathsOf 6 RX9) (hE : Ge x (GM w)) (hR : Rm x 10) (hT : Rt x (some .int)) : ∀ (n : Nat) (a1 : Int32) (a2 : Int32) (a3 : Int32) (a4 : Int32) (h : Hp), Sn x 6 (gA (GM w)) (0, 0) (ζM x (GM w) inI) (gW (GM w) h) 12 [(0, .ref (gB (GM w) + 1)), (1, .int a1), (2, .int a2), (3, .int a3), (4, .int a4)] [] (m_X9_oathsOf_L12 n a1 a2 a3 a4 h) := by
  intro n
  induction n with
  | zero => intro a1 a2 a3 a4 h; exact s_none
  | succ n ih =>
    intro a1 a2 a3 a4 h
    rw [m_X9_oathsOf_L12]
    refine s_iload hG dX9_oathsOf_12 4 rfl ?_
    refine s_aload_n hG dX9_oathsOf_14 0 rfl rfl ?_
    refine s_getI hG hE dX9_oathsOf_15 fl_X9_13 rfl kM_1 ?_
    refine s_icmp_ge hG dX9_oathsOf_18 (tgt := 94) (by decide) (fun q1 => ?_) (fun q1 => ?_)
    · refine s_iload_n hG dX9_oathsOf_94 3 rfl rfl ?_
      exact s_iret hG hT dX9_oathsOf_95
    · refine s_aload_n hG dX9_oathsOf_21 0 rfl rfl ?_
      refine s_iload hG dX9_oathsOf_22 4 rfl ?_
      refine s_iconst hG dX9_oathsOf_24 ic_0 ?_
      refine s_callV (a := 1) (c := 9) (inj := inI) (As := [.int a4, .int 0]) (st := []) rfl hG hE dX9_oathsOf_25 hR (by decide) vv_X9_148 (by decide) rfl kM_1 rfl (Nat.le_of_ble_eq_true rfl) rfl (fun zv zh zq => c_X9_get w (xl x) a4 0 h zv zh zq) (fun v2 h3 => ?_)
      refine s_iload_n hG dX9_oathsOf_28 1 rfl rfl ?_
      refine s_icmp_eq hG dX9_oathsOf_29 (tgt := 35) (by decide) (fun q4 => ?_) (fun q4 => ?_)
      · refine s_aload_n hG dX9_oathsOf_35 0 rfl rfl ?_
        refine s_iload_n hG dX9_oathsOf_36 2 rfl rfl ?_
        refine s_iload hG dX9_oathsOf_37 4 rfl ?_
        refine s_callV (a := 1) (c := 9) (inj := inI) (As := [.int a2, .int a4]) (st := []) rfl hG hE dX9_oathsOf_39 hR (by decide) vv_X9_263 (by decide) rfl kM_1 rfl (Nat.le_of_ble_eq_true rfl) rfl (fun zv zh zq => c_X9_comesTo w (xl x) a2 a4 h3 zv zh zq) (fun v5 h6 => ?_)
        refine s_istore (lv' := [(5, .int v5), (0, .ref (gB (GM w) + 1)), (1, .int a1), (2, .int a2), (3, .int a3), (4, .int a4)]) hG dX9_oathsOf_42 (by decide) rfl ?_
        refine s_iload_n hG dX9_oathsOf_44 4 rfl rfl ?_
        refine s_iload hG dX9_oathsOf_45 0 rfl ?_
        refine s_iconst hG dX9_oathsOf_47 ic_3 ?_
        refine s_icmp_eq hG dX9_oathsOf_48 (tgt := 57) (by decide) (fun q7 => ?_) (fun q7 => ?_)
        · refine s_lv [1, 2, 3, 5, 0] rfl ?_
          exact s_X9_oathsOf_L57 w hx hG hE hR hT (m_X9_oathsOf_L12 n) ih a1 a2 a4 v5 a3 h6
        · refine s_iload hG dX9_oathsOf_51 0 rfl ?_
          refine s_iconst hG dX9_oathsOf_53 ic_4 ?_
          refine s_icmp_ne hG dX9_oathsOf_54 (tgt := 85) (by decide) (fun q8 => ?_) (fun q8 => ?_)
          · refine s_lv [1, 2, 3, 5, 0] rfl ?_
            exact s_X9_oathsOf_L57 w hx hG hE hR hT (m_X9_oathsOf_L12 n) ih a1 a2 a4 v5 a3 h6
          · refine s_lv [1, 2, 3, 5] rfl ?_
            exact s_X9_oathsOf_L85 w hx hG hE hR hT (m_X9_oathsOf_L12 n) ih a1 a2 a4 a3 h6
      · refine s_goto (tgt := 88) hG dX9_oathsOf_32 (by decide) ?_
        refine s_iinc hG dX9_oathsOf_88 4 rfl ic_1 (by decide) (fun v9 => [(4, .int v9), (0, .ref (gB (GM w) + 1)), (1, .int a1), (2, .int a2), (3, .int a3)]) (fun _ => rfl) (fun v9 => ?_)
        refine s_goto (tgt := 12) hG dX9_oathsOf_91 (by decide) ?_
        refine s_lv [1, 2, 3, 4, 0] rfl ?_
        exact ih a1 a2 a3 v9 h3

def m_X9_oathsOf (a1 : Int32) (h : Hp) : Option (Int32 × Hp) := ck (inb a1 5) (vb (gi h 5 a1.toNatClampNeg) fun v2 => m_X9_oathsOf_L12 FU a1 v2 0 0 h)
set_option maxRecDepth 20000 in
set_option maxHeartbeats 4000000 in
theorem s_X9_oathsOf (w : WT) {x : CT} {l : Launch} (hx : xl x = l) (hG : Gd x cX9_oathsOf 6 RX9) (hE : Ge x (GM w)) (hR : Rm x 10) (hT : Rt x (some .int)) (a1 : Int32) (h : Hp) : Sn x 6 (gA (GM w)) (0, 0) (ζM x (GM w) inI) (gW (GM w) h) 0 [(0, .ref (gB (GM w) + 1)), (1, .int a1)] [] (m_X9_oathsOf a1 h) := by
  unfold m_X9_oathsOf
  refine s_aload_n hG dX9_oathsOf_0 0 rfl rfl ?_
  refine s_getS hG hE dX9_oathsOf_1 fl_X9_26 rfl kM_1 fM_9_5 (nzM kM_5) ?_
  refine s_iload_n hG dX9_oathsOf_4 1 rfl rfl ?_
  refine s_ck (fun q1 => ?_)
  refine s_iald hG hE dX9_oathsOf_5 kM_5 q1 ?_
  refine s_vI (fun v2 => ?_)
  refine s_istore_n (lv' := [(2, .int v2), (0, .ref (gB (GM w) + 1)), (1, .int a1)]) hG dX9_oathsOf_6 rfl (by decide) rfl ?_
  refine s_iconst hG dX9_oathsOf_7 ic_0 ?_
  refine s_istore_n (lv' := [(3, .int 0), (2, .int v2), (0, .ref (gB (GM w) + 1)), (1, .int a1)]) hG dX9_oathsOf_8 rfl (by decide) rfl ?_
  refine s_iconst hG dX9_oathsOf_9 ic_0 ?_
  refine s_istore (lv' := [(4, .int 0), (3, .int 0), (2, .int v2), (0, .ref (gB (GM w) + 1)), (1, .int a1)]) hG dX9_oathsOf_10 (by decide) rfl ?_
  refine s_lv [3, 4, 2, 1, 0] rfl ?_
  exact s_X9_oathsOf_L12 w hx hG hE hR hT FU a1 v2 0 0 h

theorem c_X9_oathsOf (w : WT) (l : Launch) (a1 : Int32) (h : Hp) : ∀ v h', m_X9_oathsOf a1 h = some (v, h') → MetM l (GM w) yX9_oathsOf cX9_oathsOf 6 (some .int) 10 [.ref (gB (GM w) + 1), .int a1] h (inI v) h' :=
  met_of (by decide) (lokM w) (Nat.le_of_ble_eq_true rfl) (fun x hx hG hE hR hT => s_X9_oathsOf w hx hG hE hR hT a1 h)
def m_X9_rowsOf_L8 : Nat → Int32 → Int32 → Hp → Option (Int32 × Hp)
  | 0, _, _, _ => none
  | n + 1, a2, a3, h => if a3 ≤ 0 then some (a2, h) else vb (a2 * 5) fun v2 => vb (a3 + (-1)) fun v3 => m_X9_rowsOf_L8 n v2 v3 h
set_option maxRecDepth 20000 in
set_option maxHeartbeats 4000000 in
theorem s_X9_rowsOf_L8 (w : WT) {x : CT} {l : Launch} (hx : xl x = l) (hG : Gd x cX9_rowsOf 4 RX9) (hE : Ge x (GM w)) (hR : Rm x 3) (hT : Rt x (some .int)) : ∀ (n : Nat) (a2 : Int32) (a3 : Int32) (h : Hp), Sn x 4 (gA (GM w)) (0, 0) (ζM x (GM w) inI) (gW (GM w) h) 8 [(2, .int a2), (3, .int a3)] [] (m_X9_rowsOf_L8 n a2 a3 h) := by
  intro n
  induction n with
  | zero => intro a2 a3 h; exact s_none
  | succ n ih =>
    intro a2 a3 h
    rw [m_X9_rowsOf_L8]
    refine s_iload_n hG dX9_rowsOf_8 1 rfl rfl ?_
    refine s_if_le hG dX9_rowsOf_9 (tgt := 22) (by decide) (fun q1 => ?_) (fun q1 => ?_)
    · refine s_iload_n hG dX9_rowsOf_22 0 rfl rfl ?_
      exact s_iret hG hT dX9_rowsOf_23
    · refine s_iload_n hG dX9_rowsOf_12 0 rfl rfl ?_
      refine s_iconst hG dX9_rowsOf_13 ic_5 ?_
      refine s_imul hG dX9_rowsOf_14 ?_
      refine s_vI (fun v2 => ?_)
      refine s_istore_n (lv' := [(2, .int v2), (3, .int a3)]) hG dX9_rowsOf_15 rfl (by decide) rfl ?_
      refine s_iinc hG dX9_rowsOf_16 1 rfl ic_m1 (by decide) (fun v3 => [(3, .int v3), (2, .int v2)]) (fun _ => rfl) (fun v3 => ?_)
      refine s_goto (tgt := 8) hG dX9_rowsOf_19 (by decide) ?_
      refine s_lv [1, 0] rfl ?_
      exact ih v2 v3 h

def m_X9_rowsOf (a1 : Int32) (h : Hp) : Option (Int32 × Hp) := cb (m_X9_manyOf a1 h) fun v1 h2 => m_X9_rowsOf_L8 FU 1 v1 h2
set_option maxRecDepth 20000 in
set_option maxHeartbeats 4000000 in
theorem s_X9_rowsOf (w : WT) {x : CT} {l : Launch} (hx : xl x = l) (hG : Gd x cX9_rowsOf 4 RX9) (hE : Ge x (GM w)) (hR : Rm x 3) (hT : Rt x (some .int)) (a1 : Int32) (h : Hp) : Sn x 4 (gA (GM w)) (0, 0) (ζM x (GM w) inI) (gW (GM w) h) 0 [(0, .ref (gB (GM w) + 1)), (1, .int a1)] [] (m_X9_rowsOf a1 h) := by
  unfold m_X9_rowsOf
  refine s_iconst hG dX9_rowsOf_0 ic_1 ?_
  refine s_istore_n (lv' := [(2, .int 1), (0, .ref (gB (GM w) + 1)), (1, .int a1)]) hG dX9_rowsOf_1 rfl (by decide) rfl ?_
  refine s_aload_n hG dX9_rowsOf_2 1 rfl rfl ?_
  refine s_iload_n hG dX9_rowsOf_3 2 rfl rfl ?_
  refine s_callV (a := 1) (c := 9) (inj := inI) (As := [.int a1]) (st := []) rfl hG hE dX9_rowsOf_4 hR (by decide) vv_X9_159 (by decide) rfl kM_1 rfl (Nat.le_of_ble_eq_true rfl) rfl (fun zv zh zq => c_X9_manyOf w (xl x) a1 h zv zh zq) (fun v1 h2 => ?_)
  refine s_istore_n (lv' := [(3, .int v1), (2, .int 1), (0, .ref (gB (GM w) + 1)), (1, .int a1)]) hG dX9_rowsOf_7 rfl (by decide) rfl ?_
  refine s_lv [1, 0] rfl ?_
  exact s_X9_rowsOf_L8 w hx hG hE hR hT FU 1 v1 h2

theorem c_X9_rowsOf (w : WT) (l : Launch) (a1 : Int32) (h : Hp) : ∀ v h', m_X9_rowsOf a1 h = some (v, h') → MetM l (GM w) yX9_rowsOf cX9_rowsOf 4 (some .int) 3 [.ref (gB (GM w) + 1), .int a1] h (inI v) h' :=
  met_of (by decide) (lokM w) (Nat.le_of_ble_eq_true rfl) (fun x hx hG hE hR hT => s_X9_rowsOf w hx hG hE hR hT a1 h)
theorem fl_X9_106 : FL RX9 106 9 31 := ⟨by decide, by decide, gw_at 1098 (by decide +kernel) (by decide +kernel), rfl⟩
theorem fl_X9_112 : FL RX9 112 9 33 := ⟨by decide, by decide, gw_at 1100 (by decide +kernel) (by decide +kernel), rfl⟩
theorem fl_X9_109 : FL RX9 109 9 32 := ⟨by decide, by decide, gw_at 1099 (by decide +kernel) (by decide +kernel), rfl⟩
theorem vv_X9_307 : VV RX9 307 yX9_oathsOf cX9_oathsOf 6 (some .int) 1 := ⟨⟨gw_at 1459 (by decide +kernel) (by decide +kernel), gw_at 1462 (by decide +kernel) (by decide +kernel), gw_at 96 (by decide +kernel) (by decide +kernel), by decide +kernel, by decide⟩, gw_at 1461 (by decide +kernel) (by decide +kernel), gw_at 73 (by decide +kernel) (by decide +kernel)⟩
theorem vv_X9_301 : VV RX9 301 yX9_rowsOf cX9_rowsOf 4 (some .int) 1 := ⟨⟨gw_at 1443 (by decide +kernel) (by decide +kernel), gw_at 1446 (by decide +kernel) (by decide +kernel), gw_at 96 (by decide +kernel) (by decide +kernel), by decide +kernel, by decide⟩, gw_at 1445 (by decide +kernel) (by decide +kernel), gw_at 69 (by decide +kernel) (by decide +kernel)⟩
theorem vv_X9_310 : VV RX9 310 yX9_putBack cX9_putBack 2 none 0 := ⟨⟨gw_at 1463 (by decide +kernel) (by decide +kernel), gw_at 1466 (by decide +kernel) (by decide +kernel), gw_at 96 (by decide +kernel) (by decide +kernel), by decide +kernel, by decide⟩, gw_at 1465 (by decide +kernel) (by decide +kernel), gw_at 74 (by decide +kernel) (by decide +kernel)⟩
theorem vv_X9_304 : VV RX9 304 yX9_layOut cX9_layOut 5 none 2 := ⟨⟨gw_at 1447 (by decide +kernel) (by decide +kernel), gw_at 1450 (by decide +kernel) (by decide +kernel), gw_at 96 (by decide +kernel) (by decide +kernel), by decide +kernel, by decide⟩, gw_at 1449 (by decide +kernel) (by decide +kernel), gw_at 70 (by decide +kernel) (by decide +kernel)⟩
theorem vv_X9_298 : VV RX9 298 yX9_keepAnswers cX9_keepAnswers 2 none 0 := ⟨⟨gw_at 1439 (by decide +kernel) (by decide +kernel), gw_at 1442 (by decide +kernel) (by decide +kernel), gw_at 96 (by decide +kernel) (by decide +kernel), by decide +kernel, by decide⟩, gw_at 1441 (by decide +kernel) (by decide +kernel), gw_at 68 (by decide +kernel) (by decide +kernel)⟩
def m_X9_findBest_L92 (k11 : Int32 → Int32 → Hp → Option (Unit × Hp)) (a1 : Int32) (a2 : Int32) (a3 : Int64) (a5 : Int32) (h : Hp) : Option (Unit × Hp) := hb (si h 1 31 a2) fun h1 => hb (sl h1 1 33 a3) fun h2 => hb (si h2 1 32 a5) fun h3 => vb (a2 + 1) fun v4 => k11 a1 v4 h3
set_option maxRecDepth 20000 in
set_option maxHeartbeats 4000000 in
theorem s_X9_findBest_L92 (w : WT) {x : CT} {l : Launch} (hx : xl x = l) (hG : Gd x cX9_findBest 6 RX9) (hE : Ge x (GM w)) (hR : Rm x 12) (hT : Rt x none) (k11 : Int32 → Int32 → Hp → Option (Unit × Hp)) (hk11 : ∀ (a1 : Int32) (a2 : Int32) (h : Hp), Sn x 6 (gA (GM w)) (0, 0) (ζM x (GM w) inV) (gW (GM w) h) 11 [(0, .ref (gB (GM w) + 1)), (1, .int a1), (2, .int a2)] [] (k11 a1 a2 h)) (a1 : Int32) (a2 : Int32) (a3 : Int64) (a5 : Int32) (h : Hp) : Sn x 6 (gA (GM w)) (0, 0) (ζM x (GM w) inV) (gW (GM w) h) 92 [(0, .ref (gB (GM w) + 1)), (1, .int a1), (2, .int a2), (3, .long a3), (5, .int a5)] [] (m_X9_findBest_L92 k11 a1 a2 a3 a5 h) := by
  unfold m_X9_findBest_L92
  refine s_aload_n hG dX9_findBest_92 0 rfl rfl ?_
  refine s_iload_n hG dX9_findBest_93 2 rfl rfl ?_
  refine s_putI hG hE dX9_findBest_94 fl_X9_106 rfl rfl kM_1 (fun h1 => ?_)
  refine s_aload_n hG dX9_findBest_97 0 rfl rfl ?_
  refine s_lload_n hG dX9_findBest_98 3 rfl rfl ?_
  refine s_putL hG hE dX9_findBest_99 fl_X9_112 rfl rfl kM_1 (fun h2 => ?_)
  refine s_aload_n hG dX9_findBest_102 0 rfl rfl ?_
  refine s_iload hG dX9_findBest_103 4 rfl ?_
  refine s_putI hG hE dX9_findBest_105 fl_X9_109 rfl rfl kM_1 (fun h3 => ?_)
  refine s_iinc hG dX9_findBest_108 2 rfl ic_1 (by decide) (fun v4 => [(2, .int v4), (0, .ref (gB (GM w) + 1)), (1, .int a1), (3, .long a3), (5, .int a5)]) (fun _ => rfl) (fun v4 => ?_)
  refine s_goto (tgt := 11) hG dX9_findBest_111 (by decide) ?_
  refine s_lv [1, 2, 0] rfl ?_
  exact hk11 a1 v4 h3

def m_X9_findBest_L57 (k11 : Int32 → Int32 → Hp → Option (Unit × Hp)) (a1 : Int32) (a2 : Int32) (a3 : Int64) (h : Hp) : Option (Unit × Hp) := cb (m_X9_oathsOf a1 h) fun v1 h2 => if (gi h2 1 31) < 0 then m_X9_findBest_L92 k11 a1 a2 a3 v1 h2 else if a3 = (gl h2 1 33) then if v1 < (gi h2 1 32) then m_X9_findBest_L92 k11 a1 a2 a3 v1 h2 else vb (a2 + 1) fun v6 => k11 a1 v6 h2 else m_X9_findBest_L92 k11 a1 a2 a3 v1 h2
set_option maxRecDepth 20000 in
set_option maxHeartbeats 4000000 in
theorem s_X9_findBest_L57 (w : WT) {x : CT} {l : Launch} (hx : xl x = l) (hG : Gd x cX9_findBest 6 RX9) (hE : Ge x (GM w)) (hR : Rm x 12) (hT : Rt x none) (k11 : Int32 → Int32 → Hp → Option (Unit × Hp)) (hk11 : ∀ (a1 : Int32) (a2 : Int32) (h : Hp), Sn x 6 (gA (GM w)) (0, 0) (ζM x (GM w) inV) (gW (GM w) h) 11 [(0, .ref (gB (GM w) + 1)), (1, .int a1), (2, .int a2)] [] (k11 a1 a2 h)) (a1 : Int32) (a2 : Int32) (a3 : Int64) (h : Hp) : Sn x 6 (gA (GM w)) (0, 0) (ζM x (GM w) inV) (gW (GM w) h) 57 [(0, .ref (gB (GM w) + 1)), (1, .int a1), (2, .int a2), (3, .long a3)] [] (m_X9_findBest_L57 k11 a1 a2 a3 h) := by
  unfold m_X9_findBest_L57
  refine s_aload_n hG dX9_findBest_57 0 rfl rfl ?_
  refine s_iload_n hG dX9_findBest_58 1 rfl rfl ?_
  refine s_callV (a := 1) (c := 9) (inj := inI) (As := [.int a1]) (st := []) rfl hG hE dX9_findBest_59 hR (by decide) vv_X9_307 (by decide) rfl kM_1 rfl (Nat.le_of_ble_eq_true rfl) rfl (fun zv zh zq => c_X9_oathsOf w (xl x) a1 h zv zh zq) (fun v1 h2 => ?_)
  refine s_istore (lv' := [(5, .int v1), (0, .ref (gB (GM w) + 1)), (1, .int a1), (2, .int a2), (3, .long a3)]) hG dX9_findBest_62 (by decide) rfl ?_
  refine s_aload_n hG dX9_findBest_64 1 rfl rfl ?_
  refine s_getI hG hE dX9_findBest_65 fl_X9_106 rfl kM_1 ?_
  refine s_if_lt hG dX9_findBest_68 (tgt := 92) (by decide) (fun q3 => ?_) (fun q3 => ?_)
  · refine s_lv [1, 2, 3, 4, 0] rfl ?_
    exact s_X9_findBest_L92 w hx hG hE hR hT k11 hk11 a1 a2 a3 v1 h2
  · refine s_lload_n hG dX9_findBest_71 4 rfl rfl ?_
    refine s_aload_n hG dX9_findBest_72 1 rfl rfl ?_
    refine s_getL hG hE dX9_findBest_73 fl_X9_112 rfl kM_1 ?_
    refine s_lcmp_ne hG dX9_findBest_76 dX9_findBest_77 (tgt := 92) (by decide) (fun q4 => ?_) (fun q4 => ?_)
    · refine s_iload hG dX9_findBest_80 0 rfl ?_
      refine s_aload_n hG dX9_findBest_82 1 rfl rfl ?_
      refine s_getI hG hE dX9_findBest_83 fl_X9_109 rfl kM_1 ?_
      refine s_icmp_lt hG dX9_findBest_86 (tgt := 92) (by decide) (fun q5 => ?_) (fun q5 => ?_)
      · refine s_lv [1, 2, 3, 4, 0] rfl ?_
        exact s_X9_findBest_L92 w hx hG hE hR hT k11 hk11 a1 a2 a3 v1 h2
      · refine s_goto (tgt := 108) hG dX9_findBest_89 (by decide) ?_
        refine s_iinc hG dX9_findBest_108 3 rfl ic_1 (by decide) (fun v6 => [(2, .int v6), (5, .int v1), (0, .ref (gB (GM w) + 1)), (1, .int a1), (3, .long a3)]) (fun _ => rfl) (fun v6 => ?_)
        refine s_goto (tgt := 11) hG dX9_findBest_111 (by decide) ?_
        refine s_lv [2, 3, 0] rfl ?_
        exact hk11 a1 v6 h2
    · refine s_lv [1, 2, 3, 4, 0] rfl ?_
      exact s_X9_findBest_L92 w hx hG hE hR hT k11 hk11 a1 a2 a3 v1 h2

def m_X9_findBest_L11 : Nat → Int32 → Int32 → Hp → Option (Unit × Hp)
  | 0, _, _, _ => none
  | n + 1, a1, a2, h => cb (m_X9_rowsOf a1 h) fun v1 h2 => if v1 ≤ a2 then cb (m_X9_putBack h2) fun _ h5 => some ((), h5) else cb (m_X9_layOut a1 a2 h2) fun _ h7 => ck (inb a1 5) (cb (m_X9_trulyPaid (gi h7 5 a1.toNatClampNeg) a1 h7) fun v9 h10 => if (gi h10 1 31) < 0 then m_X9_findBest_L57 (m_X9_findBest_L11 n) a1 a2 v9 h10 else if v9 ≤ (gl h10 1 33) then m_X9_findBest_L57 (m_X9_findBest_L11 n) a1 a2 v9 h10 else vb (a2 + 1) fun v13 => m_X9_findBest_L11 n a1 v13 h10)
set_option maxRecDepth 20000 in
set_option maxHeartbeats 4000000 in
theorem s_X9_findBest_L11 (w : WT) {x : CT} {l : Launch} (hx : xl x = l) (hG : Gd x cX9_findBest 6 RX9) (hE : Ge x (GM w)) (hR : Rm x 12) (hT : Rt x none) : ∀ (n : Nat) (a1 : Int32) (a2 : Int32) (h : Hp), Sn x 6 (gA (GM w)) (0, 0) (ζM x (GM w) inV) (gW (GM w) h) 11 [(0, .ref (gB (GM w) + 1)), (1, .int a1), (2, .int a2)] [] (m_X9_findBest_L11 n a1 a2 h) := by
  intro n
  induction n with
  | zero => intro a1 a2 h; exact s_none
  | succ n ih =>
    intro a1 a2 h
    rw [m_X9_findBest_L11]
    refine s_iload_n hG dX9_findBest_11 2 rfl rfl ?_
    refine s_aload_n hG dX9_findBest_12 0 rfl rfl ?_
    refine s_iload_n hG dX9_findBest_13 1 rfl rfl ?_
    refine s_callV (a := 1) (c := 9) (inj := inI) (As := [.int a1]) (st := [.int a2]) rfl hG hE dX9_findBest_14 hR (by decide) vv_X9_301 (by decide) rfl kM_1 rfl (Nat.le_of_ble_eq_true rfl) rfl (fun zv zh zq => c_X9_rowsOf w (xl x) a1 h zv zh zq) (fun v1 h2 => ?_)
    refine s_icmp_ge hG dX9_findBest_17 (tgt := 114) (by decide) (fun q3 => ?_) (fun q3 => ?_)
    · refine s_aload_n hG dX9_findBest_114 0 rfl rfl ?_
      refine s_callV (a := 1) (c := 9) (inj := inV) (As := []) (st := []) rfl hG hE dX9_findBest_115 hR (by decide) vv_X9_310 (by decide) rfl kM_1 rfl (Nat.le_of_ble_eq_true rfl) rfl (fun zv zh zq => c_X9_putBack w (xl x) h2 zv zh zq) (fun v4 h5 => ?_)
      exact s_vret hG hT dX9_findBest_118
    · refine s_aload_n hG dX9_findBest_20 0 rfl rfl ?_
      refine s_iload_n hG dX9_findBest_21 1 rfl rfl ?_
      refine s_iload_n hG dX9_findBest_22 2 rfl rfl ?_
      refine s_callV (a := 1) (c := 9) (inj := inV) (As := [.int a1, .int a2]) (st := []) rfl hG hE dX9_findBest_23 hR (by decide) vv_X9_304 (by decide) rfl kM_1 rfl (Nat.le_of_ble_eq_true rfl) rfl (fun zv zh zq => c_X9_layOut w (xl x) a1 a2 h2 zv zh zq) (fun v6 h7 => ?_)
      refine s_aload_n hG dX9_findBest_26 0 rfl rfl ?_
      refine s_aload_n hG dX9_findBest_27 0 rfl rfl ?_
      refine s_getS hG hE dX9_findBest_28 fl_X9_26 rfl kM_1 fM_9_5 (nzM kM_5) ?_
      refine s_iload_n hG dX9_findBest_31 1 rfl rfl ?_
      refine s_ck (fun q8 => ?_)
      refine s_iald hG hE dX9_findBest_32 kM_5 q8 ?_
      refine s_iload_n hG dX9_findBest_33 1 rfl rfl ?_
      refine s_callV (a := 1) (c := 9) (inj := inL) (As := [.int (gi h7 5 a1.toNatClampNeg), .int a1]) (st := []) rfl hG hE dX9_findBest_34 hR (by decide) vv_X9_287 (by decide) rfl kM_1 rfl (Nat.le_of_ble_eq_true rfl) rfl (fun zv zh zq => c_X9_trulyPaid w (xl x) (gi h7 5 a1.toNatClampNeg) a1 h7 zv zh zq) (fun v9 h10 => ?_)
      refine s_lstore_n (lv' := [(3, .long v9), (0, .ref (gB (GM w) + 1)), (1, .int a1), (2, .int a2)]) hG dX9_findBest_37 rfl (by decide) rfl ?_
      refine s_aload_n hG dX9_findBest_38 1 rfl rfl ?_
      refine s_getI hG hE dX9_findBest_39 fl_X9_106 rfl kM_1 ?_
      refine s_if_lt hG dX9_findBest_42 (tgt := 57) (by decide) (fun q11 => ?_) (fun q11 => ?_)
      · refine s_lv [1, 2, 3, 0] rfl ?_
        exact s_X9_findBest_L57 w hx hG hE hR hT (m_X9_findBest_L11 n) ih a1 a2 v9 h10
      · refine s_lload_n hG dX9_findBest_45 0 rfl rfl ?_
        refine s_aload_n hG dX9_findBest_46 1 rfl rfl ?_
        refine s_getL hG hE dX9_findBest_47 fl_X9_112 rfl kM_1 ?_
        refine s_lcmp_le hG dX9_findBest_50 dX9_findBest_51 (tgt := 57) (by decide) (fun q12 => ?_) (fun q12 => ?_)
        · refine s_lv [1, 2, 3, 0] rfl ?_
          exact s_X9_findBest_L57 w hx hG hE hR hT (m_X9_findBest_L11 n) ih a1 a2 v9 h10
        · refine s_goto (tgt := 108) hG dX9_findBest_54 (by decide) ?_
          refine s_iinc hG dX9_findBest_108 3 rfl ic_1 (by decide) (fun v13 => [(2, .int v13), (3, .long v9), (0, .ref (gB (GM w) + 1)), (1, .int a1)]) (fun _ => rfl) (fun v13 => ?_)
          refine s_goto (tgt := 11) hG dX9_findBest_111 (by decide) ?_
          refine s_lv [2, 3, 0] rfl ?_
          exact ih a1 v13 h10

def m_X9_findBest (a1 : Int32) (h : Hp) : Option (Unit × Hp) := cb (m_X9_keepAnswers h) fun _ h2 => hb (si h2 1 31 (-1)) fun h3 => m_X9_findBest_L11 FU a1 0 h3
set_option maxRecDepth 20000 in
set_option maxHeartbeats 4000000 in
theorem s_X9_findBest (w : WT) {x : CT} {l : Launch} (hx : xl x = l) (hG : Gd x cX9_findBest 6 RX9) (hE : Ge x (GM w)) (hR : Rm x 12) (hT : Rt x none) (a1 : Int32) (h : Hp) : Sn x 6 (gA (GM w)) (0, 0) (ζM x (GM w) inV) (gW (GM w) h) 0 [(0, .ref (gB (GM w) + 1)), (1, .int a1)] [] (m_X9_findBest a1 h) := by
  unfold m_X9_findBest
  refine s_aload_n hG dX9_findBest_0 0 rfl rfl ?_
  refine s_callV (a := 1) (c := 9) (inj := inV) (As := []) (st := []) rfl hG hE dX9_findBest_1 hR (by decide) vv_X9_298 (by decide) rfl kM_1 rfl (Nat.le_of_ble_eq_true rfl) rfl (fun zv zh zq => c_X9_keepAnswers w (xl x) h zv zh zq) (fun v1 h2 => ?_)
  refine s_aload_n hG dX9_findBest_4 0 rfl rfl ?_
  refine s_iconst hG dX9_findBest_5 ic_m1 ?_
  refine s_putI hG hE dX9_findBest_6 fl_X9_106 rfl rfl kM_1 (fun h3 => ?_)
  refine s_iconst hG dX9_findBest_9 ic_0 ?_
  refine s_istore_n (lv' := [(2, .int 0), (0, .ref (gB (GM w) + 1)), (1, .int a1)]) hG dX9_findBest_10 rfl (by decide) rfl ?_
  refine s_lv [1, 2, 0] rfl ?_
  exact s_X9_findBest_L11 w hx hG hE hR hT FU a1 0 h3

theorem c_X9_findBest (w : WT) (l : Launch) (a1 : Int32) (h : Hp) : ∀ v h', m_X9_findBest a1 h = some (v, h') → MetM l (GM w) yX9_findBest cX9_findBest 6 none 12 [.ref (gB (GM w) + 1), .int a1] h (inV v) h' :=
  met_of (by decide) (lokM w) (Nat.le_of_ble_eq_true rfl) (fun x hx hG hE hR hT => s_X9_findBest w hx hG hE hR hT a1 h)
theorem vv_X9_313 : VV RX9 313 yX9_findBest cX9_findBest 6 none 1 := ⟨⟨gw_at 1435 (by decide +kernel) (by decide +kernel), gw_at 1438 (by decide +kernel) (by decide +kernel), gw_at 96 (by decide +kernel) (by decide +kernel), by decide +kernel, by decide⟩, gw_at 1437 (by decide +kernel) (by decide +kernel), gw_at 67 (by decide +kernel) (by decide +kernel)⟩
def m_X9_best_L69 : Nat → Int32 → Int32 → Int32 → Hp → Option (Int32 × Hp)
  | 0, _, _, _, _ => none
  | n + 1, a2, a3, a4, h => if a4 ≤ a2 then some (a3 - a3 / 5 * 5, h) else vb (a3 / 5) fun v2 => vb (a4 + (-1)) fun v3 => m_X9_best_L69 n a2 v2 v3 h
set_option maxRecDepth 20000 in
set_option maxHeartbeats 4000000 in
theorem s_X9_best_L69 (w : WT) {x : CT} {l : Launch} (hx : xl x = l) (hG : Gd x cX9_best 5 RX9) (hE : Ge x (GM w)) (hR : Rm x 13) (hT : Rt x (some .int)) : ∀ (n : Nat) (a2 : Int32) (a3 : Int32) (a4 : Int32) (h : Hp), Sn x 5 (gA (GM w)) (0, 0) (ζM x (GM w) inI) (gW (GM w) h) 69 [(2, .int a2), (3, .int a3), (4, .int a4)] [] (m_X9_best_L69 n a2 a3 a4 h) := by
  intro n
  induction n with
  | zero => intro a2 a3 a4 h; exact s_none
  | succ n ih =>
    intro a2 a3 a4 h
    rw [m_X9_best_L69]
    refine s_iload hG dX9_best_69 2 rfl ?_
    refine s_iload_n hG dX9_best_71 0 rfl rfl ?_
    refine s_icmp_le hG dX9_best_72 (tgt := 85) (by decide) (fun q1 => ?_) (fun q1 => ?_)
    · refine s_iload_n hG dX9_best_85 1 rfl rfl ?_
      refine s_iconst hG dX9_best_86 ic_5 ?_
      refine s_irem hG dX9_best_87 (by decide) ?_
      exact s_iret hG hT dX9_best_88
    · refine s_iload_n hG dX9_best_75 1 rfl rfl ?_
      refine s_iconst hG dX9_best_76 ic_5 ?_
      refine s_idiv hG dX9_best_77 (by decide) ?_
      refine s_vI (fun v2 => ?_)
      refine s_istore_n (lv' := [(3, .int v2), (2, .int a2), (4, .int a4)]) hG dX9_best_78 rfl (by decide) rfl ?_
      refine s_iinc hG dX9_best_79 2 rfl ic_m1 (by decide) (fun v3 => [(4, .int v3), (3, .int v2), (2, .int a2)]) (fun _ => rfl) (fun v3 => ?_)
      refine s_goto (tgt := 69) hG dX9_best_82 (by decide) ?_
      refine s_lv [2, 1, 0] rfl ?_
      exact ih a2 v2 v3 h

def m_X9_best (a1 : Int32) (a2 : Int32) (h : Hp) : Option (Int32 × Hp) := cb (m_X9_isSuit a1 h) fun v1 h2 => if v1 = 0 then some ((-1), h2) else cb (m_X9_manyOf a1 h2) fun v4 h5 => if v4 ≤ 4 then cb (m_X9_manyOf a1 h5) fun v7 h8 => cb (m_X9_in a2 (-1) (v7 - 1) h8) fun v9 h10 => if v9 = 0 then some ((-1), h10) else cb (m_X9_findBest a1 h10) fun _ h13 => if a2 = (-1) then some (gi h13 1 32, h13) else vb (gi h13 1 31) fun v15 => cb (m_X9_manyOf a1 h13) fun v16 h17 => vb (v16 - 1) fun v18 => m_X9_best_L69 FU a2 v15 v18 h17 else some ((-9), h5)
set_option maxRecDepth 20000 in
set_option maxHeartbeats 4000000 in
theorem s_X9_best (w : WT) {x : CT} {l : Launch} (hx : xl x = l) (hG : Gd x cX9_best 5 RX9) (hE : Ge x (GM w)) (hR : Rm x 13) (hT : Rt x (some .int)) (a1 : Int32) (a2 : Int32) (h : Hp) : Sn x 5 (gA (GM w)) (0, 0) (ζM x (GM w) inI) (gW (GM w) h) 0 [(0, .ref (gB (GM w) + 1)), (1, .int a1), (2, .int a2)] [] (m_X9_best a1 a2 h) := by
  unfold m_X9_best
  refine s_aload_n hG dX9_best_0 0 rfl rfl ?_
  refine s_iload_n hG dX9_best_1 1 rfl rfl ?_
  refine s_callV (a := 1) (c := 9) (inj := inI) (As := [.int a1]) (st := []) rfl hG hE dX9_best_2 hR (by decide) vv_X9_156 (by decide) rfl kM_1 rfl (Nat.le_of_ble_eq_true rfl) rfl (fun zv zh zq => c_X9_isSuit w (xl x) a1 h zv zh zq) (fun v1 h2 => ?_)
  refine s_if_ne hG dX9_best_5 (tgt := 10) (by decide) (fun q3 => ?_) (fun q3 => ?_)
  · refine s_iconst hG dX9_best_8 ic_m1 ?_
    exact s_iret hG hT dX9_best_9
  · refine s_aload_n hG dX9_best_10 0 rfl rfl ?_
    refine s_iload_n hG dX9_best_11 1 rfl rfl ?_
    refine s_callV (a := 1) (c := 9) (inj := inI) (As := [.int a1]) (st := []) rfl hG hE dX9_best_12 hR (by decide) vv_X9_159 (by decide) rfl kM_1 rfl (Nat.le_of_ble_eq_true rfl) rfl (fun zv zh zq => c_X9_manyOf w (xl x) a1 h2 zv zh zq) (fun v4 h5 => ?_)
    refine s_iconst hG dX9_best_15 ic_4 ?_
    refine s_icmp_le hG dX9_best_16 (tgt := 22) (by decide) (fun q6 => ?_) (fun q6 => ?_)
    · refine s_aload_n hG dX9_best_22 0 rfl rfl ?_
      refine s_iload_n hG dX9_best_23 2 rfl rfl ?_
      refine s_iconst hG dX9_best_24 ic_m1 ?_
      refine s_aload_n hG dX9_best_25 0 rfl rfl ?_
      refine s_iload_n hG dX9_best_26 1 rfl rfl ?_
      refine s_callV (a := 1) (c := 9) (inj := inI) (As := [.int a1]) (st := [.int (-1), .int a2, .ref (gB (GM w) + 1)]) rfl hG hE dX9_best_27 hR (by decide) vv_X9_159 (by decide) rfl kM_1 rfl (Nat.le_of_ble_eq_true rfl) rfl (fun zv zh zq => c_X9_manyOf w (xl x) a1 h5 zv zh zq) (fun v7 h8 => ?_)
      refine s_iconst hG dX9_best_30 ic_1 ?_
      refine s_isub hG dX9_best_31 ?_
      refine s_callV (a := 1) (c := 9) (inj := inI) (As := [.int a2, .int (-1), .int (v7 - 1)]) (st := []) rfl hG hE dX9_best_32 hR (by decide) vv_X9_144 (by decide) rfl kM_1 rfl (Nat.le_of_ble_eq_true rfl) rfl (fun zv zh zq => c_X9_in w (xl x) a2 (-1) (v7 - 1) h8 zv zh zq) (fun v9 h10 => ?_)
      refine s_if_ne hG dX9_best_35 (tgt := 40) (by decide) (fun q11 => ?_) (fun q11 => ?_)
      · refine s_iconst hG dX9_best_38 ic_m1 ?_
        exact s_iret hG hT dX9_best_39
      · refine s_aload_n hG dX9_best_40 0 rfl rfl ?_
        refine s_iload_n hG dX9_best_41 1 rfl rfl ?_
        refine s_callV (a := 1) (c := 9) (inj := inV) (As := [.int a1]) (st := []) rfl hG hE dX9_best_42 hR (by decide) vv_X9_313 (by decide) rfl kM_1 rfl (Nat.le_of_ble_eq_true rfl) rfl (fun zv zh zq => c_X9_findBest w (xl x) a1 h10 zv zh zq) (fun v12 h13 => ?_)
        refine s_iload_n hG dX9_best_45 2 rfl rfl ?_
        refine s_iconst hG dX9_best_46 ic_m1 ?_
        refine s_icmp_ne hG dX9_best_47 (tgt := 55) (by decide) (fun q14 => ?_) (fun q14 => ?_)
        · refine s_aload_n hG dX9_best_50 0 rfl rfl ?_
          refine s_getI hG hE dX9_best_51 fl_X9_109 rfl kM_1 ?_
          exact s_iret hG hT dX9_best_54
        · refine s_aload_n hG dX9_best_55 0 rfl rfl ?_
          refine s_getI hG hE dX9_best_56 fl_X9_106 rfl kM_1 ?_
          refine s_vI (fun v15 => ?_)
          refine s_istore_n (lv' := [(3, .int v15), (0, .ref (gB (GM w) + 1)), (1, .int a1), (2, .int a2)]) hG dX9_best_59 rfl (by decide) rfl ?_
          refine s_aload_n hG dX9_best_60 1 rfl rfl ?_
          refine s_iload_n hG dX9_best_61 2 rfl rfl ?_
          refine s_callV (a := 1) (c := 9) (inj := inI) (As := [.int a1]) (st := []) rfl hG hE dX9_best_62 hR (by decide) vv_X9_159 (by decide) rfl kM_1 rfl (Nat.le_of_ble_eq_true rfl) rfl (fun zv zh zq => c_X9_manyOf w (xl x) a1 h13 zv zh zq) (fun v16 h17 => ?_)
          refine s_iconst hG dX9_best_65 ic_1 ?_
          refine s_isub hG dX9_best_66 ?_
          refine s_vI (fun v18 => ?_)
          refine s_istore (lv' := [(4, .int v18), (3, .int v15), (0, .ref (gB (GM w) + 1)), (1, .int a1), (2, .int a2)]) hG dX9_best_67 (by decide) rfl ?_
          refine s_lv [4, 1, 0] rfl ?_
          exact s_X9_best_L69 w hx hG hE hR hT FU a2 v15 v18 h17
    · refine s_bipush hG dX9_best_19 bc_m9 ?_
      exact s_iret hG hT dX9_best_21

theorem c_X9_best (w : WT) (l : Launch) (a1 : Int32) (a2 : Int32) (h : Hp) : ∀ v h', m_X9_best a1 a2 h = some (v, h') → MetM l (GM w) yX9_best cX9_best 5 (some .int) 13 [.ref (gB (GM w) + 1), .int a1, .int a2] h (inI v) h' :=
  met_of (by decide) (lokM w) (Nat.le_of_ble_eq_true rfl) (fun x hx hG hE hR hT => s_X9_best w hx hG hE hR hT a1 a2 h)
def m_X9_slips_L97 (k52 : Int32 → Int32 → Int32 → Int32 → Int32 → Hp → Option (Int32 × Hp)) (a1 : Int32) (a2 : Int32) (a3 : Int32) (a5 : Int32) (t0 : Int32) (h : Hp) : Option (Int32 × Hp) := vb (a5 + 1) fun v1 => k52 a1 a2 a3 t0 v1 h
set_option maxRecDepth 20000 in
set_option maxHeartbeats 4000000 in
theorem s_X9_slips_L97 (w : WT) {x : CT} {l : Launch} (hx : xl x = l) (hG : Gd x cX9_slips 6 RX9) (hE : Ge x (GM w)) (hR : Rm x 13) (hT : Rt x (some .int)) (k52 : Int32 → Int32 → Int32 → Int32 → Int32 → Hp → Option (Int32 × Hp)) (hk52 : ∀ (a1 : Int32) (a2 : Int32) (a3 : Int32) (a4 : Int32) (a5 : Int32) (h : Hp), Sn x 6 (gA (GM w)) (0, 0) (ζM x (GM w) inI) (gW (GM w) h) 52 [(0, .ref (gB (GM w) + 1)), (1, .int a1), (2, .int a2), (3, .int a3), (4, .int a4), (5, .int a5)] [] (k52 a1 a2 a3 a4 a5 h)) (a1 : Int32) (a2 : Int32) (a3 : Int32) (a5 : Int32) (t0 : Int32) (h : Hp) : Sn x 6 (gA (GM w)) (0, 0) (ζM x (GM w) inI) (gW (GM w) h) 97 [(0, .ref (gB (GM w) + 1)), (1, .int a1), (2, .int a2), (3, .int a3), (5, .int a5)] [.int t0] (m_X9_slips_L97 k52 a1 a2 a3 a5 t0 h) := by
  unfold m_X9_slips_L97
  refine s_istore (lv' := [(4, .int t0), (0, .ref (gB (GM w) + 1)), (1, .int a1), (2, .int a2), (3, .int a3), (5, .int a5)]) hG dX9_slips_97 (by decide) rfl ?_
  refine s_iinc hG dX9_slips_99 5 rfl ic_1 (by decide) (fun v1 => [(5, .int v1), (4, .int t0), (0, .ref (gB (GM w) + 1)), (1, .int a1), (2, .int a2), (3, .int a3)]) (fun _ => rfl) (fun v1 => ?_)
  refine s_goto (tgt := 52) hG dX9_slips_102 (by decide) ?_
  refine s_lv [2, 3, 4, 5, 1, 0] rfl ?_
  exact hk52 a1 a2 a3 t0 v1 h

def m_X9_slips_L96 (k52 : Int32 → Int32 → Int32 → Int32 → Int32 → Hp → Option (Int32 × Hp)) (a1 : Int32) (a2 : Int32) (a3 : Int32) (a5 : Int32) (h : Hp) : Option (Int32 × Hp) := m_X9_slips_L97 k52 a1 a2 a3 a5 0 h
set_option maxRecDepth 20000 in
set_option maxHeartbeats 4000000 in
theorem s_X9_slips_L96 (w : WT) {x : CT} {l : Launch} (hx : xl x = l) (hG : Gd x cX9_slips 6 RX9) (hE : Ge x (GM w)) (hR : Rm x 13) (hT : Rt x (some .int)) (k52 : Int32 → Int32 → Int32 → Int32 → Int32 → Hp → Option (Int32 × Hp)) (hk52 : ∀ (a1 : Int32) (a2 : Int32) (a3 : Int32) (a4 : Int32) (a5 : Int32) (h : Hp), Sn x 6 (gA (GM w)) (0, 0) (ζM x (GM w) inI) (gW (GM w) h) 52 [(0, .ref (gB (GM w) + 1)), (1, .int a1), (2, .int a2), (3, .int a3), (4, .int a4), (5, .int a5)] [] (k52 a1 a2 a3 a4 a5 h)) (a1 : Int32) (a2 : Int32) (a3 : Int32) (a5 : Int32) (h : Hp) : Sn x 6 (gA (GM w)) (0, 0) (ζM x (GM w) inI) (gW (GM w) h) 96 [(0, .ref (gB (GM w) + 1)), (1, .int a1), (2, .int a2), (3, .int a3), (5, .int a5)] [] (m_X9_slips_L96 k52 a1 a2 a3 a5 h) := by
  unfold m_X9_slips_L96
  refine s_iconst hG dX9_slips_96 ic_0 ?_
  exact s_X9_slips_L97 w hx hG hE hR hT k52 hk52 a1 a2 a3 a5 0 h

def m_X9_slips_L135 (k31 : Int32 → Int32 → Int32 → Hp → Option (Int32 × Hp)) (a1 : Int32) (a3 : Int32) (t0 : Int32) (t1 : Int32) (h : Hp) : Option (Int32 × Hp) := vb (t1 + t0) fun v1 => vb (a3 + 1) fun v2 => k31 a1 v1 v2 h
set_option maxRecDepth 20000 in
set_option maxHeartbeats 4000000 in
theorem s_X9_slips_L135 (w : WT) {x : CT} {l : Launch} (hx : xl x = l) (hG : Gd x cX9_slips 6 RX9) (hE : Ge x (GM w)) (hR : Rm x 13) (hT : Rt x (some .int)) (k31 : Int32 → Int32 → Int32 → Hp → Option (Int32 × Hp)) (hk31 : ∀ (a1 : Int32) (a2 : Int32) (a3 : Int32) (h : Hp), Sn x 6 (gA (GM w)) (0, 0) (ζM x (GM w) inI) (gW (GM w) h) 31 [(0, .ref (gB (GM w) + 1)), (1, .int a1), (2, .int a2), (3, .int a3)] [] (k31 a1 a2 a3 h)) (a1 : Int32) (a3 : Int32) (t0 : Int32) (t1 : Int32) (h : Hp) : Sn x 6 (gA (GM w)) (0, 0) (ζM x (GM w) inI) (gW (GM w) h) 135 [(0, .ref (gB (GM w) + 1)), (1, .int a1), (3, .int a3)] [.int t0, .int t1] (m_X9_slips_L135 k31 a1 a3 t0 t1 h) := by
  unfold m_X9_slips_L135
  refine s_iadd hG dX9_slips_135 ?_
  refine s_vI (fun v1 => ?_)
  refine s_istore_n (lv' := [(2, .int v1), (0, .ref (gB (GM w) + 1)), (1, .int a1), (3, .int a3)]) hG dX9_slips_136 rfl (by decide) rfl ?_
  refine s_iinc hG dX9_slips_137 3 rfl ic_1 (by decide) (fun v2 => [(3, .int v2), (2, .int v1), (0, .ref (gB (GM w) + 1)), (1, .int a1)]) (fun _ => rfl) (fun v2 => ?_)
  refine s_goto (tgt := 31) hG dX9_slips_140 (by decide) ?_
  refine s_lv [2, 3, 1, 0] rfl ?_
  exact hk31 a1 v1 v2 h

def m_X9_slips_L134 (k31 : Int32 → Int32 → Int32 → Hp → Option (Int32 × Hp)) (a1 : Int32) (a3 : Int32) (t0 : Int32) (h : Hp) : Option (Int32 × Hp) := m_X9_slips_L135 k31 a1 a3 0 t0 h
set_option maxRecDepth 20000 in
set_option maxHeartbeats 4000000 in
theorem s_X9_slips_L134 (w : WT) {x : CT} {l : Launch} (hx : xl x = l) (hG : Gd x cX9_slips 6 RX9) (hE : Ge x (GM w)) (hR : Rm x 13) (hT : Rt x (some .int)) (k31 : Int32 → Int32 → Int32 → Hp → Option (Int32 × Hp)) (hk31 : ∀ (a1 : Int32) (a2 : Int32) (a3 : Int32) (h : Hp), Sn x 6 (gA (GM w)) (0, 0) (ζM x (GM w) inI) (gW (GM w) h) 31 [(0, .ref (gB (GM w) + 1)), (1, .int a1), (2, .int a2), (3, .int a3)] [] (k31 a1 a2 a3 h)) (a1 : Int32) (a3 : Int32) (t0 : Int32) (h : Hp) : Sn x 6 (gA (GM w)) (0, 0) (ζM x (GM w) inI) (gW (GM w) h) 134 [(0, .ref (gB (GM w) + 1)), (1, .int a1), (3, .int a3)] [.int t0] (m_X9_slips_L134 k31 a1 a3 t0 h) := by
  unfold m_X9_slips_L134
  refine s_iconst hG dX9_slips_134 ic_0 ?_
  exact s_X9_slips_L135 w hx hG hE hR hT k31 hk31 a1 a3 0 t0 h

def m_X9_slips_L105 (k31 : Int32 → Int32 → Int32 → Hp → Option (Int32 × Hp)) (a1 : Int32) (a2 : Int32) (a3 : Int32) (a4 : Int32) (h : Hp) : Option (Int32 × Hp) := if a4 = 0 then ck (inb a1 5) (cb (m_X9_trulyPaid (gi h 5 a1.toNatClampNeg) a1 h) fun v3 h4 => if v3 = (gl h4 1 33) then m_X9_slips_L135 k31 a1 a3 1 a2 h4 else m_X9_slips_L134 k31 a1 a3 a2 h4) else m_X9_slips_L134 k31 a1 a3 a2 h
set_option maxRecDepth 20000 in
set_option maxHeartbeats 4000000 in
theorem s_X9_slips_L105 (w : WT) {x : CT} {l : Launch} (hx : xl x = l) (hG : Gd x cX9_slips 6 RX9) (hE : Ge x (GM w)) (hR : Rm x 13) (hT : Rt x (some .int)) (k31 : Int32 → Int32 → Int32 → Hp → Option (Int32 × Hp)) (hk31 : ∀ (a1 : Int32) (a2 : Int32) (a3 : Int32) (h : Hp), Sn x 6 (gA (GM w)) (0, 0) (ζM x (GM w) inI) (gW (GM w) h) 31 [(0, .ref (gB (GM w) + 1)), (1, .int a1), (2, .int a2), (3, .int a3)] [] (k31 a1 a2 a3 h)) (a1 : Int32) (a2 : Int32) (a3 : Int32) (a4 : Int32) (h : Hp) : Sn x 6 (gA (GM w)) (0, 0) (ζM x (GM w) inI) (gW (GM w) h) 105 [(0, .ref (gB (GM w) + 1)), (1, .int a1), (2, .int a2), (3, .int a3), (4, .int a4)] [] (m_X9_slips_L105 k31 a1 a2 a3 a4 h) := by
  unfold m_X9_slips_L105
  refine s_iload_n hG dX9_slips_105 2 rfl rfl ?_
  refine s_iload hG dX9_slips_106 4 rfl ?_
  refine s_if_ne hG dX9_slips_108 (tgt := 134) (by decide) (fun q1 => ?_) (fun q1 => ?_)
  · refine s_aload_n hG dX9_slips_111 0 rfl rfl ?_
    refine s_aload_n hG dX9_slips_112 0 rfl rfl ?_
    refine s_getS hG hE dX9_slips_113 fl_X9_26 rfl kM_1 fM_9_5 (nzM kM_5) ?_
    refine s_iload_n hG dX9_slips_116 1 rfl rfl ?_
    refine s_ck (fun q2 => ?_)
    refine s_iald hG hE dX9_slips_117 kM_5 q2 ?_
    refine s_iload_n hG dX9_slips_118 1 rfl rfl ?_
    refine s_callV (a := 1) (c := 9) (inj := inL) (As := [.int (gi h 5 a1.toNatClampNeg), .int a1]) (st := [.int a2]) rfl hG hE dX9_slips_119 hR (by decide) vv_X9_287 (by decide) rfl kM_1 rfl (Nat.le_of_ble_eq_true rfl) rfl (fun zv zh zq => c_X9_trulyPaid w (xl x) (gi h 5 a1.toNatClampNeg) a1 h zv zh zq) (fun v3 h4 => ?_)
    refine s_aload_n hG dX9_slips_122 0 rfl rfl ?_
    refine s_getL hG hE dX9_slips_123 fl_X9_112 rfl kM_1 ?_
    refine s_lcmp_ne hG dX9_slips_126 dX9_slips_127 (tgt := 134) (by decide) (fun q5 => ?_) (fun q5 => ?_)
    · refine s_iconst hG dX9_slips_130 ic_1 ?_
      refine s_goto (tgt := 135) hG dX9_slips_131 (by decide) ?_
      refine s_lv [0, 1, 3] rfl ?_
      exact s_X9_slips_L135 w hx hG hE hR hT k31 hk31 a1 a3 1 a2 h4
    · refine s_lv [0, 1, 3] rfl ?_
      exact s_X9_slips_L134 w hx hG hE hR hT k31 hk31 a1 a3 a2 h4
  · refine s_lv [0, 1, 3] rfl ?_
    exact s_X9_slips_L134 w hx hG hE hR hT k31 hk31 a1 a3 a2 h

def m_X9_slips_L52 (k31 : Int32 → Int32 → Int32 → Hp → Option (Int32 × Hp)) : Nat → Int32 → Int32 → Int32 → Int32 → Int32 → Hp → Option (Int32 × Hp)
  | 0, _, _, _, _, _, _ => none
  | n + 1, a1, a2, a3, a4, a5, h => if (gi h 1 1) ≤ a5 then m_X9_slips_L105 k31 a1 a2 a3 a4 h else if a4 = 0 then cb (m_X9_get a5 0 h) fun v3 h4 => if v3 = a1 then ck (inb a1 5) (cb (m_X9_dueBy (gi h4 5 a1.toNatClampNeg) a5 h4) fun v7 h8 => if v7 < 0 then m_X9_slips_L96 (m_X9_slips_L52 k31 n) a1 a2 a3 a5 h8 else m_X9_slips_L97 (m_X9_slips_L52 k31 n) a1 a2 a3 a5 1 h8) else m_X9_slips_L96 (m_X9_slips_L52 k31 n) a1 a2 a3 a5 h4 else m_X9_slips_L105 k31 a1 a2 a3 a4 h
set_option maxRecDepth 20000 in
set_option maxHeartbeats 4000000 in
theorem s_X9_slips_L52 (w : WT) {x : CT} {l : Launch} (hx : xl x = l) (hG : Gd x cX9_slips 6 RX9) (hE : Ge x (GM w)) (hR : Rm x 13) (hT : Rt x (some .int)) (k31 : Int32 → Int32 → Int32 → Hp → Option (Int32 × Hp)) (hk31 : ∀ (a1 : Int32) (a2 : Int32) (a3 : Int32) (h : Hp), Sn x 6 (gA (GM w)) (0, 0) (ζM x (GM w) inI) (gW (GM w) h) 31 [(0, .ref (gB (GM w) + 1)), (1, .int a1), (2, .int a2), (3, .int a3)] [] (k31 a1 a2 a3 h)) : ∀ (n : Nat) (a1 : Int32) (a2 : Int32) (a3 : Int32) (a4 : Int32) (a5 : Int32) (h : Hp), Sn x 6 (gA (GM w)) (0, 0) (ζM x (GM w) inI) (gW (GM w) h) 52 [(0, .ref (gB (GM w) + 1)), (1, .int a1), (2, .int a2), (3, .int a3), (4, .int a4), (5, .int a5)] [] (m_X9_slips_L52 k31 n a1 a2 a3 a4 a5 h) := by
  intro n
  induction n with
  | zero => intro a1 a2 a3 a4 a5 h; exact s_none
  | succ n ih =>
    intro a1 a2 a3 a4 a5 h
    rw [m_X9_slips_L52]
    refine s_iload hG dX9_slips_52 5 rfl ?_
    refine s_aload_n hG dX9_slips_54 0 rfl rfl ?_
    refine s_getI hG hE dX9_slips_55 fl_X9_13 rfl kM_1 ?_
    refine s_icmp_ge hG dX9_slips_58 (tgt := 105) (by decide) (fun q1 => ?_) (fun q1 => ?_)
    · refine s_lv [0, 1, 2, 3, 4] rfl ?_
      exact s_X9_slips_L105 w hx hG hE hR hT k31 hk31 a1 a2 a3 a4 h
    · refine s_iload hG dX9_slips_61 4 rfl ?_
      refine s_if_ne hG dX9_slips_63 (tgt := 105) (by decide) (fun q2 => ?_) (fun q2 => ?_)
      · refine s_aload_n hG dX9_slips_66 0 rfl rfl ?_
        refine s_iload hG dX9_slips_67 5 rfl ?_
        refine s_iconst hG dX9_slips_69 ic_0 ?_
        refine s_callV (a := 1) (c := 9) (inj := inI) (As := [.int a5, .int 0]) (st := []) rfl hG hE dX9_slips_70 hR (by decide) vv_X9_148 (by decide) rfl kM_1 rfl (Nat.le_of_ble_eq_true rfl) rfl (fun zv zh zq => c_X9_get w (xl x) a5 0 h zv zh zq) (fun v3 h4 => ?_)
        refine s_iload_n hG dX9_slips_73 1 rfl rfl ?_
        refine s_icmp_ne hG dX9_slips_74 (tgt := 96) (by decide) (fun q5 => ?_) (fun q5 => ?_)
        · refine s_aload_n hG dX9_slips_77 0 rfl rfl ?_
          refine s_aload_n hG dX9_slips_78 0 rfl rfl ?_
          refine s_getS hG hE dX9_slips_79 fl_X9_26 rfl kM_1 fM_9_5 (nzM kM_5) ?_
          refine s_iload_n hG dX9_slips_82 1 rfl rfl ?_
          refine s_ck (fun q6 => ?_)
          refine s_iald hG hE dX9_slips_83 kM_5 q6 ?_
          refine s_iload hG dX9_slips_84 5 rfl ?_
          refine s_callV (a := 1) (c := 9) (inj := inI) (As := [.int (gi h4 5 a1.toNatClampNeg), .int a5]) (st := []) rfl hG hE dX9_slips_86 hR (by decide) vv_X9_251 (by decide) rfl kM_1 rfl (Nat.le_of_ble_eq_true rfl) rfl (fun zv zh zq => c_X9_dueBy w (xl x) (gi h4 5 a1.toNatClampNeg) a5 h4 zv zh zq) (fun v7 h8 => ?_)
          refine s_if_lt hG dX9_slips_89 (tgt := 96) (by decide) (fun q9 => ?_) (fun q9 => ?_)
          · refine s_lv [0, 1, 2, 3, 5] rfl ?_
            exact s_X9_slips_L96 w hx hG hE hR hT (m_X9_slips_L52 k31 n) ih a1 a2 a3 a5 h8
          · refine s_iconst hG dX9_slips_92 ic_1 ?_
            refine s_goto (tgt := 97) hG dX9_slips_93 (by decide) ?_
            refine s_lv [0, 1, 2, 3, 5] rfl ?_
            exact s_X9_slips_L97 w hx hG hE hR hT (m_X9_slips_L52 k31 n) ih a1 a2 a3 a5 1 h8
        · refine s_lv [0, 1, 2, 3, 5] rfl ?_
          exact s_X9_slips_L96 w hx hG hE hR hT (m_X9_slips_L52 k31 n) ih a1 a2 a3 a5 h4
      · refine s_lv [0, 1, 2, 3, 4] rfl ?_
        exact s_X9_slips_L105 w hx hG hE hR hT k31 hk31 a1 a2 a3 a4 h

def m_X9_slips_L31 : Nat → Int32 → Int32 → Int32 → Hp → Option (Int32 × Hp)
  | 0, _, _, _, _ => none
  | n + 1, a1, a2, a3, h => cb (m_X9_rowsOf a1 h) fun v1 h2 => if v1 ≤ a3 then cb (m_X9_putBack h2) fun _ h5 => some (a2, h5) else cb (m_X9_layOut a1 a3 h2) fun _ h7 => m_X9_slips_L52 (m_X9_slips_L31 n) FU a1 a2 a3 0 0 h7
set_option maxRecDepth 20000 in
set_option maxHeartbeats 4000000 in
theorem s_X9_slips_L31 (w : WT) {x : CT} {l : Launch} (hx : xl x = l) (hG : Gd x cX9_slips 6 RX9) (hE : Ge x (GM w)) (hR : Rm x 13) (hT : Rt x (some .int)) : ∀ (n : Nat) (a1 : Int32) (a2 : Int32) (a3 : Int32) (h : Hp), Sn x 6 (gA (GM w)) (0, 0) (ζM x (GM w) inI) (gW (GM w) h) 31 [(0, .ref (gB (GM w) + 1)), (1, .int a1), (2, .int a2), (3, .int a3)] [] (m_X9_slips_L31 n a1 a2 a3 h) := by
  intro n
  induction n with
  | zero => intro a1 a2 a3 h; exact s_none
  | succ n ih =>
    intro a1 a2 a3 h
    rw [m_X9_slips_L31]
    refine s_iload_n hG dX9_slips_31 3 rfl rfl ?_
    refine s_aload_n hG dX9_slips_32 0 rfl rfl ?_
    refine s_iload_n hG dX9_slips_33 1 rfl rfl ?_
    refine s_callV (a := 1) (c := 9) (inj := inI) (As := [.int a1]) (st := [.int a3]) rfl hG hE dX9_slips_34 hR (by decide) vv_X9_301 (by decide) rfl kM_1 rfl (Nat.le_of_ble_eq_true rfl) rfl (fun zv zh zq => c_X9_rowsOf w (xl x) a1 h zv zh zq) (fun v1 h2 => ?_)
    refine s_icmp_ge hG dX9_slips_37 (tgt := 143) (by decide) (fun q3 => ?_) (fun q3 => ?_)
    · refine s_aload_n hG dX9_slips_143 0 rfl rfl ?_
      refine s_callV (a := 1) (c := 9) (inj := inV) (As := []) (st := []) rfl hG hE dX9_slips_144 hR (by decide) vv_X9_310 (by decide) rfl kM_1 rfl (Nat.le_of_ble_eq_true rfl) rfl (fun zv zh zq => c_X9_putBack w (xl x) h2 zv zh zq) (fun v4 h5 => ?_)
      refine s_iload_n hG dX9_slips_147 2 rfl rfl ?_
      exact s_iret hG hT dX9_slips_148
    · refine s_aload_n hG dX9_slips_40 0 rfl rfl ?_
      refine s_iload_n hG dX9_slips_41 1 rfl rfl ?_
      refine s_iload_n hG dX9_slips_42 3 rfl rfl ?_
      refine s_callV (a := 1) (c := 9) (inj := inV) (As := [.int a1, .int a3]) (st := []) rfl hG hE dX9_slips_43 hR (by decide) vv_X9_304 (by decide) rfl kM_1 rfl (Nat.le_of_ble_eq_true rfl) rfl (fun zv zh zq => c_X9_layOut w (xl x) a1 a3 h2 zv zh zq) (fun v6 h7 => ?_)
      refine s_iconst hG dX9_slips_46 ic_0 ?_
      refine s_istore (lv' := [(4, .int 0), (0, .ref (gB (GM w) + 1)), (1, .int a1), (2, .int a2), (3, .int a3)]) hG dX9_slips_47 (by decide) rfl ?_
      refine s_iconst hG dX9_slips_49 ic_0 ?_
      refine s_istore (lv' := [(5, .int 0), (4, .int 0), (0, .ref (gB (GM w) + 1)), (1, .int a1), (2, .int a2), (3, .int a3)]) hG dX9_slips_50 (by decide) rfl ?_
      refine s_lv [2, 3, 4, 5, 1, 0] rfl ?_
      exact s_X9_slips_L52 w hx hG hE hR hT (m_X9_slips_L31 n) ih FU a1 a2 a3 0 0 h7

def m_X9_slips (a1 : Int32) (h : Hp) : Option (Int32 × Hp) := cb (m_X9_isSuit a1 h) fun v1 h2 => if v1 = 0 then some ((-1), h2) else cb (m_X9_manyOf a1 h2) fun v4 h5 => if v4 ≤ 4 then cb (m_X9_findBest a1 h5) fun _ h8 => m_X9_slips_L31 FU a1 0 0 h8 else some ((-9), h5)
set_option maxRecDepth 20000 in
set_option maxHeartbeats 4000000 in
theorem s_X9_slips (w : WT) {x : CT} {l : Launch} (hx : xl x = l) (hG : Gd x cX9_slips 6 RX9) (hE : Ge x (GM w)) (hR : Rm x 13) (hT : Rt x (some .int)) (a1 : Int32) (h : Hp) : Sn x 6 (gA (GM w)) (0, 0) (ζM x (GM w) inI) (gW (GM w) h) 0 [(0, .ref (gB (GM w) + 1)), (1, .int a1)] [] (m_X9_slips a1 h) := by
  unfold m_X9_slips
  refine s_aload_n hG dX9_slips_0 0 rfl rfl ?_
  refine s_iload_n hG dX9_slips_1 1 rfl rfl ?_
  refine s_callV (a := 1) (c := 9) (inj := inI) (As := [.int a1]) (st := []) rfl hG hE dX9_slips_2 hR (by decide) vv_X9_156 (by decide) rfl kM_1 rfl (Nat.le_of_ble_eq_true rfl) rfl (fun zv zh zq => c_X9_isSuit w (xl x) a1 h zv zh zq) (fun v1 h2 => ?_)
  refine s_if_ne hG dX9_slips_5 (tgt := 10) (by decide) (fun q3 => ?_) (fun q3 => ?_)
  · refine s_iconst hG dX9_slips_8 ic_m1 ?_
    exact s_iret hG hT dX9_slips_9
  · refine s_aload_n hG dX9_slips_10 0 rfl rfl ?_
    refine s_iload_n hG dX9_slips_11 1 rfl rfl ?_
    refine s_callV (a := 1) (c := 9) (inj := inI) (As := [.int a1]) (st := []) rfl hG hE dX9_slips_12 hR (by decide) vv_X9_159 (by decide) rfl kM_1 rfl (Nat.le_of_ble_eq_true rfl) rfl (fun zv zh zq => c_X9_manyOf w (xl x) a1 h2 zv zh zq) (fun v4 h5 => ?_)
    refine s_iconst hG dX9_slips_15 ic_4 ?_
    refine s_icmp_le hG dX9_slips_16 (tgt := 22) (by decide) (fun q6 => ?_) (fun q6 => ?_)
    · refine s_aload_n hG dX9_slips_22 0 rfl rfl ?_
      refine s_iload_n hG dX9_slips_23 1 rfl rfl ?_
      refine s_callV (a := 1) (c := 9) (inj := inV) (As := [.int a1]) (st := []) rfl hG hE dX9_slips_24 hR (by decide) vv_X9_313 (by decide) rfl kM_1 rfl (Nat.le_of_ble_eq_true rfl) rfl (fun zv zh zq => c_X9_findBest w (xl x) a1 h5 zv zh zq) (fun v7 h8 => ?_)
      refine s_iconst hG dX9_slips_27 ic_0 ?_
      refine s_istore_n (lv' := [(2, .int 0), (0, .ref (gB (GM w) + 1)), (1, .int a1)]) hG dX9_slips_28 rfl (by decide) rfl ?_
      refine s_iconst hG dX9_slips_29 ic_0 ?_
      refine s_istore_n (lv' := [(3, .int 0), (2, .int 0), (0, .ref (gB (GM w) + 1)), (1, .int a1)]) hG dX9_slips_30 rfl (by decide) rfl ?_
      refine s_lv [2, 3, 1, 0] rfl ?_
      exact s_X9_slips_L31 w hx hG hE hR hT FU a1 0 0 h8
    · refine s_bipush hG dX9_slips_19 bc_m9 ?_
      exact s_iret hG hT dX9_slips_21

theorem c_X9_slips (w : WT) (l : Launch) (a1 : Int32) (h : Hp) : ∀ v h', m_X9_slips a1 h = some (v, h') → MetM l (GM w) yX9_slips cX9_slips 6 (some .int) 13 [.ref (gB (GM w) + 1), .int a1] h (inI v) h' :=
  met_of (by decide) (lokM w) (Nat.le_of_ble_eq_true rfl) (fun x hx hG hE hR hT => s_X9_slips w hx hG hE hR hT a1 h)
def m_X9_sums_L32 (t0 : Int32) (t1 : Int32) (t2 : Nat) (h : Hp) : Option (Unit × Hp) := ck (inb t1 240) (hb (si h t2 t1.toNatClampNeg t0) fun h2 => some ((), h2))
set_option maxRecDepth 20000 in
set_option maxHeartbeats 4000000 in
theorem s_X9_sums_L32 (w : WT) {x : CT} {l : Launch} (hx : xl x = l) (hG : Gd x cX9_sums 4 RX9) (hE : Ge x (GM w)) (hR : Rm x 1) (hT : Rt x none) (t0 : Int32) (t1 : Int32) (t2 : Nat) (q2 : LM t2 = (20, 240)) (h : Hp) : Sn x 4 (gA (GM w)) (0, 0) (ζM x (GM w) inV) (gW (GM w) h) 32 [] [.int t0, .int t1, .ref (gB (GM w) + t2)] (m_X9_sums_L32 t0 t1 t2 h) := by
  unfold m_X9_sums_L32
  refine s_ck (fun q1 => ?_)
  refine s_iast hG hE dX9_sums_32 q2 q1 (fun h2 => ?_)
  exact s_vret hG hT dX9_sums_33

def m_X9_sums (a1 : Int32) (a2 : Int32) (a3 : Int32) (h : Hp) : Option (Unit × Hp) := ck (inb ((10 * a1) + 1) 240) (hb (si h 6 ((10 * a1) + 1).toNatClampNeg a2) fun h2 => if a2 ≤ a3 then m_X9_sums_L32 a2 ((10 * a1) + 3) 6 h2 else m_X9_sums_L32 a3 ((10 * a1) + 3) 6 h2)
set_option maxRecDepth 20000 in
set_option maxHeartbeats 4000000 in
theorem s_X9_sums (w : WT) {x : CT} {l : Launch} (hx : xl x = l) (hG : Gd x cX9_sums 4 RX9) (hE : Ge x (GM w)) (hR : Rm x 1) (hT : Rt x none) (a1 : Int32) (a2 : Int32) (a3 : Int32) (h : Hp) : Sn x 4 (gA (GM w)) (0, 0) (ζM x (GM w) inV) (gW (GM w) h) 0 [(0, .ref (gB (GM w) + 1)), (1, .int a1), (2, .int a2), (3, .int a3)] [] (m_X9_sums a1 a2 a3 h) := by
  unfold m_X9_sums
  refine s_aload_n hG dX9_sums_0 0 rfl rfl ?_
  refine s_getS hG hE dX9_sums_1 fl_X9_29 rfl kM_1 fM_9_6 (nzM kM_6) ?_
  refine s_bipush hG dX9_sums_4 bc_10 ?_
  refine s_iload_n hG dX9_sums_6 1 rfl rfl ?_
  refine s_imul hG dX9_sums_7 ?_
  refine s_iconst hG dX9_sums_8 ic_1 ?_
  refine s_iadd hG dX9_sums_9 ?_
  refine s_iload_n hG dX9_sums_10 2 rfl rfl ?_
  refine s_ck (fun q1 => ?_)
  refine s_iast hG hE dX9_sums_11 kM_6 q1 (fun h2 => ?_)
  refine s_aload_n hG dX9_sums_12 0 rfl rfl ?_
  refine s_getS hG hE dX9_sums_13 fl_X9_29 rfl kM_1 fM_9_6 (nzM kM_6) ?_
  refine s_bipush hG dX9_sums_16 bc_10 ?_
  refine s_iload_n hG dX9_sums_18 1 rfl rfl ?_
  refine s_imul hG dX9_sums_19 ?_
  refine s_iconst hG dX9_sums_20 ic_3 ?_
  refine s_iadd hG dX9_sums_21 ?_
  refine s_iload_n hG dX9_sums_22 3 rfl rfl ?_
  refine s_iload_n hG dX9_sums_23 2 rfl rfl ?_
  refine s_icmp_ge hG dX9_sums_24 (tgt := 31) (by decide) (fun q3 => ?_) (fun q3 => ?_)
  · refine s_iload_n hG dX9_sums_31 2 rfl rfl ?_
    refine s_lv [] rfl ?_
    exact s_X9_sums_L32 w hx hG hE hR hT a2 ((10 * a1) + 3) 6 kM_6 h2
  · refine s_iload_n hG dX9_sums_27 3 rfl rfl ?_
    refine s_goto (tgt := 32) hG dX9_sums_28 (by decide) ?_
    refine s_lv [] rfl ?_
    exact s_X9_sums_L32 w hx hG hE hR hT a3 ((10 * a1) + 3) 6 kM_6 h2

theorem c_X9_sums (w : WT) (l : Launch) (a1 : Int32) (a2 : Int32) (a3 : Int32) (h : Hp) : ∀ v h', m_X9_sums a1 a2 a3 h = some (v, h') → MetM l (GM w) yX9_sums cX9_sums 4 none 1 [.ref (gB (GM w) + 1), .int a1, .int a2, .int a3] h (inV v) h' :=
  met_of (by decide) (lokM w) (Nat.le_of_ble_eq_true rfl) (fun x hx hG hE hR hT => s_X9_sums w hx hG hE hR hT a1 a2 a3 h)
theorem vv_X9_316 : VV RX9 316 yX9_sums cX9_sums 4 none 3 := ⟨⟨gw_at 1475 (by decide +kernel) (by decide +kernel), gw_at 1478 (by decide +kernel) (by decide +kernel), gw_at 96 (by decide +kernel) (by decide +kernel), by decide +kernel, by decide⟩, gw_at 1477 (by decide +kernel) (by decide +kernel), gw_at 75 (by decide +kernel) (by decide +kernel)⟩
def m_X9_wise_L81 (k33 : Int32 → Int32 → Int32 → Int32 → Int64 → Int32 → Hp → Option (Int32 × Hp)) (a1 : Int32) (a2 : Int32) (a3 : Int32) (a7 : Int32) (a8 : Int64) (h : Hp) : Option (Int32 × Hp) := vb (a7 + 1) fun v1 => k33 a1 a2 a3 a7 a8 v1 h
set_option maxRecDepth 20000 in
set_option maxHeartbeats 4000000 in
theorem s_X9_wise_L81 (w : WT) {x : CT} {l : Launch} (hx : xl x = l) (hG : Gd x cX9_wise 10 RX9) (hE : Ge x (GM w)) (hR : Rm x 12) (hT : Rt x (some .int)) (k33 : Int32 → Int32 → Int32 → Int32 → Int64 → Int32 → Hp → Option (Int32 × Hp)) (hk33 : ∀ (a1 : Int32) (a2 : Int32) (a3 : Int32) (a4 : Int32) (a5 : Int64) (a7 : Int32) (h : Hp), Sn x 10 (gA (GM w)) (0, 0) (ζM x (GM w) inI) (gW (GM w) h) 33 [(0, .ref (gB (GM w) + 1)), (1, .int a1), (2, .int a2), (3, .int a3), (4, .int a4), (5, .long a5), (7, .int a7)] [] (k33 a1 a2 a3 a4 a5 a7 h)) (a1 : Int32) (a2 : Int32) (a3 : Int32) (a7 : Int32) (a8 : Int64) (h : Hp) : Sn x 10 (gA (GM w)) (0, 0) (ζM x (GM w) inI) (gW (GM w) h) 81 [(0, .ref (gB (GM w) + 1)), (1, .int a1), (2, .int a2), (3, .int a3), (7, .int a7), (8, .long a8)] [] (m_X9_wise_L81 k33 a1 a2 a3 a7 a8 h) := by
  unfold m_X9_wise_L81
  refine s_iload hG dX9_wise_81 4 rfl ?_
  refine s_istore (lv' := [(4, .int a7), (0, .ref (gB (GM w) + 1)), (1, .int a1), (2, .int a2), (3, .int a3), (7, .int a7), (8, .long a8)]) hG dX9_wise_83 (by decide) rfl ?_
  refine s_lload hG dX9_wise_85 6 rfl ?_
  refine s_lstore (lv' := [(5, .long a8), (4, .int a7), (0, .ref (gB (GM w) + 1)), (1, .int a1), (2, .int a2), (3, .int a3), (7, .int a7), (8, .long a8)]) hG dX9_wise_87 (by decide) rfl ?_
  refine s_iinc hG dX9_wise_89 6 rfl ic_1 (by decide) (fun v1 => [(7, .int v1), (5, .long a8), (4, .int a7), (0, .ref (gB (GM w) + 1)), (1, .int a1), (2, .int a2), (3, .int a3), (8, .long a8)]) (fun _ => rfl) (fun v1 => ?_)
  refine s_goto (tgt := 33) hG dX9_wise_92 (by decide) ?_
  refine s_lv [3, 4, 5, 6, 2, 1, 0] rfl ?_
  exact hk33 a1 a2 a3 a7 a8 v1 h

def m_X9_wise_L33 : Nat → Int32 → Int32 → Int32 → Int32 → Int64 → Int32 → Hp → Option (Int32 × Hp)
  | 0, _, _, _, _, _, _, _ => none
  | n + 1, a1, a2, a3, a4, a5, a7, h => if 100 ≤ a7 then cb (m_X9_sums a1 a2 a3 h) fun _ h3 => some (a4, h3) else cb (m_X9_sums a1 a7 a3 h) fun _ h5 => cb (m_X9_lawFor a1 h5) fun v6 h7 => cb (m_X9_get a1 0 h7) fun v8 h9 => cb (m_X9_trulyPaid v6 v8 h9) fun v10 h11 => if a4 ≤ 0 then m_X9_wise_L81 (m_X9_wise_L33 n) a1 a2 a3 a7 v10 h11 else if a5 < v10 then m_X9_wise_L81 (m_X9_wise_L33 n) a1 a2 a3 a7 v10 h11 else vb (a7 + 1) fun v14 => m_X9_wise_L33 n a1 a2 a3 a4 a5 v14 h11
set_option maxRecDepth 20000 in
set_option maxHeartbeats 4000000 in
theorem s_X9_wise_L33 (w : WT) {x : CT} {l : Launch} (hx : xl x = l) (hG : Gd x cX9_wise 10 RX9) (hE : Ge x (GM w)) (hR : Rm x 12) (hT : Rt x (some .int)) : ∀ (n : Nat) (a1 : Int32) (a2 : Int32) (a3 : Int32) (a4 : Int32) (a5 : Int64) (a7 : Int32) (h : Hp), Sn x 10 (gA (GM w)) (0, 0) (ζM x (GM w) inI) (gW (GM w) h) 33 [(0, .ref (gB (GM w) + 1)), (1, .int a1), (2, .int a2), (3, .int a3), (4, .int a4), (5, .long a5), (7, .int a7)] [] (m_X9_wise_L33 n a1 a2 a3 a4 a5 a7 h) := by
  intro n
  induction n with
  | zero => intro a1 a2 a3 a4 a5 a7 h; exact s_none
  | succ n ih =>
    intro a1 a2 a3 a4 a5 a7 h
    rw [m_X9_wise_L33]
    refine s_iload hG dX9_wise_33 6 rfl ?_
    refine s_bipush hG dX9_wise_35 bc_100 ?_
    refine s_icmp_ge hG dX9_wise_37 (tgt := 95) (by decide) (fun q1 => ?_) (fun q1 => ?_)
    · refine s_aload_n hG dX9_wise_95 0 rfl rfl ?_
      refine s_iload_n hG dX9_wise_96 1 rfl rfl ?_
      refine s_iload_n hG dX9_wise_97 2 rfl rfl ?_
      refine s_iload_n hG dX9_wise_98 3 rfl rfl ?_
      refine s_callV (a := 1) (c := 9) (inj := inV) (As := [.int a1, .int a2, .int a3]) (st := []) rfl hG hE dX9_wise_99 hR (by decide) vv_X9_316 (by decide) rfl kM_1 rfl (Nat.le_of_ble_eq_true rfl) rfl (fun zv zh zq => c_X9_sums w (xl x) a1 a2 a3 h zv zh zq) (fun v2 h3 => ?_)
      refine s_iload hG dX9_wise_102 4 rfl ?_
      exact s_iret hG hT dX9_wise_104
    · refine s_aload_n hG dX9_wise_40 0 rfl rfl ?_
      refine s_iload_n hG dX9_wise_41 1 rfl rfl ?_
      refine s_iload hG dX9_wise_42 6 rfl ?_
      refine s_iload_n hG dX9_wise_44 3 rfl rfl ?_
      refine s_callV (a := 1) (c := 9) (inj := inV) (As := [.int a1, .int a7, .int a3]) (st := []) rfl hG hE dX9_wise_45 hR (by decide) vv_X9_316 (by decide) rfl kM_1 rfl (Nat.le_of_ble_eq_true rfl) rfl (fun zv zh zq => c_X9_sums w (xl x) a1 a7 a3 h zv zh zq) (fun v4 h5 => ?_)
      refine s_aload_n hG dX9_wise_48 0 rfl rfl ?_
      refine s_aload_n hG dX9_wise_49 0 rfl rfl ?_
      refine s_iload_n hG dX9_wise_50 1 rfl rfl ?_
      refine s_callV (a := 1) (c := 9) (inj := inI) (As := [.int a1]) (st := [.ref (gB (GM w) + 1)]) rfl hG hE dX9_wise_51 hR (by decide) vv_X9_260 (by decide) rfl kM_1 rfl (Nat.le_of_ble_eq_true rfl) rfl (fun zv zh zq => c_X9_lawFor w (xl x) a1 h5 zv zh zq) (fun v6 h7 => ?_)
      refine s_aload_n hG dX9_wise_54 0 rfl rfl ?_
      refine s_iload_n hG dX9_wise_55 1 rfl rfl ?_
      refine s_iconst hG dX9_wise_56 ic_0 ?_
      refine s_callV (a := 1) (c := 9) (inj := inI) (As := [.int a1, .int 0]) (st := [.int v6, .ref (gB (GM w) + 1)]) rfl hG hE dX9_wise_57 hR (by decide) vv_X9_148 (by decide) rfl kM_1 rfl (Nat.le_of_ble_eq_true rfl) rfl (fun zv zh zq => c_X9_get w (xl x) a1 0 h7 zv zh zq) (fun v8 h9 => ?_)
      refine s_callV (a := 1) (c := 9) (inj := inL) (As := [.int v6, .int v8]) (st := []) rfl hG hE dX9_wise_60 hR (by decide) vv_X9_287 (by decide) rfl kM_1 rfl (Nat.le_of_ble_eq_true rfl) rfl (fun zv zh zq => c_X9_trulyPaid w (xl x) v6 v8 h9 zv zh zq) (fun v10 h11 => ?_)
      refine s_lstore (lv' := [(8, .long v10), (0, .ref (gB (GM w) + 1)), (1, .int a1), (2, .int a2), (3, .int a3), (4, .int a4), (5, .long a5), (7, .int a7)]) hG dX9_wise_63 (by decide) rfl ?_
      refine s_iload hG dX9_wise_65 5 rfl ?_
      refine s_if_le hG dX9_wise_67 (tgt := 81) (by decide) (fun q12 => ?_) (fun q12 => ?_)
      · refine s_lv [1, 2, 3, 4, 7, 0] rfl ?_
        exact s_X9_wise_L81 w hx hG hE hR hT (m_X9_wise_L33 n) ih a1 a2 a3 a7 v10 h11
      · refine s_lload hG dX9_wise_70 0 rfl ?_
        refine s_lload hG dX9_wise_72 6 rfl ?_
        refine s_lcmp_gt hG dX9_wise_74 dX9_wise_75 (tgt := 81) (by decide) (fun q13 => ?_) (fun q13 => ?_)
        · refine s_lv [1, 2, 3, 4, 7, 0] rfl ?_
          exact s_X9_wise_L81 w hx hG hE hR hT (m_X9_wise_L33 n) ih a1 a2 a3 a7 v10 h11
        · refine s_goto (tgt := 89) hG dX9_wise_78 (by decide) ?_
          refine s_iinc hG dX9_wise_89 7 rfl ic_1 (by decide) (fun v14 => [(7, .int v14), (8, .long v10), (0, .ref (gB (GM w) + 1)), (1, .int a1), (2, .int a2), (3, .int a3), (4, .int a4), (5, .long a5)]) (fun _ => rfl) (fun v14 => ?_)
          refine s_goto (tgt := 33) hG dX9_wise_92 (by decide) ?_
          refine s_lv [2, 3, 4, 5, 6, 7, 0] rfl ?_
          exact ih a1 a2 a3 a4 a5 v14 h11

def m_X9_wise (a1 : Int32) (h : Hp) : Option (Int32 × Hp) := cb (m_X9_isClaim a1 h) fun v1 h2 => if v1 = 0 then some ((-1), h2) else cb (m_X9_get a1 1 h2) fun v4 h5 => cb (m_X9_get a1 3 h5) fun v6 h7 => m_X9_wise_L33 FU a1 v4 v6 0 0 1 h7
set_option maxRecDepth 20000 in
set_option maxHeartbeats 4000000 in
theorem s_X9_wise (w : WT) {x : CT} {l : Launch} (hx : xl x = l) (hG : Gd x cX9_wise 10 RX9) (hE : Ge x (GM w)) (hR : Rm x 12) (hT : Rt x (some .int)) (a1 : Int32) (h : Hp) : Sn x 10 (gA (GM w)) (0, 0) (ζM x (GM w) inI) (gW (GM w) h) 0 [(0, .ref (gB (GM w) + 1)), (1, .int a1)] [] (m_X9_wise a1 h) := by
  unfold m_X9_wise
  refine s_aload_n hG dX9_wise_0 0 rfl rfl ?_
  refine s_iload_n hG dX9_wise_1 1 rfl rfl ?_
  refine s_callV (a := 1) (c := 9) (inj := inI) (As := [.int a1]) (st := []) rfl hG hE dX9_wise_2 hR (by decide) vv_X9_163 (by decide) rfl kM_1 rfl (Nat.le_of_ble_eq_true rfl) rfl (fun zv zh zq => c_X9_isClaim w (xl x) a1 h zv zh zq) (fun v1 h2 => ?_)
  refine s_if_ne hG dX9_wise_5 (tgt := 10) (by decide) (fun q3 => ?_) (fun q3 => ?_)
  · refine s_iconst hG dX9_wise_8 ic_m1 ?_
    exact s_iret hG hT dX9_wise_9
  · refine s_aload_n hG dX9_wise_10 0 rfl rfl ?_
    refine s_iload_n hG dX9_wise_11 1 rfl rfl ?_
    refine s_iconst hG dX9_wise_12 ic_1 ?_
    refine s_callV (a := 1) (c := 9) (inj := inI) (As := [.int a1, .int 1]) (st := []) rfl hG hE dX9_wise_13 hR (by decide) vv_X9_148 (by decide) rfl kM_1 rfl (Nat.le_of_ble_eq_true rfl) rfl (fun zv zh zq => c_X9_get w (xl x) a1 1 h2 zv zh zq) (fun v4 h5 => ?_)
    refine s_istore_n (lv' := [(2, .int v4), (0, .ref (gB (GM w) + 1)), (1, .int a1)]) hG dX9_wise_16 rfl (by decide) rfl ?_
    refine s_aload_n hG dX9_wise_17 1 rfl rfl ?_
    refine s_iload_n hG dX9_wise_18 2 rfl rfl ?_
    refine s_iconst hG dX9_wise_19 ic_3 ?_
    refine s_callV (a := 1) (c := 9) (inj := inI) (As := [.int a1, .int 3]) (st := []) rfl hG hE dX9_wise_20 hR (by decide) vv_X9_148 (by decide) rfl kM_1 rfl (Nat.le_of_ble_eq_true rfl) rfl (fun zv zh zq => c_X9_get w (xl x) a1 3 h5 zv zh zq) (fun v6 h7 => ?_)
    refine s_istore_n (lv' := [(3, .int v6), (2, .int v4), (0, .ref (gB (GM w) + 1)), (1, .int a1)]) hG dX9_wise_23 rfl (by decide) rfl ?_
    refine s_iconst hG dX9_wise_24 ic_0 ?_
    refine s_istore (lv' := [(4, .int 0), (3, .int v6), (2, .int v4), (0, .ref (gB (GM w) + 1)), (1, .int a1)]) hG dX9_wise_25 (by decide) rfl ?_
    refine s_lconst hG dX9_wise_27 lc_0 ?_
    refine s_lstore (lv' := [(5, .long 0), (4, .int 0), (3, .int v6), (2, .int v4), (0, .ref (gB (GM w) + 1)), (1, .int a1)]) hG dX9_wise_28 (by decide) rfl ?_
    refine s_iconst hG dX9_wise_30 ic_1 ?_
    refine s_istore (lv' := [(7, .int 1), (5, .long 0), (4, .int 0), (3, .int v6), (2, .int v4), (0, .ref (gB (GM w) + 1)), (1, .int a1)]) hG dX9_wise_31 (by decide) rfl ?_
    refine s_lv [5, 6, 4, 3, 2, 1, 0] rfl ?_
    exact s_X9_wise_L33 w hx hG hE hR hT FU a1 v4 v6 0 0 1 h7

theorem c_X9_wise (w : WT) (l : Launch) (a1 : Int32) (h : Hp) : ∀ v h', m_X9_wise a1 h = some (v, h') → MetM l (GM w) yX9_wise cX9_wise 10 (some .int) 12 [.ref (gB (GM w) + 1), .int a1] h (inI v) h' :=
  met_of (by decide) (lokM w) (Nat.le_of_ble_eq_true rfl) (fun x hx hG hE hR hT => s_X9_wise w hx hG hE hR hT a1 h)
theorem wd_1483 : Jvm.Cond.constantLong RX9 320 (-9223372036854775807) ∈ GW := gw_at 1483 (by decide +kernel) (by decide +kernel)
def m_X9_off (a1 : Int32) (a2 : Int32) (a3 : Int32) (h : Hp) : Option (Int64 × Hp) := cb (m_X9_isSuit a1 h) fun v1 h2 => if v1 = 0 then some ((-9223372036854775808), h2) else cb (m_X9_isSuit a2 h2) fun v4 h5 => if v4 = 0 then some ((-9223372036854775808), h5) else cb (m_X9_in a3 0 1 h5) fun v7 h8 => if v7 = 0 then some ((-9223372036854775808), h8) else ck (inb a1 5) (ck (inb a2 5) (if (gi h8 3 a1.toNatClampNeg) = (gi h8 4 a2.toNatClampNeg) then if (gi h8 4 a1.toNatClampNeg) = (gi h8 3 a2.toNatClampNeg) then cb (m_X9_lineOf (gi h8 5 a1.toNatClampNeg) h8) fun v14 h15 => cb (m_X9_lineOf (gi h15 5 a2.toNatClampNeg) h15) fun v16 h17 => cb (m_X9_trulyPaid (gi h17 5 a1.toNatClampNeg) a1 h17) fun v18 h19 => cb (m_X9_trulyPaid (gi h19 5 a2.toNatClampNeg) a2 h19) fun v20 h21 => cb (m_X9_lowest ((v18 * v16) - (v20 * v14)) (v14 * v16) a3 h21) fun v22 h23 => some (v22, h23) else some ((-9223372036854775807), h8) else some ((-9223372036854775807), h8)))
set_option maxRecDepth 20000 in
set_option maxHeartbeats 4000000 in
theorem s_X9_off (w : WT) {x : CT} {l : Launch} (hx : xl x = l) (hG : Gd x cX9_off 8 RX9) (hE : Ge x (GM w)) (hR : Rm x 12) (hT : Rt x (some .long)) (a1 : Int32) (a2 : Int32) (a3 : Int32) (h : Hp) : Sn x 8 (gA (GM w)) (0, 0) (ζM x (GM w) inL) (gW (GM w) h) 0 [(0, .ref (gB (GM w) + 1)), (1, .int a1), (2, .int a2), (3, .int a3)] [] (m_X9_off a1 a2 a3 h) := by
  unfold m_X9_off
  refine s_aload_n hG dX9_off_0 0 rfl rfl ?_
  refine s_iload_n hG dX9_off_1 1 rfl rfl ?_
  refine s_callV (a := 1) (c := 9) (inj := inI) (As := [.int a1]) (st := []) rfl hG hE dX9_off_2 hR (by decide) vv_X9_156 (by decide) rfl kM_1 rfl (Nat.le_of_ble_eq_true rfl) rfl (fun zv zh zq => c_X9_isSuit w (xl x) a1 h zv zh zq) (fun v1 h2 => ?_)
  refine s_if_eq hG dX9_off_5 (tgt := 26) (by decide) (fun q3 => ?_) (fun q3 => ?_)
  · refine s_ldc2 hG dX9_off_26 wd_1394 ?_
    exact s_lret hG hT dX9_off_29
  · refine s_aload_n hG dX9_off_8 0 rfl rfl ?_
    refine s_iload_n hG dX9_off_9 2 rfl rfl ?_
    refine s_callV (a := 1) (c := 9) (inj := inI) (As := [.int a2]) (st := []) rfl hG hE dX9_off_10 hR (by decide) vv_X9_156 (by decide) rfl kM_1 rfl (Nat.le_of_ble_eq_true rfl) rfl (fun zv zh zq => c_X9_isSuit w (xl x) a2 h2 zv zh zq) (fun v4 h5 => ?_)
    refine s_if_eq hG dX9_off_13 (tgt := 26) (by decide) (fun q6 => ?_) (fun q6 => ?_)
    · refine s_ldc2 hG dX9_off_26 wd_1394 ?_
      exact s_lret hG hT dX9_off_29
    · refine s_aload_n hG dX9_off_16 0 rfl rfl ?_
      refine s_iload_n hG dX9_off_17 3 rfl rfl ?_
      refine s_iconst hG dX9_off_18 ic_0 ?_
      refine s_iconst hG dX9_off_19 ic_1 ?_
      refine s_callV (a := 1) (c := 9) (inj := inI) (As := [.int a3, .int 0, .int 1]) (st := []) rfl hG hE dX9_off_20 hR (by decide) vv_X9_144 (by decide) rfl kM_1 rfl (Nat.le_of_ble_eq_true rfl) rfl (fun zv zh zq => c_X9_in w (xl x) a3 0 1 h5 zv zh zq) (fun v7 h8 => ?_)
      refine s_if_ne hG dX9_off_23 (tgt := 30) (by decide) (fun q9 => ?_) (fun q9 => ?_)
      · refine s_ldc2 hG dX9_off_26 wd_1394 ?_
        exact s_lret hG hT dX9_off_29
      · refine s_aload_n hG dX9_off_30 0 rfl rfl ?_
        refine s_getS hG hE dX9_off_31 fl_X9_20 rfl kM_1 fM_9_3 (nzM kM_3) ?_
        refine s_iload_n hG dX9_off_34 1 rfl rfl ?_
        refine s_ck (fun q10 => ?_)
        refine s_iald hG hE dX9_off_35 kM_3 q10 ?_
        refine s_aload_n hG dX9_off_36 0 rfl rfl ?_
        refine s_getS hG hE dX9_off_37 fl_X9_23 rfl kM_1 fM_9_4 (nzM kM_4) ?_
        refine s_iload_n hG dX9_off_40 2 rfl rfl ?_
        refine s_ck (fun q11 => ?_)
        refine s_iald hG hE dX9_off_41 kM_4 q11 ?_
        refine s_icmp_ne hG dX9_off_42 (tgt := 60) (by decide) (fun q12 => ?_) (fun q12 => ?_)
        · refine s_aload_n hG dX9_off_45 0 rfl rfl ?_
          refine s_getS hG hE dX9_off_46 fl_X9_23 rfl kM_1 fM_9_4 (nzM kM_4) ?_
          refine s_iload_n hG dX9_off_49 1 rfl rfl ?_
          refine s_iald hG hE dX9_off_50 kM_4 q10 ?_
          refine s_aload_n hG dX9_off_51 0 rfl rfl ?_
          refine s_getS hG hE dX9_off_52 fl_X9_20 rfl kM_1 fM_9_3 (nzM kM_3) ?_
          refine s_iload_n hG dX9_off_55 2 rfl rfl ?_
          refine s_iald hG hE dX9_off_56 kM_3 q11 ?_
          refine s_icmp_eq hG dX9_off_57 (tgt := 64) (by decide) (fun q13 => ?_) (fun q13 => ?_)
          · refine s_aload_n hG dX9_off_64 0 rfl rfl ?_
            refine s_aload_n hG dX9_off_65 0 rfl rfl ?_
            refine s_getS hG hE dX9_off_66 fl_X9_26 rfl kM_1 fM_9_5 (nzM kM_5) ?_
            refine s_iload_n hG dX9_off_69 1 rfl rfl ?_
            refine s_iald hG hE dX9_off_70 kM_5 q10 ?_
            refine s_callV (a := 1) (c := 9) (inj := inL) (As := [.int (gi h8 5 a1.toNatClampNeg)]) (st := []) rfl hG hE dX9_off_71 hR (by decide) vv_X9_269 (by decide) rfl kM_1 rfl (Nat.le_of_ble_eq_true rfl) rfl (fun zv zh zq => c_X9_lineOf w (xl x) (gi h8 5 a1.toNatClampNeg) h8 zv zh zq) (fun v14 h15 => ?_)
            refine s_lstore (lv' := [(4, .long v14), (0, .ref (gB (GM w) + 1)), (1, .int a1), (2, .int a2), (3, .int a3)]) hG dX9_off_74 (by decide) rfl ?_
            refine s_aload_n hG dX9_off_76 1 rfl rfl ?_
            refine s_aload_n hG dX9_off_77 1 rfl rfl ?_
            refine s_getS hG hE dX9_off_78 fl_X9_26 rfl kM_1 fM_9_5 (nzM kM_5) ?_
            refine s_iload_n hG dX9_off_81 3 rfl rfl ?_
            refine s_iald hG hE dX9_off_82 kM_5 q11 ?_
            refine s_callV (a := 1) (c := 9) (inj := inL) (As := [.int (gi h15 5 a2.toNatClampNeg)]) (st := []) rfl hG hE dX9_off_83 hR (by decide) vv_X9_269 (by decide) rfl kM_1 rfl (Nat.le_of_ble_eq_true rfl) rfl (fun zv zh zq => c_X9_lineOf w (xl x) (gi h15 5 a2.toNatClampNeg) h15 zv zh zq) (fun v16 h17 => ?_)
            refine s_lstore (lv' := [(6, .long v16), (4, .long v14), (0, .ref (gB (GM w) + 1)), (1, .int a1), (2, .int a2), (3, .int a3)]) hG dX9_off_86 (by decide) rfl ?_
            refine s_aload_n hG dX9_off_88 2 rfl rfl ?_
            refine s_aload_n hG dX9_off_89 2 rfl rfl ?_
            refine s_aload_n hG dX9_off_90 2 rfl rfl ?_
            refine s_getS hG hE dX9_off_91 fl_X9_26 rfl kM_1 fM_9_5 (nzM kM_5) ?_
            refine s_iload_n hG dX9_off_94 3 rfl rfl ?_
            refine s_iald hG hE dX9_off_95 kM_5 q10 ?_
            refine s_iload_n hG dX9_off_96 3 rfl rfl ?_
            refine s_callV (a := 1) (c := 9) (inj := inL) (As := [.int (gi h17 5 a1.toNatClampNeg), .int a1]) (st := [.ref (gB (GM w) + 1)]) rfl hG hE dX9_off_97 hR (by decide) vv_X9_287 (by decide) rfl kM_1 rfl (Nat.le_of_ble_eq_true rfl) rfl (fun zv zh zq => c_X9_trulyPaid w (xl x) (gi h17 5 a1.toNatClampNeg) a1 h17 zv zh zq) (fun v18 h19 => ?_)
            refine s_lload hG dX9_off_100 0 rfl ?_
            refine s_lmul hG dX9_off_102 ?_
            refine s_aload_n hG dX9_off_103 2 rfl rfl ?_
            refine s_aload_n hG dX9_off_104 2 rfl rfl ?_
            refine s_getS hG hE dX9_off_105 fl_X9_26 rfl kM_1 fM_9_5 (nzM kM_5) ?_
            refine s_iload_n hG dX9_off_108 4 rfl rfl ?_
            refine s_iald hG hE dX9_off_109 kM_5 q11 ?_
            refine s_iload_n hG dX9_off_110 4 rfl rfl ?_
            refine s_callV (a := 1) (c := 9) (inj := inL) (As := [.int (gi h19 5 a2.toNatClampNeg), .int a2]) (st := [.long (v18 * v16), .ref (gB (GM w) + 1)]) rfl hG hE dX9_off_111 hR (by decide) vv_X9_287 (by decide) rfl kM_1 rfl (Nat.le_of_ble_eq_true rfl) rfl (fun zv zh zq => c_X9_trulyPaid w (xl x) (gi h19 5 a2.toNatClampNeg) a2 h19 zv zh zq) (fun v20 h21 => ?_)
            refine s_lload hG dX9_off_114 1 rfl ?_
            refine s_lmul hG dX9_off_116 ?_
            refine s_lsub hG dX9_off_117 ?_
            refine s_lload hG dX9_off_118 1 rfl ?_
            refine s_lload hG dX9_off_120 0 rfl ?_
            refine s_lmul hG dX9_off_122 ?_
            refine s_iload_n hG dX9_off_123 5 rfl rfl ?_
            refine s_callV (a := 1) (c := 9) (inj := inL) (As := [.long ((v18 * v16) - (v20 * v14)), .long (v14 * v16), .int a3]) (st := []) rfl hG hE dX9_off_124 hR (by decide) vv_X9_283 (by decide) rfl kM_1 rfl (Nat.le_of_ble_eq_true rfl) rfl (fun zv zh zq => c_X9_lowest w (xl x) ((v18 * v16) - (v20 * v14)) (v14 * v16) a3 h21 zv zh zq) (fun v22 h23 => ?_)
            exact s_lret hG hT dX9_off_127
          · refine s_ldc2 hG dX9_off_60 wd_1483 ?_
            exact s_lret hG hT dX9_off_63
        · refine s_ldc2 hG dX9_off_60 wd_1483 ?_
          exact s_lret hG hT dX9_off_63

theorem c_X9_off (w : WT) (l : Launch) (a1 : Int32) (a2 : Int32) (a3 : Int32) (h : Hp) : ∀ v h', m_X9_off a1 a2 a3 h = some (v, h') → MetM l (GM w) yX9_off cX9_off 8 (some .long) 12 [.ref (gB (GM w) + 1), .int a1, .int a2, .int a3] h (inL v) h' :=
  met_of (by decide) (lokM w) (Nat.le_of_ble_eq_true rfl) (fun x hx hG hE hR hT => s_X9_off w hx hG hE hR hT a1 a2 a3 h)
def m_X9_beside (a1 : Int32) (a2 : Int32) (a3 : Int32) (h : Hp) : Option (Int32 × Hp) := cb (m_X9_isClaim a1 h) fun v1 h2 => if v1 = 0 then some ((-1), h2) else cb (m_X9_isLaw a2 h2) fun v4 h5 => if v4 = 0 then some ((-1), h5) else cb (m_X9_isLaw a3 h5) fun v7 h8 => if v7 = 0 then some ((-1), h8) else cb (m_X9_comesTo a2 a1 h8) fun v10 h11 => cb (m_X9_comesTo a3 a1 h11) fun v12 h13 => some ((10 * v10) + v12, h13)
set_option maxRecDepth 20000 in
set_option maxHeartbeats 4000000 in
theorem s_X9_beside (w : WT) {x : CT} {l : Launch} (hx : xl x = l) (hG : Gd x cX9_beside 4 RX9) (hE : Ge x (GM w)) (hR : Rm x 10) (hT : Rt x (some .int)) (a1 : Int32) (a2 : Int32) (a3 : Int32) (h : Hp) : Sn x 4 (gA (GM w)) (0, 0) (ζM x (GM w) inI) (gW (GM w) h) 0 [(0, .ref (gB (GM w) + 1)), (1, .int a1), (2, .int a2), (3, .int a3)] [] (m_X9_beside a1 a2 a3 h) := by
  unfold m_X9_beside
  refine s_aload_n hG dX9_beside_0 0 rfl rfl ?_
  refine s_iload_n hG dX9_beside_1 1 rfl rfl ?_
  refine s_callV (a := 1) (c := 9) (inj := inI) (As := [.int a1]) (st := []) rfl hG hE dX9_beside_2 hR (by decide) vv_X9_163 (by decide) rfl kM_1 rfl (Nat.le_of_ble_eq_true rfl) rfl (fun zv zh zq => c_X9_isClaim w (xl x) a1 h zv zh zq) (fun v1 h2 => ?_)
  refine s_if_eq hG dX9_beside_5 (tgt := 43) (by decide) (fun q3 => ?_) (fun q3 => ?_)
  · refine s_iconst hG dX9_beside_43 ic_m1 ?_
    exact s_iret hG hT dX9_beside_44
  · refine s_aload_n hG dX9_beside_8 0 rfl rfl ?_
    refine s_iload_n hG dX9_beside_9 2 rfl rfl ?_
    refine s_callV (a := 1) (c := 9) (inj := inI) (As := [.int a2]) (st := []) rfl hG hE dX9_beside_10 hR (by decide) vv_X9_152 (by decide) rfl kM_1 rfl (Nat.le_of_ble_eq_true rfl) rfl (fun zv zh zq => c_X9_isLaw w (xl x) a2 h2 zv zh zq) (fun v4 h5 => ?_)
    refine s_if_eq hG dX9_beside_13 (tgt := 43) (by decide) (fun q6 => ?_) (fun q6 => ?_)
    · refine s_iconst hG dX9_beside_43 ic_m1 ?_
      exact s_iret hG hT dX9_beside_44
    · refine s_aload_n hG dX9_beside_16 0 rfl rfl ?_
      refine s_iload_n hG dX9_beside_17 3 rfl rfl ?_
      refine s_callV (a := 1) (c := 9) (inj := inI) (As := [.int a3]) (st := []) rfl hG hE dX9_beside_18 hR (by decide) vv_X9_152 (by decide) rfl kM_1 rfl (Nat.le_of_ble_eq_true rfl) rfl (fun zv zh zq => c_X9_isLaw w (xl x) a3 h5 zv zh zq) (fun v7 h8 => ?_)
      refine s_if_eq hG dX9_beside_21 (tgt := 43) (by decide) (fun q9 => ?_) (fun q9 => ?_)
      · refine s_iconst hG dX9_beside_43 ic_m1 ?_
        exact s_iret hG hT dX9_beside_44
      · refine s_bipush hG dX9_beside_24 bc_10 ?_
        refine s_aload_n hG dX9_beside_26 0 rfl rfl ?_
        refine s_iload_n hG dX9_beside_27 2 rfl rfl ?_
        refine s_iload_n hG dX9_beside_28 1 rfl rfl ?_
        refine s_callV (a := 1) (c := 9) (inj := inI) (As := [.int a2, .int a1]) (st := [.int 10]) rfl hG hE dX9_beside_29 hR (by decide) vv_X9_263 (by decide) rfl kM_1 rfl (Nat.le_of_ble_eq_true rfl) rfl (fun zv zh zq => c_X9_comesTo w (xl x) a2 a1 h8 zv zh zq) (fun v10 h11 => ?_)
        refine s_imul hG dX9_beside_32 ?_
        refine s_aload_n hG dX9_beside_33 0 rfl rfl ?_
        refine s_iload_n hG dX9_beside_34 3 rfl rfl ?_
        refine s_iload_n hG dX9_beside_35 1 rfl rfl ?_
        refine s_callV (a := 1) (c := 9) (inj := inI) (As := [.int a3, .int a1]) (st := [.int (10 * v10)]) rfl hG hE dX9_beside_36 hR (by decide) vv_X9_263 (by decide) rfl kM_1 rfl (Nat.le_of_ble_eq_true rfl) rfl (fun zv zh zq => c_X9_comesTo w (xl x) a3 a1 h11 zv zh zq) (fun v12 h13 => ?_)
        refine s_iadd hG dX9_beside_39 ?_
        refine s_goto (tgt := 44) hG dX9_beside_40 (by decide) ?_
        exact s_iret hG hT dX9_beside_44

theorem c_X9_beside (w : WT) (l : Launch) (a1 : Int32) (a2 : Int32) (a3 : Int32) (h : Hp) : ∀ v h', m_X9_beside a1 a2 a3 h = some (v, h') → MetM l (GM w) yX9_beside cX9_beside 4 (some .int) 10 [.ref (gB (GM w) + 1), .int a1, .int a2, .int a3] h (inI v) h' :=
  met_of (by decide) (lokM w) (Nat.le_of_ble_eq_true rfl) (fun x hx hG hE hR hT => s_X9_beside w hx hG hE hR hT a1 a2 a3 h)
def m_X9_ways_L95 (a1 : Int32) (a4 : Int32) (a5 : Int32) (a6 : Int32) (h : Hp) : Option (Int32 × Hp) := cb (m_X9_sums a1 a4 a5 h) fun _ h2 => some (a6, h2)
set_option maxRecDepth 20000 in
set_option maxHeartbeats 4000000 in
theorem s_X9_ways_L95 (w : WT) {x : CT} {l : Launch} (hx : xl x = l) (hG : Gd x cX9_ways 8 RX9) (hE : Ge x (GM w)) (hR : Rm x 10) (hT : Rt x (some .int)) (a1 : Int32) (a4 : Int32) (a5 : Int32) (a6 : Int32) (h : Hp) : Sn x 8 (gA (GM w)) (0, 0) (ζM x (GM w) inI) (gW (GM w) h) 95 [(0, .ref (gB (GM w) + 1)), (1, .int a1), (4, .int a4), (5, .int a5), (6, .int a6)] [] (m_X9_ways_L95 a1 a4 a5 a6 h) := by
  unfold m_X9_ways_L95
  refine s_aload_n hG dX9_ways_95 0 rfl rfl ?_
  refine s_iload_n hG dX9_ways_96 1 rfl rfl ?_
  refine s_iload hG dX9_ways_97 2 rfl ?_
  refine s_iload hG dX9_ways_99 3 rfl ?_
  refine s_callV (a := 1) (c := 9) (inj := inV) (As := [.int a1, .int a4, .int a5]) (st := []) rfl hG hE dX9_ways_101 hR (by decide) vv_X9_316 (by decide) rfl kM_1 rfl (Nat.le_of_ble_eq_true rfl) rfl (fun zv zh zq => c_X9_sums w (xl x) a1 a4 a5 h zv zh zq) (fun v1 h2 => ?_)
  refine s_iload hG dX9_ways_104 4 rfl ?_
  exact s_iret hG hT dX9_ways_106

def m_X9_ways_L49 : Nat → Int32 → Int32 → Int32 → Int32 → Int32 → Int32 → Int32 → Hp → Option (Int32 × Hp)
  | 0, _, _, _, _, _, _, _, _ => none
  | n + 1, a1, a2, a3, a4, a5, a6, a7, h => if 100 ≤ a7 then m_X9_ways_L95 a1 a4 a5 a6 h else if 0 ≤ a6 then m_X9_ways_L95 a1 a4 a5 a6 h else cb (m_X9_sums a1 a7 a5 h) fun _ h4 => cb (m_X9_comesTo a2 a1 h4) fun v5 h6 => cb (m_X9_comesTo a3 a1 h6) fun v7 h8 => if v5 = v7 then vb (a7 + 1) fun v10 => m_X9_ways_L49 n a1 a2 a3 a4 a5 a6 v10 h8 else vb (a7 + 1) fun v11 => m_X9_ways_L49 n a1 a2 a3 a4 a5 a7 v11 h8
set_option maxRecDepth 20000 in
set_option maxHeartbeats 4000000 in
theorem s_X9_ways_L49 (w : WT) {x : CT} {l : Launch} (hx : xl x = l) (hG : Gd x cX9_ways 8 RX9) (hE : Ge x (GM w)) (hR : Rm x 10) (hT : Rt x (some .int)) : ∀ (n : Nat) (a1 : Int32) (a2 : Int32) (a3 : Int32) (a4 : Int32) (a5 : Int32) (a6 : Int32) (a7 : Int32) (h : Hp), Sn x 8 (gA (GM w)) (0, 0) (ζM x (GM w) inI) (gW (GM w) h) 49 [(0, .ref (gB (GM w) + 1)), (1, .int a1), (2, .int a2), (3, .int a3), (4, .int a4), (5, .int a5), (6, .int a6), (7, .int a7)] [] (m_X9_ways_L49 n a1 a2 a3 a4 a5 a6 a7 h) := by
  intro n
  induction n with
  | zero => intro a1 a2 a3 a4 a5 a6 a7 h; exact s_none
  | succ n ih =>
    intro a1 a2 a3 a4 a5 a6 a7 h
    rw [m_X9_ways_L49]
    refine s_iload hG dX9_ways_49 7 rfl ?_
    refine s_bipush hG dX9_ways_51 bc_100 ?_
    refine s_icmp_ge hG dX9_ways_53 (tgt := 95) (by decide) (fun q1 => ?_) (fun q1 => ?_)
    · refine s_lv [0, 1, 4, 5, 6] rfl ?_
      exact s_X9_ways_L95 w hx hG hE hR hT a1 a4 a5 a6 h
    · refine s_iload hG dX9_ways_56 6 rfl ?_
      refine s_if_ge hG dX9_ways_58 (tgt := 95) (by decide) (fun q2 => ?_) (fun q2 => ?_)
      · refine s_lv [0, 1, 4, 5, 6] rfl ?_
        exact s_X9_ways_L95 w hx hG hE hR hT a1 a4 a5 a6 h
      · refine s_aload_n hG dX9_ways_61 0 rfl rfl ?_
        refine s_iload_n hG dX9_ways_62 1 rfl rfl ?_
        refine s_iload hG dX9_ways_63 7 rfl ?_
        refine s_iload hG dX9_ways_65 5 rfl ?_
        refine s_callV (a := 1) (c := 9) (inj := inV) (As := [.int a1, .int a7, .int a5]) (st := []) rfl hG hE dX9_ways_67 hR (by decide) vv_X9_316 (by decide) rfl kM_1 rfl (Nat.le_of_ble_eq_true rfl) rfl (fun zv zh zq => c_X9_sums w (xl x) a1 a7 a5 h zv zh zq) (fun v3 h4 => ?_)
        refine s_aload_n hG dX9_ways_70 0 rfl rfl ?_
        refine s_iload_n hG dX9_ways_71 2 rfl rfl ?_
        refine s_iload_n hG dX9_ways_72 1 rfl rfl ?_
        refine s_callV (a := 1) (c := 9) (inj := inI) (As := [.int a2, .int a1]) (st := []) rfl hG hE dX9_ways_73 hR (by decide) vv_X9_263 (by decide) rfl kM_1 rfl (Nat.le_of_ble_eq_true rfl) rfl (fun zv zh zq => c_X9_comesTo w (xl x) a2 a1 h4 zv zh zq) (fun v5 h6 => ?_)
        refine s_aload_n hG dX9_ways_76 0 rfl rfl ?_
        refine s_iload_n hG dX9_ways_77 3 rfl rfl ?_
        refine s_iload_n hG dX9_ways_78 1 rfl rfl ?_
        refine s_callV (a := 1) (c := 9) (inj := inI) (As := [.int a3, .int a1]) (st := [.int v5]) rfl hG hE dX9_ways_79 hR (by decide) vv_X9_263 (by decide) rfl kM_1 rfl (Nat.le_of_ble_eq_true rfl) rfl (fun zv zh zq => c_X9_comesTo w (xl x) a3 a1 h6 zv zh zq) (fun v7 h8 => ?_)
        refine s_icmp_eq hG dX9_ways_82 (tgt := 89) (by decide) (fun q9 => ?_) (fun q9 => ?_)
        · refine s_iinc hG dX9_ways_89 7 rfl ic_1 (by decide) (fun v10 => [(7, .int v10), (0, .ref (gB (GM w) + 1)), (1, .int a1), (2, .int a2), (3, .int a3), (4, .int a4), (5, .int a5), (6, .int a6)]) (fun _ => rfl) (fun v10 => ?_)
          refine s_goto (tgt := 49) hG dX9_ways_92 (by decide) ?_
          refine s_lv [1, 2, 3, 4, 5, 6, 7, 0] rfl ?_
          exact ih a1 a2 a3 a4 a5 a6 v10 h8
        · refine s_iload hG dX9_ways_85 7 rfl ?_
          refine s_istore (lv' := [(6, .int a7), (0, .ref (gB (GM w) + 1)), (1, .int a1), (2, .int a2), (3, .int a3), (4, .int a4), (5, .int a5), (7, .int a7)]) hG dX9_ways_87 (by decide) rfl ?_
          refine s_iinc hG dX9_ways_89 7 rfl ic_1 (by decide) (fun v11 => [(7, .int v11), (6, .int a7), (0, .ref (gB (GM w) + 1)), (1, .int a1), (2, .int a2), (3, .int a3), (4, .int a4), (5, .int a5)]) (fun _ => rfl) (fun v11 => ?_)
          refine s_goto (tgt := 49) hG dX9_ways_92 (by decide) ?_
          refine s_lv [2, 3, 4, 5, 6, 7, 1, 0] rfl ?_
          exact ih a1 a2 a3 a4 a5 a7 v11 h8

def m_X9_ways (a1 : Int32) (a2 : Int32) (a3 : Int32) (h : Hp) : Option (Int32 × Hp) := cb (m_X9_isClaim a1 h) fun v1 h2 => if v1 = 0 then some ((-1), h2) else cb (m_X9_isLaw a2 h2) fun v4 h5 => if v4 = 0 then some ((-1), h5) else cb (m_X9_isLaw a3 h5) fun v7 h8 => if v7 = 0 then some ((-1), h8) else cb (m_X9_get a1 1 h8) fun v10 h11 => cb (m_X9_get a1 3 h11) fun v12 h13 => m_X9_ways_L49 FU a1 a2 a3 v10 v12 (-5) 1 h13
set_option maxRecDepth 20000 in
set_option maxHeartbeats 4000000 in
theorem s_X9_ways (w : WT) {x : CT} {l : Launch} (hx : xl x = l) (hG : Gd x cX9_ways 8 RX9) (hE : Ge x (GM w)) (hR : Rm x 10) (hT : Rt x (some .int)) (a1 : Int32) (a2 : Int32) (a3 : Int32) (h : Hp) : Sn x 8 (gA (GM w)) (0, 0) (ζM x (GM w) inI) (gW (GM w) h) 0 [(0, .ref (gB (GM w) + 1)), (1, .int a1), (2, .int a2), (3, .int a3)] [] (m_X9_ways a1 a2 a3 h) := by
  unfold m_X9_ways
  refine s_aload_n hG dX9_ways_0 0 rfl rfl ?_
  refine s_iload_n hG dX9_ways_1 1 rfl rfl ?_
  refine s_callV (a := 1) (c := 9) (inj := inI) (As := [.int a1]) (st := []) rfl hG hE dX9_ways_2 hR (by decide) vv_X9_163 (by decide) rfl kM_1 rfl (Nat.le_of_ble_eq_true rfl) rfl (fun zv zh zq => c_X9_isClaim w (xl x) a1 h zv zh zq) (fun v1 h2 => ?_)
  refine s_if_eq hG dX9_ways_5 (tgt := 24) (by decide) (fun q3 => ?_) (fun q3 => ?_)
  · refine s_iconst hG dX9_ways_24 ic_m1 ?_
    exact s_iret hG hT dX9_ways_25
  · refine s_aload_n hG dX9_ways_8 0 rfl rfl ?_
    refine s_iload_n hG dX9_ways_9 2 rfl rfl ?_
    refine s_callV (a := 1) (c := 9) (inj := inI) (As := [.int a2]) (st := []) rfl hG hE dX9_ways_10 hR (by decide) vv_X9_152 (by decide) rfl kM_1 rfl (Nat.le_of_ble_eq_true rfl) rfl (fun zv zh zq => c_X9_isLaw w (xl x) a2 h2 zv zh zq) (fun v4 h5 => ?_)
    refine s_if_eq hG dX9_ways_13 (tgt := 24) (by decide) (fun q6 => ?_) (fun q6 => ?_)
    · refine s_iconst hG dX9_ways_24 ic_m1 ?_
      exact s_iret hG hT dX9_ways_25
    · refine s_aload_n hG dX9_ways_16 0 rfl rfl ?_
      refine s_iload_n hG dX9_ways_17 3 rfl rfl ?_
      refine s_callV (a := 1) (c := 9) (inj := inI) (As := [.int a3]) (st := []) rfl hG hE dX9_ways_18 hR (by decide) vv_X9_152 (by decide) rfl kM_1 rfl (Nat.le_of_ble_eq_true rfl) rfl (fun zv zh zq => c_X9_isLaw w (xl x) a3 h5 zv zh zq) (fun v7 h8 => ?_)
      refine s_if_ne hG dX9_ways_21 (tgt := 26) (by decide) (fun q9 => ?_) (fun q9 => ?_)
      · refine s_iconst hG dX9_ways_24 ic_m1 ?_
        exact s_iret hG hT dX9_ways_25
      · refine s_aload_n hG dX9_ways_26 0 rfl rfl ?_
        refine s_iload_n hG dX9_ways_27 1 rfl rfl ?_
        refine s_iconst hG dX9_ways_28 ic_1 ?_
        refine s_callV (a := 1) (c := 9) (inj := inI) (As := [.int a1, .int 1]) (st := []) rfl hG hE dX9_ways_29 hR (by decide) vv_X9_148 (by decide) rfl kM_1 rfl (Nat.le_of_ble_eq_true rfl) rfl (fun zv zh zq => c_X9_get w (xl x) a1 1 h8 zv zh zq) (fun v10 h11 => ?_)
        refine s_istore (lv' := [(4, .int v10), (0, .ref (gB (GM w) + 1)), (1, .int a1), (2, .int a2), (3, .int a3)]) hG dX9_ways_32 (by decide) rfl ?_
        refine s_aload_n hG dX9_ways_34 1 rfl rfl ?_
        refine s_iload_n hG dX9_ways_35 2 rfl rfl ?_
        refine s_iconst hG dX9_ways_36 ic_3 ?_
        refine s_callV (a := 1) (c := 9) (inj := inI) (As := [.int a1, .int 3]) (st := []) rfl hG hE dX9_ways_37 hR (by decide) vv_X9_148 (by decide) rfl kM_1 rfl (Nat.le_of_ble_eq_true rfl) rfl (fun zv zh zq => c_X9_get w (xl x) a1 3 h11 zv zh zq) (fun v12 h13 => ?_)
        refine s_istore (lv' := [(5, .int v12), (4, .int v10), (0, .ref (gB (GM w) + 1)), (1, .int a1), (2, .int a2), (3, .int a3)]) hG dX9_ways_40 (by decide) rfl ?_
        refine s_bipush hG dX9_ways_42 bc_m5 ?_
        refine s_istore (lv' := [(6, .int (-5)), (5, .int v12), (4, .int v10), (0, .ref (gB (GM w) + 1)), (1, .int a1), (2, .int a2), (3, .int a3)]) hG dX9_ways_44 (by decide) rfl ?_
        refine s_iconst hG dX9_ways_46 ic_1 ?_
        refine s_istore (lv' := [(7, .int 1), (6, .int (-5)), (5, .int v12), (4, .int v10), (0, .ref (gB (GM w) + 1)), (1, .int a1), (2, .int a2), (3, .int a3)]) hG dX9_ways_47 (by decide) rfl ?_
        refine s_lv [4, 5, 6, 7, 3, 2, 1, 0] rfl ?_
        exact s_X9_ways_L49 w hx hG hE hR hT FU a1 a2 a3 v10 v12 (-5) 1 h13

theorem c_X9_ways (w : WT) (l : Launch) (a1 : Int32) (a2 : Int32) (a3 : Int32) (h : Hp) : ∀ v h', m_X9_ways a1 a2 a3 h = some (v, h') → MetM l (GM w) yX9_ways cX9_ways 8 (some .int) 10 [.ref (gB (GM w) + 1), .int a1, .int a2, .int a3] h (inI v) h' :=
  met_of (by decide) (lokM w) (Nat.le_of_ble_eq_true rfl) (fun x hx hG hE hR hT => s_X9_ways w hx hG hE hR hT a1 a2 a3 h)
def m_X9_isTape (a1 : Int32) (h : Hp) : Option (Int32 × Hp) := cb (m_X9_in a1 0 5 h) fun v1 h2 => ck (isb v1) (some (v1, h2))
set_option maxRecDepth 20000 in
set_option maxHeartbeats 4000000 in
theorem s_X9_isTape (w : WT) {x : CT} {l : Launch} (hx : xl x = l) (hG : Gd x cX9_isTape 2 RX9) (hE : Ge x (GM w)) (hR : Rm x 2) (hT : Rt x (some .boolean)) (a1 : Int32) (h : Hp) : Sn x 2 (gA (GM w)) (0, 0) (ζM x (GM w) inI) (gW (GM w) h) 0 [(0, .ref (gB (GM w) + 1)), (1, .int a1)] [] (m_X9_isTape a1 h) := by
  unfold m_X9_isTape
  refine s_aload_n hG dX9_isTape_0 0 rfl rfl ?_
  refine s_iload_n hG dX9_isTape_1 1 rfl rfl ?_
  refine s_iconst hG dX9_isTape_2 ic_0 ?_
  refine s_iconst hG dX9_isTape_3 ic_5 ?_
  refine s_callV (a := 1) (c := 9) (inj := inI) (As := [.int a1, .int 0, .int 5]) (st := []) rfl hG hE dX9_isTape_4 hR (by decide) vv_X9_144 (by decide) rfl kM_1 rfl (Nat.le_of_ble_eq_true rfl) rfl (fun zv zh zq => c_X9_in w (xl x) a1 0 5 h zv zh zq) (fun v1 h2 => ?_)
  refine s_ck (fun q3 => ?_)
  exact s_zret hG hT (isb_cases q3) dX9_isTape_7

theorem c_X9_isTape (w : WT) (l : Launch) (a1 : Int32) (h : Hp) : ∀ v h', m_X9_isTape a1 h = some (v, h') → MetM l (GM w) yX9_isTape cX9_isTape 2 (some .boolean) 2 [.ref (gB (GM w) + 1), .int a1] h (inI v) h' :=
  met_of (by decide) (lokM w) (Nat.le_of_ble_eq_true rfl) (fun x hx hG hE hR hT => s_X9_isTape w hx hG hE hR hT a1 h)
theorem fl_X9_131 : FL RX9 131 9 39 := ⟨by decide, by decide, gw_at 1106 (by decide +kernel) (by decide +kernel), rfl⟩
theorem fM_9_39 : SM 1 39 = some 26 := rfl
theorem kM_26 : LM 26 = (20, 6) := rfl
theorem fl_X9_134 : FL RX9 134 9 40 := ⟨by decide, by decide, gw_at 1107 (by decide +kernel) (by decide +kernel), rfl⟩
theorem fM_9_40 : SM 1 40 = some 27 := rfl
theorem kM_27 : LM 27 = (20, 6) := rfl
theorem fl_X9_137 : FL RX9 137 9 41 := ⟨by decide, by decide, gw_at 1108 (by decide +kernel) (by decide +kernel), rfl⟩
theorem fM_9_41 : SM 1 41 = some 28 := rfl
theorem kM_28 : LM 28 = (21, 360) := rfl
theorem vv_X9_322 : VV RX9 322 yX9_isTape cX9_isTape 2 (some .boolean) 1 := ⟨⟨gw_at 1496 (by decide +kernel) (by decide +kernel), gw_at 1499 (by decide +kernel) (by decide +kernel), gw_at 96 (by decide +kernel) (by decide +kernel), by decide +kernel, by decide⟩, gw_at 1498 (by decide +kernel) (by decide +kernel), gw_at 76 (by decide +kernel) (by decide +kernel)⟩
def m_X9_judge_L87 (a4 : Int32) (h : Hp) : Option (Int32 × Hp) := some (100 + a4, h)
set_option maxRecDepth 20000 in
set_option maxHeartbeats 4000000 in
theorem s_X9_judge_L87 (w : WT) {x : CT} {l : Launch} (hx : xl x = l) (hG : Gd x cX9_judge 6 RX9) (hE : Ge x (GM w)) (hR : Rm x 10) (hT : Rt x (some .int)) (a4 : Int32) (h : Hp) : Sn x 6 (gA (GM w)) (0, 0) (ζM x (GM w) inI) (gW (GM w) h) 87 [(4, .int a4)] [] (m_X9_judge_L87 a4 h) := by
  unfold m_X9_judge_L87
  refine s_bipush hG dX9_judge_87 bc_100 ?_
  refine s_iload hG dX9_judge_89 0 rfl ?_
  refine s_iadd hG dX9_judge_91 ?_
  exact s_iret hG hT dX9_judge_92

def m_X9_judge_L36 : Nat → Int32 → Int32 → Int32 → Int32 → Int32 → Hp → Option (Int32 × Hp)
  | 0, _, _, _, _, _, _ => none
  | n + 1, a1, a2, a3, a4, a5, h => if (gi h 1 1) ≤ a5 then some ((-5), h) else cb (m_X9_get a5 0 h) fun v2 h3 => if v2 = a3 then ck (inb a1 6) (if (gi h3 26 a1.toNatClampNeg) < 0 then m_X9_judge_L87 a4 h3 else if a2 < 0 then m_X9_judge_L87 a4 h3 else if a2 ≤ (((gi h3 27 a1.toNatClampNeg) - a4) - 1) then ck (inb (((60 * a1) + a2) + a4) 360) (ck (inb a3 5) (cb (m_X9_comesTo (gi h3 5 a3.toNatClampNeg) a5 h3) fun v11 h12 => if (gl h3 28 (((60 * a1) + a2) + a4).toNatClampNeg) = v11.toInt64 then vb (a4 + 1) fun v14 => vb (a5 + 1) fun v15 => m_X9_judge_L36 n a1 a2 a3 v14 v15 h12 else some (a4, h12))) else m_X9_judge_L87 a4 h3) else vb (a5 + 1) fun v16 => m_X9_judge_L36 n a1 a2 a3 a4 v16 h3
set_option maxRecDepth 20000 in
set_option maxHeartbeats 4000000 in
theorem s_X9_judge_L36 (w : WT) {x : CT} {l : Launch} (hx : xl x = l) (hG : Gd x cX9_judge 6 RX9) (hE : Ge x (GM w)) (hR : Rm x 10) (hT : Rt x (some .int)) : ∀ (n : Nat) (a1 : Int32) (a2 : Int32) (a3 : Int32) (a4 : Int32) (a5 : Int32) (h : Hp), Sn x 6 (gA (GM w)) (0, 0) (ζM x (GM w) inI) (gW (GM w) h) 36 [(0, .ref (gB (GM w) + 1)), (1, .int a1), (2, .int a2), (3, .int a3), (4, .int a4), (5, .int a5)] [] (m_X9_judge_L36 n a1 a2 a3 a4 a5 h) := by
  intro n
  induction n with
  | zero => intro a1 a2 a3 a4 a5 h; exact s_none
  | succ n ih =>
    intro a1 a2 a3 a4 a5 h
    rw [m_X9_judge_L36]
    refine s_iload hG dX9_judge_36 5 rfl ?_
    refine s_aload_n hG dX9_judge_38 0 rfl rfl ?_
    refine s_getI hG hE dX9_judge_39 fl_X9_13 rfl kM_1 ?_
    refine s_icmp_ge hG dX9_judge_42 (tgt := 136) (by decide) (fun q1 => ?_) (fun q1 => ?_)
    · refine s_bipush hG dX9_judge_136 bc_m5 ?_
      exact s_iret hG hT dX9_judge_138
    · refine s_aload_n hG dX9_judge_45 0 rfl rfl ?_
      refine s_iload hG dX9_judge_46 5 rfl ?_
      refine s_iconst hG dX9_judge_48 ic_0 ?_
      refine s_callV (a := 1) (c := 9) (inj := inI) (As := [.int a5, .int 0]) (st := []) rfl hG hE dX9_judge_49 hR (by decide) vv_X9_148 (by decide) rfl kM_1 rfl (Nat.le_of_ble_eq_true rfl) rfl (fun zv zh zq => c_X9_get w (xl x) a5 0 h zv zh zq) (fun v2 h3 => ?_)
      refine s_iload_n hG dX9_judge_52 3 rfl rfl ?_
      refine s_icmp_eq hG dX9_judge_53 (tgt := 59) (by decide) (fun q4 => ?_) (fun q4 => ?_)
      · refine s_aload_n hG dX9_judge_59 0 rfl rfl ?_
        refine s_getS hG hE dX9_judge_60 fl_X9_131 rfl kM_1 fM_9_39 (nzM kM_26) ?_
        refine s_iload_n hG dX9_judge_63 1 rfl rfl ?_
        refine s_ck (fun q5 => ?_)
        refine s_iald hG hE dX9_judge_64 kM_26 q5 ?_
        refine s_if_lt hG dX9_judge_65 (tgt := 87) (by decide) (fun q6 => ?_) (fun q6 => ?_)
        · refine s_lv [4] rfl ?_
          exact s_X9_judge_L87 w hx hG hE hR hT a4 h3
        · refine s_iload_n hG dX9_judge_68 2 rfl rfl ?_
          refine s_if_lt hG dX9_judge_69 (tgt := 87) (by decide) (fun q7 => ?_) (fun q7 => ?_)
          · refine s_lv [4] rfl ?_
            exact s_X9_judge_L87 w hx hG hE hR hT a4 h3
          · refine s_iload_n hG dX9_judge_72 2 rfl rfl ?_
            refine s_aload_n hG dX9_judge_73 0 rfl rfl ?_
            refine s_getS hG hE dX9_judge_74 fl_X9_134 rfl kM_1 fM_9_40 (nzM kM_27) ?_
            refine s_iload_n hG dX9_judge_77 1 rfl rfl ?_
            refine s_iald hG hE dX9_judge_78 kM_27 q5 ?_
            refine s_iload hG dX9_judge_79 4 rfl ?_
            refine s_isub hG dX9_judge_81 ?_
            refine s_iconst hG dX9_judge_82 ic_1 ?_
            refine s_isub hG dX9_judge_83 ?_
            refine s_icmp_le hG dX9_judge_84 (tgt := 93) (by decide) (fun q8 => ?_) (fun q8 => ?_)
            · refine s_aload_n hG dX9_judge_93 0 rfl rfl ?_
              refine s_getS hG hE dX9_judge_94 fl_X9_137 rfl kM_1 fM_9_41 (nzM kM_28) ?_
              refine s_bipush hG dX9_judge_97 bc_60 ?_
              refine s_iload_n hG dX9_judge_99 1 rfl rfl ?_
              refine s_imul hG dX9_judge_100 ?_
              refine s_iload_n hG dX9_judge_101 2 rfl rfl ?_
              refine s_iadd hG dX9_judge_102 ?_
              refine s_iload hG dX9_judge_103 4 rfl ?_
              refine s_iadd hG dX9_judge_105 ?_
              refine s_ck (fun q9 => ?_)
              refine s_lald hG hE dX9_judge_106 kM_28 q9 ?_
              refine s_aload_n hG dX9_judge_107 0 rfl rfl ?_
              refine s_aload_n hG dX9_judge_108 0 rfl rfl ?_
              refine s_getS hG hE dX9_judge_109 fl_X9_26 rfl kM_1 fM_9_5 (nzM kM_5) ?_
              refine s_iload_n hG dX9_judge_112 3 rfl rfl ?_
              refine s_ck (fun q10 => ?_)
              refine s_iald hG hE dX9_judge_113 kM_5 q10 ?_
              refine s_iload hG dX9_judge_114 5 rfl ?_
              refine s_callV (a := 1) (c := 9) (inj := inI) (As := [.int (gi h3 5 a3.toNatClampNeg), .int a5]) (st := [.long (gl h3 28 (((60 * a1) + a2) + a4).toNatClampNeg)]) rfl hG hE dX9_judge_116 hR (by decide) vv_X9_263 (by decide) rfl kM_1 rfl (Nat.le_of_ble_eq_true rfl) rfl (fun zv zh zq => c_X9_comesTo w (xl x) (gi h3 5 a3.toNatClampNeg) a5 h3 zv zh zq) (fun v11 h12 => ?_)
              refine s_i2l hG dX9_judge_119 ?_
              refine s_lcmp_eq hG dX9_judge_120 dX9_judge_121 (tgt := 127) (by decide) (fun q13 => ?_) (fun q13 => ?_)
              · refine s_iinc hG dX9_judge_127 4 rfl ic_1 (by decide) (fun v14 => [(4, .int v14), (0, .ref (gB (GM w) + 1)), (1, .int a1), (2, .int a2), (3, .int a3), (5, .int a5)]) (fun _ => rfl) (fun v14 => ?_)
                refine s_iinc hG dX9_judge_130 5 rfl ic_1 (by decide) (fun v15 => [(5, .int v15), (4, .int v14), (0, .ref (gB (GM w) + 1)), (1, .int a1), (2, .int a2), (3, .int a3)]) (fun _ => rfl) (fun v15 => ?_)
                refine s_goto (tgt := 36) hG dX9_judge_133 (by decide) ?_
                refine s_lv [2, 3, 4, 5, 1, 0] rfl ?_
                exact ih a1 a2 a3 v14 v15 h12
              · refine s_iload hG dX9_judge_124 4 rfl ?_
                exact s_iret hG hT dX9_judge_126
            · refine s_lv [4] rfl ?_
              exact s_X9_judge_L87 w hx hG hE hR hT a4 h3
      · refine s_goto (tgt := 130) hG dX9_judge_56 (by decide) ?_
        refine s_iinc hG dX9_judge_130 5 rfl ic_1 (by decide) (fun v16 => [(5, .int v16), (0, .ref (gB (GM w) + 1)), (1, .int a1), (2, .int a2), (3, .int a3), (4, .int a4)]) (fun _ => rfl) (fun v16 => ?_)
        refine s_goto (tgt := 36) hG dX9_judge_133 (by decide) ?_
        refine s_lv [1, 2, 3, 4, 5, 0] rfl ?_
        exact ih a1 a2 a3 a4 v16 h3

def m_X9_judge (a1 : Int32) (a2 : Int32) (a3 : Int32) (h : Hp) : Option (Int32 × Hp) := cb (m_X9_isTape a1 h) fun v1 h2 => if v1 = 0 then some ((-1), h2) else cb (m_X9_isSuit a3 h2) fun v4 h5 => if v4 = 0 then some ((-1), h5) else ck (inb a1 6) (if (gi h5 26 a1.toNatClampNeg) ≤ 0 then m_X9_judge_L36 FU a1 a2 a3 0 0 h5 else some ((-12), h5))
set_option maxRecDepth 20000 in
set_option maxHeartbeats 4000000 in
theorem s_X9_judge (w : WT) {x : CT} {l : Launch} (hx : xl x = l) (hG : Gd x cX9_judge 6 RX9) (hE : Ge x (GM w)) (hR : Rm x 10) (hT : Rt x (some .int)) (a1 : Int32) (a2 : Int32) (a3 : Int32) (h : Hp) : Sn x 6 (gA (GM w)) (0, 0) (ζM x (GM w) inI) (gW (GM w) h) 0 [(0, .ref (gB (GM w) + 1)), (1, .int a1), (2, .int a2), (3, .int a3)] [] (m_X9_judge a1 a2 a3 h) := by
  unfold m_X9_judge
  refine s_aload_n hG dX9_judge_0 0 rfl rfl ?_
  refine s_iload_n hG dX9_judge_1 1 rfl rfl ?_
  refine s_callV (a := 1) (c := 9) (inj := inI) (As := [.int a1]) (st := []) rfl hG hE dX9_judge_2 hR (by decide) vv_X9_322 (by decide) rfl kM_1 rfl (Nat.le_of_ble_eq_true rfl) rfl (fun zv zh zq => c_X9_isTape w (xl x) a1 h zv zh zq) (fun v1 h2 => ?_)
  refine s_if_eq hG dX9_judge_5 (tgt := 16) (by decide) (fun q3 => ?_) (fun q3 => ?_)
  · refine s_iconst hG dX9_judge_16 ic_m1 ?_
    exact s_iret hG hT dX9_judge_17
  · refine s_aload_n hG dX9_judge_8 0 rfl rfl ?_
    refine s_iload_n hG dX9_judge_9 3 rfl rfl ?_
    refine s_callV (a := 1) (c := 9) (inj := inI) (As := [.int a3]) (st := []) rfl hG hE dX9_judge_10 hR (by decide) vv_X9_156 (by decide) rfl kM_1 rfl (Nat.le_of_ble_eq_true rfl) rfl (fun zv zh zq => c_X9_isSuit w (xl x) a3 h2 zv zh zq) (fun v4 h5 => ?_)
    refine s_if_ne hG dX9_judge_13 (tgt := 18) (by decide) (fun q6 => ?_) (fun q6 => ?_)
    · refine s_iconst hG dX9_judge_16 ic_m1 ?_
      exact s_iret hG hT dX9_judge_17
    · refine s_aload_n hG dX9_judge_18 0 rfl rfl ?_
      refine s_getS hG hE dX9_judge_19 fl_X9_131 rfl kM_1 fM_9_39 (nzM kM_26) ?_
      refine s_iload_n hG dX9_judge_22 1 rfl rfl ?_
      refine s_ck (fun q7 => ?_)
      refine s_iald hG hE dX9_judge_23 kM_26 q7 ?_
      refine s_if_le hG dX9_judge_24 (tgt := 30) (by decide) (fun q8 => ?_) (fun q8 => ?_)
      · refine s_iconst hG dX9_judge_30 ic_0 ?_
        refine s_istore (lv' := [(4, .int 0), (0, .ref (gB (GM w) + 1)), (1, .int a1), (2, .int a2), (3, .int a3)]) hG dX9_judge_31 (by decide) rfl ?_
        refine s_iconst hG dX9_judge_33 ic_0 ?_
        refine s_istore (lv' := [(5, .int 0), (4, .int 0), (0, .ref (gB (GM w) + 1)), (1, .int a1), (2, .int a2), (3, .int a3)]) hG dX9_judge_34 (by decide) rfl ?_
        refine s_lv [2, 3, 4, 5, 1, 0] rfl ?_
        exact s_X9_judge_L36 w hx hG hE hR hT FU a1 a2 a3 0 0 h5
      · refine s_bipush hG dX9_judge_27 bc_m12 ?_
        exact s_iret hG hT dX9_judge_29

theorem c_X9_judge (w : WT) (l : Launch) (a1 : Int32) (a2 : Int32) (a3 : Int32) (h : Hp) : ∀ v h', m_X9_judge a1 a2 a3 h = some (v, h') → MetM l (GM w) yX9_judge cX9_judge 6 (some .int) 10 [.ref (gB (GM w) + 1), .int a1, .int a2, .int a3] h (inI v) h' :=
  met_of (by decide) (lokM w) (Nat.le_of_ble_eq_true rfl) (fun x hx hG hE hR hT => s_X9_judge w hx hG hE hR hT a1 a2 a3 h)
theorem fl_X9_122 : FL RX9 122 9 36 := ⟨by decide, by decide, gw_at 1103 (by decide +kernel) (by decide +kernel), rfl⟩
theorem fl_X9_119 : FL RX9 119 9 35 := ⟨by decide, by decide, gw_at 1102 (by decide +kernel) (by decide +kernel), rfl⟩
theorem fM_9_35 : SM 1 35 = some 24 := rfl
theorem kM_24 : LM 24 = (20, 8) := rfl
theorem sc_240 : (Int16.ofInt 240).toInt32 = 240 := by decide
theorem fl_X9_116 : FL RX9 116 9 34 := ⟨by decide, by decide, gw_at 1101 (by decide +kernel) (by decide +kernel), rfl⟩
theorem fM_9_34 : SM 1 34 = some 23 := rfl
theorem kM_23 : LM 23 = (20, 240) := rfl
def m_X9_image_L29 : Nat → Int32 → Hp → Option (Int32 × Hp)
  | 0, _, _ => none
  | n + 1, a1, h => if 8 ≤ a1 then hb (si h 1 36 (gi h 1 1)) fun h2 => some (gi h2 1 1, h2) else ck (inb a1 8) (hb (si h 24 a1.toNatClampNeg (gi h 2 a1.toNatClampNeg)) fun h4 => vb (a1 + 1) fun v5 => m_X9_image_L29 n v5 h4)
set_option maxRecDepth 20000 in
set_option maxHeartbeats 4000000 in
theorem s_X9_image_L29 (w : WT) {x : CT} {l : Launch} (hx : xl x = l) (hG : Gd x cX9_image 2 RX9) (hE : Ge x (GM w)) (hR : Rm x 1) (hT : Rt x (some .int)) : ∀ (n : Nat) (a1 : Int32) (h : Hp), Sn x 2 (gA (GM w)) (0, 0) (ζM x (GM w) inI) (gW (GM w) h) 29 [(0, .ref (gB (GM w) + 1)), (1, .int a1)] [] (m_X9_image_L29 n a1 h) := by
  intro n
  induction n with
  | zero => intro a1 h; exact s_none
  | succ n ih =>
    intro a1 h
    rw [m_X9_image_L29]
    refine s_iload_n hG dX9_image_29 1 rfl rfl ?_
    refine s_bipush hG dX9_image_30 bc_8 ?_
    refine s_icmp_ge hG dX9_image_32 (tgt := 53) (by decide) (fun q1 => ?_) (fun q1 => ?_)
    · refine s_aload_n hG dX9_image_53 0 rfl rfl ?_
      refine s_aload_n hG dX9_image_54 0 rfl rfl ?_
      refine s_getI hG hE dX9_image_55 fl_X9_13 rfl kM_1 ?_
      refine s_putI hG hE dX9_image_58 fl_X9_122 rfl rfl kM_1 (fun h2 => ?_)
      refine s_aload_n hG dX9_image_61 0 rfl rfl ?_
      refine s_getI hG hE dX9_image_62 fl_X9_13 rfl kM_1 ?_
      exact s_iret hG hT dX9_image_65
    · refine s_aload_n hG dX9_image_35 0 rfl rfl ?_
      refine s_getS hG hE dX9_image_36 fl_X9_119 rfl kM_1 fM_9_35 (nzM kM_24) ?_
      refine s_iload_n hG dX9_image_39 1 rfl rfl ?_
      refine s_aload_n hG dX9_image_40 0 rfl rfl ?_
      refine s_getS hG hE dX9_image_41 fl_X9_16 rfl kM_1 fM_9_2 (nzM kM_2) ?_
      refine s_iload_n hG dX9_image_44 1 rfl rfl ?_
      refine s_ck (fun q3 => ?_)
      refine s_iald hG hE dX9_image_45 kM_2 q3 ?_
      refine s_iast hG hE dX9_image_46 kM_24 q3 (fun h4 => ?_)
      refine s_iinc hG dX9_image_47 1 rfl ic_1 (by decide) (fun v5 => [(1, .int v5), (0, .ref (gB (GM w) + 1))]) (fun _ => rfl) (fun v5 => ?_)
      refine s_goto (tgt := 29) hG dX9_image_50 (by decide) ?_
      refine s_lv [1, 0] rfl ?_
      exact ih v5 h4

def m_X9_image_L2 : Nat → Int32 → Hp → Option (Int32 × Hp)
  | 0, _, _ => none
  | n + 1, a1, h => if 240 ≤ a1 then m_X9_image_L29 FU 0 h else ck (inb a1 240) (hb (si h 23 a1.toNatClampNeg (gi h 6 a1.toNatClampNeg)) fun h3 => vb (a1 + 1) fun v4 => m_X9_image_L2 n v4 h3)
set_option maxRecDepth 20000 in
set_option maxHeartbeats 4000000 in
theorem s_X9_image_L2 (w : WT) {x : CT} {l : Launch} (hx : xl x = l) (hG : Gd x cX9_image 2 RX9) (hE : Ge x (GM w)) (hR : Rm x 1) (hT : Rt x (some .int)) : ∀ (n : Nat) (a1 : Int32) (h : Hp), Sn x 2 (gA (GM w)) (0, 0) (ζM x (GM w) inI) (gW (GM w) h) 2 [(0, .ref (gB (GM w) + 1)), (1, .int a1)] [] (m_X9_image_L2 n a1 h) := by
  intro n
  induction n with
  | zero => intro a1 h; exact s_none
  | succ n ih =>
    intro a1 h
    rw [m_X9_image_L2]
    refine s_iload_n hG dX9_image_2 1 rfl rfl ?_
    refine s_sipush hG dX9_image_3 sc_240 ?_
    refine s_icmp_ge hG dX9_image_6 (tgt := 27) (by decide) (fun q1 => ?_) (fun q1 => ?_)
    · refine s_iconst hG dX9_image_27 ic_0 ?_
      refine s_istore_n (lv' := [(1, .int 0), (0, .ref (gB (GM w) + 1))]) hG dX9_image_28 rfl (by decide) rfl ?_
      refine s_lv [1, 0] rfl ?_
      exact s_X9_image_L29 w hx hG hE hR hT FU 0 h
    · refine s_aload_n hG dX9_image_9 0 rfl rfl ?_
      refine s_getS hG hE dX9_image_10 fl_X9_116 rfl kM_1 fM_9_34 (nzM kM_23) ?_
      refine s_iload_n hG dX9_image_13 1 rfl rfl ?_
      refine s_aload_n hG dX9_image_14 0 rfl rfl ?_
      refine s_getS hG hE dX9_image_15 fl_X9_29 rfl kM_1 fM_9_6 (nzM kM_6) ?_
      refine s_iload_n hG dX9_image_18 1 rfl rfl ?_
      refine s_ck (fun q2 => ?_)
      refine s_iald hG hE dX9_image_19 kM_6 q2 ?_
      refine s_iast hG hE dX9_image_20 kM_23 q2 (fun h3 => ?_)
      refine s_iinc hG dX9_image_21 1 rfl ic_1 (by decide) (fun v4 => [(1, .int v4), (0, .ref (gB (GM w) + 1))]) (fun _ => rfl) (fun v4 => ?_)
      refine s_goto (tgt := 2) hG dX9_image_24 (by decide) ?_
      refine s_lv [1, 0] rfl ?_
      exact ih v4 h3

def m_X9_image (h : Hp) : Option (Int32 × Hp) := m_X9_image_L2 FU 0 h
set_option maxRecDepth 20000 in
set_option maxHeartbeats 4000000 in
theorem s_X9_image (w : WT) {x : CT} {l : Launch} (hx : xl x = l) (hG : Gd x cX9_image 2 RX9) (hE : Ge x (GM w)) (hR : Rm x 1) (hT : Rt x (some .int)) (h : Hp) : Sn x 2 (gA (GM w)) (0, 0) (ζM x (GM w) inI) (gW (GM w) h) 0 [(0, .ref (gB (GM w) + 1))] [] (m_X9_image h) := by
  unfold m_X9_image
  refine s_iconst hG dX9_image_0 ic_0 ?_
  refine s_istore_n (lv' := [(1, .int 0), (0, .ref (gB (GM w) + 1))]) hG dX9_image_1 rfl (by decide) rfl ?_
  refine s_lv [1, 0] rfl ?_
  exact s_X9_image_L2 w hx hG hE hR hT FU 0 h

theorem c_X9_image (w : WT) (l : Launch) (h : Hp) : ∀ v h', m_X9_image h = some (v, h') → MetM l (GM w) yX9_image cX9_image 2 (some .int) 1 [.ref (gB (GM w) + 1)] h (inI v) h' :=
  met_of (by decide) (lokM w) (Nat.le_of_ble_eq_true rfl) (fun x hx hG hE hR hT => s_X9_image w hx hG hE hR hT h)
def m_X9_undo_L39 : Nat → Int32 → Hp → Option (Int32 × Hp)
  | 0, _, _ => none
  | n + 1, a1, h => if 8 ≤ a1 then hb (si h 1 1 (gi h 1 36)) fun h2 => some (gi h2 1 1, h2) else ck (inb a1 8) (hb (si h 2 a1.toNatClampNeg (gi h 24 a1.toNatClampNeg)) fun h4 => vb (a1 + 1) fun v5 => m_X9_undo_L39 n v5 h4)
set_option maxRecDepth 20000 in
set_option maxHeartbeats 4000000 in
theorem s_X9_undo_L39 (w : WT) {x : CT} {l : Launch} (hx : xl x = l) (hG : Gd x cX9_undo 2 RX9) (hE : Ge x (GM w)) (hR : Rm x 1) (hT : Rt x (some .int)) : ∀ (n : Nat) (a1 : Int32) (h : Hp), Sn x 2 (gA (GM w)) (0, 0) (ζM x (GM w) inI) (gW (GM w) h) 39 [(0, .ref (gB (GM w) + 1)), (1, .int a1)] [] (m_X9_undo_L39 n a1 h) := by
  intro n
  induction n with
  | zero => intro a1 h; exact s_none
  | succ n ih =>
    intro a1 h
    rw [m_X9_undo_L39]
    refine s_iload_n hG dX9_undo_39 1 rfl rfl ?_
    refine s_bipush hG dX9_undo_40 bc_8 ?_
    refine s_icmp_ge hG dX9_undo_42 (tgt := 63) (by decide) (fun q1 => ?_) (fun q1 => ?_)
    · refine s_aload_n hG dX9_undo_63 0 rfl rfl ?_
      refine s_aload_n hG dX9_undo_64 0 rfl rfl ?_
      refine s_getI hG hE dX9_undo_65 fl_X9_122 rfl kM_1 ?_
      refine s_putI hG hE dX9_undo_68 fl_X9_13 rfl rfl kM_1 (fun h2 => ?_)
      refine s_aload_n hG dX9_undo_71 0 rfl rfl ?_
      refine s_getI hG hE dX9_undo_72 fl_X9_13 rfl kM_1 ?_
      exact s_iret hG hT dX9_undo_75
    · refine s_aload_n hG dX9_undo_45 0 rfl rfl ?_
      refine s_getS hG hE dX9_undo_46 fl_X9_16 rfl kM_1 fM_9_2 (nzM kM_2) ?_
      refine s_iload_n hG dX9_undo_49 1 rfl rfl ?_
      refine s_aload_n hG dX9_undo_50 0 rfl rfl ?_
      refine s_getS hG hE dX9_undo_51 fl_X9_119 rfl kM_1 fM_9_35 (nzM kM_24) ?_
      refine s_iload_n hG dX9_undo_54 1 rfl rfl ?_
      refine s_ck (fun q3 => ?_)
      refine s_iald hG hE dX9_undo_55 kM_24 q3 ?_
      refine s_iast hG hE dX9_undo_56 kM_2 q3 (fun h4 => ?_)
      refine s_iinc hG dX9_undo_57 1 rfl ic_1 (by decide) (fun v5 => [(1, .int v5), (0, .ref (gB (GM w) + 1))]) (fun _ => rfl) (fun v5 => ?_)
      refine s_goto (tgt := 39) hG dX9_undo_60 (by decide) ?_
      refine s_lv [1, 0] rfl ?_
      exact ih v5 h4

def m_X9_undo_L12 : Nat → Int32 → Hp → Option (Int32 × Hp)
  | 0, _, _ => none
  | n + 1, a1, h => if 240 ≤ a1 then m_X9_undo_L39 FU 0 h else ck (inb a1 240) (hb (si h 6 a1.toNatClampNeg (gi h 23 a1.toNatClampNeg)) fun h3 => vb (a1 + 1) fun v4 => m_X9_undo_L12 n v4 h3)
set_option maxRecDepth 20000 in
set_option maxHeartbeats 4000000 in
theorem s_X9_undo_L12 (w : WT) {x : CT} {l : Launch} (hx : xl x = l) (hG : Gd x cX9_undo 2 RX9) (hE : Ge x (GM w)) (hR : Rm x 1) (hT : Rt x (some .int)) : ∀ (n : Nat) (a1 : Int32) (h : Hp), Sn x 2 (gA (GM w)) (0, 0) (ζM x (GM w) inI) (gW (GM w) h) 12 [(0, .ref (gB (GM w) + 1)), (1, .int a1)] [] (m_X9_undo_L12 n a1 h) := by
  intro n
  induction n with
  | zero => intro a1 h; exact s_none
  | succ n ih =>
    intro a1 h
    rw [m_X9_undo_L12]
    refine s_iload_n hG dX9_undo_12 1 rfl rfl ?_
    refine s_sipush hG dX9_undo_13 sc_240 ?_
    refine s_icmp_ge hG dX9_undo_16 (tgt := 37) (by decide) (fun q1 => ?_) (fun q1 => ?_)
    · refine s_iconst hG dX9_undo_37 ic_0 ?_
      refine s_istore_n (lv' := [(1, .int 0), (0, .ref (gB (GM w) + 1))]) hG dX9_undo_38 rfl (by decide) rfl ?_
      refine s_lv [1, 0] rfl ?_
      exact s_X9_undo_L39 w hx hG hE hR hT FU 0 h
    · refine s_aload_n hG dX9_undo_19 0 rfl rfl ?_
      refine s_getS hG hE dX9_undo_20 fl_X9_29 rfl kM_1 fM_9_6 (nzM kM_6) ?_
      refine s_iload_n hG dX9_undo_23 1 rfl rfl ?_
      refine s_aload_n hG dX9_undo_24 0 rfl rfl ?_
      refine s_getS hG hE dX9_undo_25 fl_X9_116 rfl kM_1 fM_9_34 (nzM kM_23) ?_
      refine s_iload_n hG dX9_undo_28 1 rfl rfl ?_
      refine s_ck (fun q2 => ?_)
      refine s_iald hG hE dX9_undo_29 kM_23 q2 ?_
      refine s_iast hG hE dX9_undo_30 kM_6 q2 (fun h3 => ?_)
      refine s_iinc hG dX9_undo_31 1 rfl ic_1 (by decide) (fun v4 => [(1, .int v4), (0, .ref (gB (GM w) + 1))]) (fun _ => rfl) (fun v4 => ?_)
      refine s_goto (tgt := 12) hG dX9_undo_34 (by decide) ?_
      refine s_lv [1, 0] rfl ?_
      exact ih v4 h3

def m_X9_undo (h : Hp) : Option (Int32 × Hp) := if 0 ≤ (gi h 1 36) then m_X9_undo_L12 FU 0 h else some ((-3), h)
set_option maxRecDepth 20000 in
set_option maxHeartbeats 4000000 in
theorem s_X9_undo (w : WT) {x : CT} {l : Launch} (hx : xl x = l) (hG : Gd x cX9_undo 2 RX9) (hE : Ge x (GM w)) (hR : Rm x 1) (hT : Rt x (some .int)) (h : Hp) : Sn x 2 (gA (GM w)) (0, 0) (ζM x (GM w) inI) (gW (GM w) h) 0 [(0, .ref (gB (GM w) + 1))] [] (m_X9_undo h) := by
  unfold m_X9_undo
  refine s_aload_n hG dX9_undo_0 0 rfl rfl ?_
  refine s_getI hG hE dX9_undo_1 fl_X9_122 rfl kM_1 ?_
  refine s_if_ge hG dX9_undo_4 (tgt := 10) (by decide) (fun q1 => ?_) (fun q1 => ?_)
  · refine s_iconst hG dX9_undo_10 ic_0 ?_
    refine s_istore_n (lv' := [(1, .int 0), (0, .ref (gB (GM w) + 1))]) hG dX9_undo_11 rfl (by decide) rfl ?_
    refine s_lv [1, 0] rfl ?_
    exact s_X9_undo_L12 w hx hG hE hR hT FU 0 h
  · refine s_bipush hG dX9_undo_7 bc_m3 ?_
    exact s_iret hG hT dX9_undo_9

theorem c_X9_undo (w : WT) (l : Launch) (h : Hp) : ∀ v h', m_X9_undo h = some (v, h') → MetM l (GM w) yX9_undo cX9_undo 2 (some .int) 1 [.ref (gB (GM w) + 1)] h (inI v) h' :=
  met_of (by decide) (lokM w) (Nat.le_of_ble_eq_true rfl) (fun x hx hG hE hR hT => s_X9_undo w hx hG hE hR hT h)
theorem fl_X9_125 : FL RX9 125 9 37 := ⟨by decide, by decide, gw_at 1104 (by decide +kernel) (by decide +kernel), rfl⟩
theorem fl_X9_128 : FL RX9 128 9 38 := ⟨by decide, by decide, gw_at 1105 (by decide +kernel) (by decide +kernel), rfl⟩
theorem fM_9_38 : SM 1 38 = some 25 := rfl
theorem kM_25 : LM 25 = (20, 20) := rfl
def m_X9_body_L19 (h : Hp) : Option (Unit × Hp) := hb (si h 1 37 ((gi h 1 37) + 1)) fun h1 => some ((), h1)
set_option maxRecDepth 20000 in
set_option maxHeartbeats 4000000 in
theorem s_X9_body_L19 (w : WT) {x : CT} {l : Launch} (hx : xl x = l) (hG : Gd x cX9_body 2 RX9) (hE : Ge x (GM w)) (hR : Rm x 1) (hT : Rt x none) (h : Hp) : Sn x 2 (gA (GM w)) (0, 0) (ζM x (GM w) inV) (gW (GM w) h) 19 [(0, .ref (gB (GM w) + 1))] [] (m_X9_body_L19 h) := by
  unfold m_X9_body_L19
  refine s_aload_n hG dX9_body_19 0 rfl rfl ?_
  refine s_dup hG dX9_body_20 rfl ?_
  refine s_getI hG hE dX9_body_21 fl_X9_125 rfl kM_1 ?_
  refine s_iconst hG dX9_body_24 ic_1 ?_
  refine s_iadd hG dX9_body_25 ?_
  refine s_putI hG hE dX9_body_26 fl_X9_125 rfl rfl kM_1 (fun h1 => ?_)
  exact s_vret hG hT dX9_body_29

def m_X9_body (a1 : Int32) (h : Hp) : Option (Unit × Hp) := if 20 ≤ (gi h 1 37) then m_X9_body_L19 h else ck (inb (gi h 1 37) 20) (hb (si h 25 (gi h 1 37).toNatClampNeg a1) fun h3 => m_X9_body_L19 h3)
set_option maxRecDepth 20000 in
set_option maxHeartbeats 4000000 in
theorem s_X9_body (w : WT) {x : CT} {l : Launch} (hx : xl x = l) (hG : Gd x cX9_body 2 RX9) (hE : Ge x (GM w)) (hR : Rm x 1) (hT : Rt x none) (a1 : Int32) (h : Hp) : Sn x 2 (gA (GM w)) (0, 0) (ζM x (GM w) inV) (gW (GM w) h) 0 [(0, .ref (gB (GM w) + 1)), (1, .int a1)] [] (m_X9_body a1 h) := by
  unfold m_X9_body
  refine s_aload_n hG dX9_body_0 0 rfl rfl ?_
  refine s_getI hG hE dX9_body_1 fl_X9_125 rfl kM_1 ?_
  refine s_bipush hG dX9_body_4 bc_20 ?_
  refine s_icmp_ge hG dX9_body_6 (tgt := 19) (by decide) (fun q1 => ?_) (fun q1 => ?_)
  · refine s_lv [0] rfl ?_
    exact s_X9_body_L19 w hx hG hE hR hT h
  · refine s_aload_n hG dX9_body_9 0 rfl rfl ?_
    refine s_getS hG hE dX9_body_10 fl_X9_128 rfl kM_1 fM_9_38 (nzM kM_25) ?_
    refine s_aload_n hG dX9_body_13 0 rfl rfl ?_
    refine s_getI hG hE dX9_body_14 fl_X9_125 rfl kM_1 ?_
    refine s_iload_n hG dX9_body_17 1 rfl rfl ?_
    refine s_ck (fun q2 => ?_)
    refine s_iast hG hE dX9_body_18 kM_25 q2 (fun h3 => ?_)
    refine s_lv [0] rfl ?_
    exact s_X9_body_L19 w hx hG hE hR hT h3

theorem c_X9_body (w : WT) (l : Launch) (a1 : Int32) (h : Hp) : ∀ v h', m_X9_body a1 h = some (v, h') → MetM l (GM w) yX9_body cX9_body 2 none 1 [.ref (gB (GM w) + 1), .int a1] h (inV v) h' :=
  met_of (by decide) (lokM w) (Nat.le_of_ble_eq_true rfl) (fun x hx hG hE hR hT => s_X9_body w hx hG hE hR hT a1 h)
theorem vv_X9_325 : VV RX9 325 yX9_body cX9_body 2 none 1 := ⟨⟨gw_at 1516 (by decide +kernel) (by decide +kernel), gw_at 1519 (by decide +kernel) (by decide +kernel), gw_at 96 (by decide +kernel) (by decide +kernel), by decide +kernel, by decide⟩, gw_at 1518 (by decide +kernel) (by decide +kernel), gw_at 78 (by decide +kernel) (by decide +kernel)⟩
def m_X9_plainSwears (a1 : Int32) (h : Hp) : Option (Int32 × Hp) := cb (m_X9_body 10 h) fun _ h2 => some (a1 + (gi h2 1 1), h2)
set_option maxRecDepth 20000 in
set_option maxHeartbeats 4000000 in
theorem s_X9_plainSwears (w : WT) {x : CT} {l : Launch} (hx : xl x = l) (hG : Gd x cX9_plainSwears 2 RX9) (hE : Ge x (GM w)) (hR : Rm x 2) (hT : Rt x (some .int)) (a1 : Int32) (h : Hp) : Sn x 2 (gA (GM w)) (0, 0) (ζM x (GM w) inI) (gW (GM w) h) 0 [(0, .ref (gB (GM w) + 1)), (1, .int a1)] [] (m_X9_plainSwears a1 h) := by
  unfold m_X9_plainSwears
  refine s_aload_n hG dX9_plainSwears_0 0 rfl rfl ?_
  refine s_bipush hG dX9_plainSwears_1 bc_10 ?_
  refine s_callV (a := 1) (c := 9) (inj := inV) (As := [.int 10]) (st := []) rfl hG hE dX9_plainSwears_3 hR (by decide) vv_X9_325 (by decide) rfl kM_1 rfl (Nat.le_of_ble_eq_true rfl) rfl (fun zv zh zq => c_X9_body w (xl x) 10 h zv zh zq) (fun v1 h2 => ?_)
  refine s_iload_n hG dX9_plainSwears_6 1 rfl rfl ?_
  refine s_aload_n hG dX9_plainSwears_7 0 rfl rfl ?_
  refine s_getI hG hE dX9_plainSwears_8 fl_X9_13 rfl kM_1 ?_
  refine s_iadd hG dX9_plainSwears_11 ?_
  exact s_iret hG hT dX9_plainSwears_12

theorem c_X9_plainSwears (w : WT) (l : Launch) (a1 : Int32) (h : Hp) : ∀ v h', m_X9_plainSwears a1 h = some (v, h') → MetM l (GM w) yX9_plainSwears cX9_plainSwears 2 (some .int) 2 [.ref (gB (GM w) + 1), .int a1] h (inI v) h' :=
  met_of (by decide) (lokM w) (Nat.le_of_ble_eq_true rfl) (fun x hx hG hE hR hT => s_X9_plainSwears w hx hG hE hR hT a1 h)
theorem vv_X9_328 : VV RX9 328 yX9_plainSwears cX9_plainSwears 2 (some .int) 1 := ⟨⟨gw_at 1520 (by decide +kernel) (by decide +kernel), gw_at 1523 (by decide +kernel) (by decide +kernel), gw_at 96 (by decide +kernel) (by decide +kernel), by decide +kernel, by decide⟩, gw_at 1522 (by decide +kernel) (by decide +kernel), gw_at 79 (by decide +kernel) (by decide +kernel)⟩
def m_X9_guardSwears (a1 : Int32) (h : Hp) : Option (Int32 × Hp) := cb (m_X9_body 40 h) fun _ h2 => cb (m_X9_plainSwears a1 h2) fun v3 h4 => some (-v3, h4)
set_option maxRecDepth 20000 in
set_option maxHeartbeats 4000000 in
theorem s_X9_guardSwears (w : WT) {x : CT} {l : Launch} (hx : xl x = l) (hG : Gd x cX9_guardSwears 2 RX9) (hE : Ge x (GM w)) (hR : Rm x 3) (hT : Rt x (some .int)) (a1 : Int32) (h : Hp) : Sn x 2 (gA (GM w)) (0, 0) (ζM x (GM w) inI) (gW (GM w) h) 0 [(0, .ref (gB (GM w) + 1)), (1, .int a1)] [] (m_X9_guardSwears a1 h) := by
  unfold m_X9_guardSwears
  refine s_aload_n hG dX9_guardSwears_0 0 rfl rfl ?_
  refine s_bipush hG dX9_guardSwears_1 bc_40 ?_
  refine s_callV (a := 1) (c := 9) (inj := inV) (As := [.int 40]) (st := []) rfl hG hE dX9_guardSwears_3 hR (by decide) vv_X9_325 (by decide) rfl kM_1 rfl (Nat.le_of_ble_eq_true rfl) rfl (fun zv zh zq => c_X9_body w (xl x) 40 h zv zh zq) (fun v1 h2 => ?_)
  refine s_aload_n hG dX9_guardSwears_6 0 rfl rfl ?_
  refine s_iload_n hG dX9_guardSwears_7 1 rfl rfl ?_
  refine s_callV (a := 1) (c := 9) (inj := inI) (As := [.int a1]) (st := []) rfl hG hE dX9_guardSwears_8 hR (by decide) vv_X9_328 (by decide) rfl kM_1 rfl (Nat.le_of_ble_eq_true rfl) rfl (fun zv zh zq => c_X9_plainSwears w (xl x) a1 h2 zv zh zq) (fun v3 h4 => ?_)
  refine s_ineg hG dX9_guardSwears_11 ?_
  exact s_iret hG hT dX9_guardSwears_12

theorem c_X9_guardSwears (w : WT) (l : Launch) (a1 : Int32) (h : Hp) : ∀ v h', m_X9_guardSwears a1 h = some (v, h') → MetM l (GM w) yX9_guardSwears cX9_guardSwears 2 (some .int) 3 [.ref (gB (GM w) + 1), .int a1] h (inI v) h' :=
  met_of (by decide) (lokM w) (Nat.le_of_ble_eq_true rfl) (fun x hx hG hE hR hT => s_X9_guardSwears w hx hG hE hR hT a1 h)
theorem vv_X9_331 : VV RX9 331 yX9_guardSwears cX9_guardSwears 2 (some .int) 1 := ⟨⟨gw_at 1524 (by decide +kernel) (by decide +kernel), gw_at 1527 (by decide +kernel) (by decide +kernel), gw_at 96 (by decide +kernel) (by decide +kernel), by decide +kernel, by decide⟩, gw_at 1526 (by decide +kernel) (by decide +kernel), gw_at 80 (by decide +kernel) (by decide +kernel)⟩
theorem bc_30 : (Int8.ofInt 30).toInt32 = 30 := by decide
def m_X9_swearsAct_L29 (a2 : Int32) (h : Hp) : Option (Int32 × Hp) := cb (m_X9_guardSwears a2 h) fun v1 h2 => some (v1, h2)
set_option maxRecDepth 20000 in
set_option maxHeartbeats 4000000 in
theorem s_X9_swearsAct_L29 (w : WT) {x : CT} {l : Launch} (hx : xl x = l) (hG : Gd x cX9_swearsAct 3 RX9) (hE : Ge x (GM w)) (hR : Rm x 4) (hT : Rt x (some .int)) (a2 : Int32) (h : Hp) : Sn x 3 (gA (GM w)) (0, 0) (ζM x (GM w) inI) (gW (GM w) h) 29 [(0, .ref (gB (GM w) + 1)), (2, .int a2)] [] (m_X9_swearsAct_L29 a2 h) := by
  unfold m_X9_swearsAct_L29
  refine s_aload_n hG dX9_swearsAct_29 0 rfl rfl ?_
  refine s_iload_n hG dX9_swearsAct_30 1 rfl rfl ?_
  refine s_callV (a := 1) (c := 9) (inj := inI) (As := [.int a2]) (st := []) rfl hG hE dX9_swearsAct_31 hR (by decide) vv_X9_331 (by decide) rfl kM_1 rfl (Nat.le_of_ble_eq_true rfl) rfl (fun zv zh zq => c_X9_guardSwears w (xl x) a2 h zv zh zq) (fun v1 h2 => ?_)
  refine s_goto (tgt := 42) hG dX9_swearsAct_34 (by decide) ?_
  exact s_iret hG hT dX9_swearsAct_42

def m_X9_swearsAct (a1 : Int32) (a2 : Int32) (h : Hp) : Option (Int32 × Hp) := if a1 = 2 then cb (m_X9_body 30 h) fun _ h7 => cb (m_X9_plainSwears (a2 * 3) h7) fun v8 h9 => some (v8, h9) else if a1 = 3 then m_X9_swearsAct_L29 a2 h else if a1 = 4 then m_X9_swearsAct_L29 a2 h else cb (m_X9_plainSwears a2 h) fun v4 h5 => some (v4, h5)
set_option maxRecDepth 20000 in
set_option maxHeartbeats 4000000 in
theorem s_X9_swearsAct (w : WT) {x : CT} {l : Launch} (hx : xl x = l) (hG : Gd x cX9_swearsAct 3 RX9) (hE : Ge x (GM w)) (hR : Rm x 4) (hT : Rt x (some .int)) (a1 : Int32) (a2 : Int32) (h : Hp) : Sn x 3 (gA (GM w)) (0, 0) (ζM x (GM w) inI) (gW (GM w) h) 0 [(0, .ref (gB (GM w) + 1)), (1, .int a1), (2, .int a2)] [] (m_X9_swearsAct a1 a2 h) := by
  unfold m_X9_swearsAct
  refine s_iload_n hG dX9_swearsAct_0 1 rfl rfl ?_
  refine s_iconst hG dX9_swearsAct_1 ic_2 ?_
  refine s_icmp_ne hG dX9_swearsAct_2 (tgt := 19) (by decide) (fun q1 => ?_) (fun q1 => ?_)
  · refine s_aload_n hG dX9_swearsAct_5 0 rfl rfl ?_
    refine s_bipush hG dX9_swearsAct_6 bc_30 ?_
    refine s_callV (a := 1) (c := 9) (inj := inV) (As := [.int 30]) (st := []) rfl hG hE dX9_swearsAct_8 hR (by decide) vv_X9_325 (by decide) rfl kM_1 rfl (Nat.le_of_ble_eq_true rfl) rfl (fun zv zh zq => c_X9_body w (xl x) 30 h zv zh zq) (fun v6 h7 => ?_)
    refine s_aload_n hG dX9_swearsAct_11 0 rfl rfl ?_
    refine s_iload_n hG dX9_swearsAct_12 2 rfl rfl ?_
    refine s_iconst hG dX9_swearsAct_13 ic_3 ?_
    refine s_imul hG dX9_swearsAct_14 ?_
    refine s_callV (a := 1) (c := 9) (inj := inI) (As := [.int (a2 * 3)]) (st := []) rfl hG hE dX9_swearsAct_15 hR (by decide) vv_X9_328 (by decide) rfl kM_1 rfl (Nat.le_of_ble_eq_true rfl) rfl (fun zv zh zq => c_X9_plainSwears w (xl x) (a2 * 3) h7 zv zh zq) (fun v8 h9 => ?_)
    exact s_iret hG hT dX9_swearsAct_18
  · refine s_iload_n hG dX9_swearsAct_19 1 rfl rfl ?_
    refine s_iconst hG dX9_swearsAct_20 ic_3 ?_
    refine s_icmp_eq hG dX9_swearsAct_21 (tgt := 29) (by decide) (fun q2 => ?_) (fun q2 => ?_)
    · refine s_lv [0, 2] rfl ?_
      exact s_X9_swearsAct_L29 w hx hG hE hR hT a2 h
    · refine s_iload_n hG dX9_swearsAct_24 1 rfl rfl ?_
      refine s_iconst hG dX9_swearsAct_25 ic_4 ?_
      refine s_icmp_ne hG dX9_swearsAct_26 (tgt := 37) (by decide) (fun q3 => ?_) (fun q3 => ?_)
      · refine s_lv [0, 2] rfl ?_
        exact s_X9_swearsAct_L29 w hx hG hE hR hT a2 h
      · refine s_aload_n hG dX9_swearsAct_37 0 rfl rfl ?_
        refine s_iload_n hG dX9_swearsAct_38 2 rfl rfl ?_
        refine s_callV (a := 1) (c := 9) (inj := inI) (As := [.int a2]) (st := []) rfl hG hE dX9_swearsAct_39 hR (by decide) vv_X9_328 (by decide) rfl kM_1 rfl (Nat.le_of_ble_eq_true rfl) rfl (fun zv zh zq => c_X9_plainSwears w (xl x) a2 h zv zh zq) (fun v4 h5 => ?_)
        exact s_iret hG hT dX9_swearsAct_42

theorem c_X9_swearsAct (w : WT) (l : Launch) (a1 : Int32) (a2 : Int32) (h : Hp) : ∀ v h', m_X9_swearsAct a1 a2 h = some (v, h') → MetM l (GM w) yX9_swearsAct cX9_swearsAct 3 (some .int) 4 [.ref (gB (GM w) + 1), .int a1, .int a2] h (inI v) h' :=
  met_of (by decide) (lokM w) (Nat.le_of_ble_eq_true rfl) (fun x hx hG hE hR hT => s_X9_swearsAct w hx hG hE hR hT a1 a2 h)
theorem bc_11 : (Int8.ofInt 11).toInt32 = 11 := by decide
theorem vv_X9_334 : VV RX9 334 yX9_swearsAct cX9_swearsAct 3 (some .int) 2 := ⟨⟨gw_at 1512 (by decide +kernel) (by decide +kernel), gw_at 1515 (by decide +kernel) (by decide +kernel), gw_at 96 (by decide +kernel) (by decide +kernel), by decide +kernel, by decide⟩, gw_at 1514 (by decide +kernel) (by decide +kernel), gw_at 77 (by decide +kernel) (by decide +kernel)⟩
def m_X9_plainFrees (a1 : Int32) (a2 : Int32) (h : Hp) : Option (Int32 × Hp) := cb (m_X9_body 11 h) fun _ h2 => cb (m_X9_swearsAct a1 a2 h2) fun v3 h4 => some (v3 - (gi h4 1 0), h4)
set_option maxRecDepth 20000 in
set_option maxHeartbeats 4000000 in
theorem s_X9_plainFrees (w : WT) {x : CT} {l : Launch} (hx : xl x = l) (hG : Gd x cX9_plainFrees 3 RX9) (hE : Ge x (GM w)) (hR : Rm x 5) (hT : Rt x (some .int)) (a1 : Int32) (a2 : Int32) (h : Hp) : Sn x 3 (gA (GM w)) (0, 0) (ζM x (GM w) inI) (gW (GM w) h) 0 [(0, .ref (gB (GM w) + 1)), (1, .int a1), (2, .int a2)] [] (m_X9_plainFrees a1 a2 h) := by
  unfold m_X9_plainFrees
  refine s_aload_n hG dX9_plainFrees_0 0 rfl rfl ?_
  refine s_bipush hG dX9_plainFrees_1 bc_11 ?_
  refine s_callV (a := 1) (c := 9) (inj := inV) (As := [.int 11]) (st := []) rfl hG hE dX9_plainFrees_3 hR (by decide) vv_X9_325 (by decide) rfl kM_1 rfl (Nat.le_of_ble_eq_true rfl) rfl (fun zv zh zq => c_X9_body w (xl x) 11 h zv zh zq) (fun v1 h2 => ?_)
  refine s_aload_n hG dX9_plainFrees_6 0 rfl rfl ?_
  refine s_iload_n hG dX9_plainFrees_7 1 rfl rfl ?_
  refine s_iload_n hG dX9_plainFrees_8 2 rfl rfl ?_
  refine s_callV (a := 1) (c := 9) (inj := inI) (As := [.int a1, .int a2]) (st := []) rfl hG hE dX9_plainFrees_9 hR (by decide) vv_X9_334 (by decide) rfl kM_1 rfl (Nat.le_of_ble_eq_true rfl) rfl (fun zv zh zq => c_X9_swearsAct w (xl x) a1 a2 h2 zv zh zq) (fun v3 h4 => ?_)
  refine s_aload_n hG dX9_plainFrees_12 0 rfl rfl ?_
  refine s_getI hG hE dX9_plainFrees_13 fl_X9_7 rfl kM_1 ?_
  refine s_isub hG dX9_plainFrees_16 ?_
  exact s_iret hG hT dX9_plainFrees_17

theorem c_X9_plainFrees (w : WT) (l : Launch) (a1 : Int32) (a2 : Int32) (h : Hp) : ∀ v h', m_X9_plainFrees a1 a2 h = some (v, h') → MetM l (GM w) yX9_plainFrees cX9_plainFrees 3 (some .int) 5 [.ref (gB (GM w) + 1), .int a1, .int a2] h (inI v) h' :=
  met_of (by decide) (lokM w) (Nat.le_of_ble_eq_true rfl) (fun x hx hG hE hR hT => s_X9_plainFrees w hx hG hE hR hT a1 a2 h)
theorem vv_X9_337 : VV RX9 337 yX9_plainFrees cX9_plainFrees 3 (some .int) 2 := ⟨⟨gw_at 1532 (by decide +kernel) (by decide +kernel), gw_at 1535 (by decide +kernel) (by decide +kernel), gw_at 96 (by decide +kernel) (by decide +kernel), by decide +kernel, by decide⟩, gw_at 1534 (by decide +kernel) (by decide +kernel), gw_at 82 (by decide +kernel) (by decide +kernel)⟩
theorem bc_51 : (Int8.ofInt 51).toInt32 = 51 := by decide
def m_X9_freesAct (a1 : Int32) (a2 : Int32) (h : Hp) : Option (Int32 × Hp) := if a1 = 1 then cb (m_X9_body 20 h) fun _ h3 => cb (m_X9_plainFrees a1 a2 h3) fun v4 h5 => some (v4 ^^^ 6, h5) else if a1 = 2 then cb (m_X9_body 20 h) fun _ h8 => cb (m_X9_plainFrees a1 a2 h8) fun v9 h10 => some (v9 ^^^ 6, h10) else if a1 = 3 then cb (m_X9_plainFrees a1 a2 h) fun v12 h13 => some (v12, h13) else if a1 = 4 then cb (m_X9_body 51 h) fun _ h16 => cb (m_X9_plainFrees a1 a2 h16) fun v17 h18 => cb (m_X9_guardSwears 2 h18) fun v19 h20 => some (v17 + v19, h20) else if a1 = 5 then cb (m_X9_body 60 h) fun _ h23 => cb (m_X9_plainFrees a1 (a2 + (gi h23 1 0)) h23) fun v24 h25 => some (v24, h25) else cb (m_X9_plainFrees a1 a2 h) fun v26 h27 => some (v26, h27)
set_option maxRecDepth 20000 in
set_option maxHeartbeats 4000000 in
theorem s_X9_freesAct (w : WT) {x : CT} {l : Launch} (hx : xl x = l) (hG : Gd x cX9_freesAct 4 RX9) (hE : Ge x (GM w)) (hR : Rm x 6) (hT : Rt x (some .int)) (a1 : Int32) (a2 : Int32) (h : Hp) : Sn x 4 (gA (GM w)) (0, 0) (ζM x (GM w) inI) (gW (GM w) h) 0 [(0, .ref (gB (GM w) + 1)), (1, .int a1), (2, .int a2)] [] (m_X9_freesAct a1 a2 h) := by
  unfold m_X9_freesAct
  refine s_iload_n hG dX9_freesAct_0 1 rfl rfl ?_
  refine s_tsw (off := 35) hG dX9_freesAct_1 1 (by decide) (tgt := 36) (by decide) (fun q1 => ?_) (fun q1 => ?_)
  · refine s_aload_n hG dX9_freesAct_36 0 rfl rfl ?_
    refine s_bipush hG dX9_freesAct_37 bc_20 ?_
    refine s_callV (a := 1) (c := 9) (inj := inV) (As := [.int 20]) (st := []) rfl hG hE dX9_freesAct_39 hR (by decide) vv_X9_325 (by decide) rfl kM_1 rfl (Nat.le_of_ble_eq_true rfl) rfl (fun zv zh zq => c_X9_body w (xl x) 20 h zv zh zq) (fun v2 h3 => ?_)
    refine s_aload_n hG dX9_freesAct_42 0 rfl rfl ?_
    refine s_iload_n hG dX9_freesAct_43 1 rfl rfl ?_
    refine s_iload_n hG dX9_freesAct_44 2 rfl rfl ?_
    refine s_callV (a := 1) (c := 9) (inj := inI) (As := [.int a1, .int a2]) (st := []) rfl hG hE dX9_freesAct_45 hR (by decide) vv_X9_337 (by decide) rfl kM_1 rfl (Nat.le_of_ble_eq_true rfl) rfl (fun zv zh zq => c_X9_plainFrees w (xl x) a1 a2 h3 zv zh zq) (fun v4 h5 => ?_)
    refine s_bipush hG dX9_freesAct_48 bc_6 ?_
    refine s_ixor hG dX9_freesAct_50 ?_
    exact s_iret hG hT dX9_freesAct_51
  · refine s_tsw (off := 35) hG dX9_freesAct_1 2 (by decide) (tgt := 36) (by decide) (fun q6 => ?_) (fun q6 => ?_)
    · refine s_aload_n hG dX9_freesAct_36 0 rfl rfl ?_
      refine s_bipush hG dX9_freesAct_37 bc_20 ?_
      refine s_callV (a := 1) (c := 9) (inj := inV) (As := [.int 20]) (st := []) rfl hG hE dX9_freesAct_39 hR (by decide) vv_X9_325 (by decide) rfl kM_1 rfl (Nat.le_of_ble_eq_true rfl) rfl (fun zv zh zq => c_X9_body w (xl x) 20 h zv zh zq) (fun v7 h8 => ?_)
      refine s_aload_n hG dX9_freesAct_42 0 rfl rfl ?_
      refine s_iload_n hG dX9_freesAct_43 1 rfl rfl ?_
      refine s_iload_n hG dX9_freesAct_44 2 rfl rfl ?_
      refine s_callV (a := 1) (c := 9) (inj := inI) (As := [.int a1, .int a2]) (st := []) rfl hG hE dX9_freesAct_45 hR (by decide) vv_X9_337 (by decide) rfl kM_1 rfl (Nat.le_of_ble_eq_true rfl) rfl (fun zv zh zq => c_X9_plainFrees w (xl x) a1 a2 h8 zv zh zq) (fun v9 h10 => ?_)
      refine s_bipush hG dX9_freesAct_48 bc_6 ?_
      refine s_ixor hG dX9_freesAct_50 ?_
      exact s_iret hG hT dX9_freesAct_51
    · refine s_tsw (off := 90) hG dX9_freesAct_1 3 (by decide) (tgt := 91) (by decide) (fun q11 => ?_) (fun q11 => ?_)
      · refine s_aload_n hG dX9_freesAct_91 0 rfl rfl ?_
        refine s_iload_n hG dX9_freesAct_92 1 rfl rfl ?_
        refine s_iload_n hG dX9_freesAct_93 2 rfl rfl ?_
        refine s_callV (a := 1) (c := 9) (inj := inI) (As := [.int a1, .int a2]) (st := []) rfl hG hE dX9_freesAct_94 hR (by decide) vv_X9_337 (by decide) rfl kM_1 rfl (Nat.le_of_ble_eq_true rfl) rfl (fun zv zh zq => c_X9_plainFrees w (xl x) a1 a2 h zv zh zq) (fun v12 h13 => ?_)
        exact s_iret hG hT dX9_freesAct_97
      · refine s_tsw (off := 51) hG dX9_freesAct_1 4 (by decide) (tgt := 52) (by decide) (fun q14 => ?_) (fun q14 => ?_)
        · refine s_aload_n hG dX9_freesAct_52 0 rfl rfl ?_
          refine s_bipush hG dX9_freesAct_53 bc_51 ?_
          refine s_callV (a := 1) (c := 9) (inj := inV) (As := [.int 51]) (st := []) rfl hG hE dX9_freesAct_55 hR (by decide) vv_X9_325 (by decide) rfl kM_1 rfl (Nat.le_of_ble_eq_true rfl) rfl (fun zv zh zq => c_X9_body w (xl x) 51 h zv zh zq) (fun v15 h16 => ?_)
          refine s_aload_n hG dX9_freesAct_58 0 rfl rfl ?_
          refine s_iload_n hG dX9_freesAct_59 1 rfl rfl ?_
          refine s_iload_n hG dX9_freesAct_60 2 rfl rfl ?_
          refine s_callV (a := 1) (c := 9) (inj := inI) (As := [.int a1, .int a2]) (st := []) rfl hG hE dX9_freesAct_61 hR (by decide) vv_X9_337 (by decide) rfl kM_1 rfl (Nat.le_of_ble_eq_true rfl) rfl (fun zv zh zq => c_X9_plainFrees w (xl x) a1 a2 h16 zv zh zq) (fun v17 h18 => ?_)
          refine s_istore_n (lv' := [(3, .int v17), (0, .ref (gB (GM w) + 1)), (1, .int a1), (2, .int a2)]) hG dX9_freesAct_64 rfl (by decide) rfl ?_
          refine s_iload_n hG dX9_freesAct_65 0 rfl rfl ?_
          refine s_aload_n hG dX9_freesAct_66 1 rfl rfl ?_
          refine s_iconst hG dX9_freesAct_67 ic_2 ?_
          refine s_callV (a := 1) (c := 9) (inj := inI) (As := [.int 2]) (st := [.int v17]) rfl hG hE dX9_freesAct_68 hR (by decide) vv_X9_331 (by decide) rfl kM_1 rfl (Nat.le_of_ble_eq_true rfl) rfl (fun zv zh zq => c_X9_guardSwears w (xl x) 2 h18 zv zh zq) (fun v19 h20 => ?_)
          refine s_iadd hG dX9_freesAct_71 ?_
          exact s_iret hG hT dX9_freesAct_72
        · refine s_tsw (off := 72) hG dX9_freesAct_1 5 (by decide) (tgt := 73) (by decide) (fun q21 => ?_) (fun q21 => ?_)
          · refine s_aload_n hG dX9_freesAct_73 0 rfl rfl ?_
            refine s_bipush hG dX9_freesAct_74 bc_60 ?_
            refine s_callV (a := 1) (c := 9) (inj := inV) (As := [.int 60]) (st := []) rfl hG hE dX9_freesAct_76 hR (by decide) vv_X9_325 (by decide) rfl kM_1 rfl (Nat.le_of_ble_eq_true rfl) rfl (fun zv zh zq => c_X9_body w (xl x) 60 h zv zh zq) (fun v22 h23 => ?_)
            refine s_aload_n hG dX9_freesAct_79 0 rfl rfl ?_
            refine s_iload_n hG dX9_freesAct_80 1 rfl rfl ?_
            refine s_iload_n hG dX9_freesAct_81 2 rfl rfl ?_
            refine s_aload_n hG dX9_freesAct_82 0 rfl rfl ?_
            refine s_getI hG hE dX9_freesAct_83 fl_X9_7 rfl kM_1 ?_
            refine s_iadd hG dX9_freesAct_86 ?_
            refine s_callV (a := 1) (c := 9) (inj := inI) (As := [.int a1, .int (a2 + (gi h23 1 0))]) (st := []) rfl hG hE dX9_freesAct_87 hR (by decide) vv_X9_337 (by decide) rfl kM_1 rfl (Nat.le_of_ble_eq_true rfl) rfl (fun zv zh zq => c_X9_plainFrees w (xl x) a1 (a2 + (gi h23 1 0)) h23 zv zh zq) (fun v24 h25 => ?_)
            exact s_iret hG hT dX9_freesAct_90
          · refine s_tswD (tgt := 91) hG dX9_freesAct_1 (by decide) (by have zq1 := lv_neT q1 (show (1 : Int32).toInt = 1 by decide); have zq6 := lv_neT q6 (show (2 : Int32).toInt = 2 by decide); have zq11 := lv_neT q11 (show (3 : Int32).toInt = 3 by decide); have zq14 := lv_neT q14 (show (4 : Int32).toInt = 4 by decide); have zq21 := lv_neT q21 (show (5 : Int32).toInt = 5 by decide); omega) ?_
            refine s_aload_n hG dX9_freesAct_91 0 rfl rfl ?_
            refine s_iload_n hG dX9_freesAct_92 1 rfl rfl ?_
            refine s_iload_n hG dX9_freesAct_93 2 rfl rfl ?_
            refine s_callV (a := 1) (c := 9) (inj := inI) (As := [.int a1, .int a2]) (st := []) rfl hG hE dX9_freesAct_94 hR (by decide) vv_X9_337 (by decide) rfl kM_1 rfl (Nat.le_of_ble_eq_true rfl) rfl (fun zv zh zq => c_X9_plainFrees w (xl x) a1 a2 h zv zh zq) (fun v26 h27 => ?_)
            exact s_iret hG hT dX9_freesAct_97

theorem c_X9_freesAct (w : WT) (l : Launch) (a1 : Int32) (a2 : Int32) (h : Hp) : ∀ v h', m_X9_freesAct a1 a2 h = some (v, h') → MetM l (GM w) yX9_freesAct cX9_freesAct 4 (some .int) 6 [.ref (gB (GM w) + 1), .int a1, .int a2] h (inI v) h' :=
  met_of (by decide) (lokM w) (Nat.le_of_ble_eq_true rfl) (fun x hx hG hE hR hT => s_X9_freesAct w hx hG hE hR hT a1 a2 h)
theorem bc_12 : (Int8.ofInt 12).toInt32 = 12 := by decide
theorem vv_X9_340 : VV RX9 340 yX9_freesAct cX9_freesAct 4 (some .int) 2 := ⟨⟨gw_at 1528 (by decide +kernel) (by decide +kernel), gw_at 1531 (by decide +kernel) (by decide +kernel), gw_at 96 (by decide +kernel) (by decide +kernel), by decide +kernel, by decide⟩, gw_at 1530 (by decide +kernel) (by decide +kernel), gw_at 81 (by decide +kernel) (by decide +kernel)⟩
def m_X9_plainTakes (a1 : Int32) (a2 : Int32) (h : Hp) : Option (Int32 × Hp) := cb (m_X9_body 12 h) fun _ h2 => cb (m_X9_freesAct a1 a2 h2) fun v3 h4 => some (v3 * 2, h4)
set_option maxRecDepth 20000 in
set_option maxHeartbeats 4000000 in
theorem s_X9_plainTakes (w : WT) {x : CT} {l : Launch} (hx : xl x = l) (hG : Gd x cX9_plainTakes 3 RX9) (hE : Ge x (GM w)) (hR : Rm x 7) (hT : Rt x (some .int)) (a1 : Int32) (a2 : Int32) (h : Hp) : Sn x 3 (gA (GM w)) (0, 0) (ζM x (GM w) inI) (gW (GM w) h) 0 [(0, .ref (gB (GM w) + 1)), (1, .int a1), (2, .int a2)] [] (m_X9_plainTakes a1 a2 h) := by
  unfold m_X9_plainTakes
  refine s_aload_n hG dX9_plainTakes_0 0 rfl rfl ?_
  refine s_bipush hG dX9_plainTakes_1 bc_12 ?_
  refine s_callV (a := 1) (c := 9) (inj := inV) (As := [.int 12]) (st := []) rfl hG hE dX9_plainTakes_3 hR (by decide) vv_X9_325 (by decide) rfl kM_1 rfl (Nat.le_of_ble_eq_true rfl) rfl (fun zv zh zq => c_X9_body w (xl x) 12 h zv zh zq) (fun v1 h2 => ?_)
  refine s_aload_n hG dX9_plainTakes_6 0 rfl rfl ?_
  refine s_iload_n hG dX9_plainTakes_7 1 rfl rfl ?_
  refine s_iload_n hG dX9_plainTakes_8 2 rfl rfl ?_
  refine s_callV (a := 1) (c := 9) (inj := inI) (As := [.int a1, .int a2]) (st := []) rfl hG hE dX9_plainTakes_9 hR (by decide) vv_X9_340 (by decide) rfl kM_1 rfl (Nat.le_of_ble_eq_true rfl) rfl (fun zv zh zq => c_X9_freesAct w (xl x) a1 a2 h2 zv zh zq) (fun v3 h4 => ?_)
  refine s_iconst hG dX9_plainTakes_12 ic_2 ?_
  refine s_imul hG dX9_plainTakes_13 ?_
  exact s_iret hG hT dX9_plainTakes_14

theorem c_X9_plainTakes (w : WT) (l : Launch) (a1 : Int32) (a2 : Int32) (h : Hp) : ∀ v h', m_X9_plainTakes a1 a2 h = some (v, h') → MetM l (GM w) yX9_plainTakes cX9_plainTakes 3 (some .int) 7 [.ref (gB (GM w) + 1), .int a1, .int a2] h (inI v) h' :=
  met_of (by decide) (lokM w) (Nat.le_of_ble_eq_true rfl) (fun x hx hG hE hR hT => s_X9_plainTakes w hx hG hE hR hT a1 a2 h)
theorem vv_X9_343 : VV RX9 343 yX9_plainTakes cX9_plainTakes 3 (some .int) 2 := ⟨⟨gw_at 1540 (by decide +kernel) (by decide +kernel), gw_at 1543 (by decide +kernel) (by decide +kernel), gw_at 96 (by decide +kernel) (by decide +kernel), by decide +kernel, by decide⟩, gw_at 1542 (by decide +kernel) (by decide +kernel), gw_at 84 (by decide +kernel) (by decide +kernel)⟩
theorem bc_50 : (Int8.ofInt 50).toInt32 = 50 := by decide
theorem bc_70 : (Int8.ofInt 70).toInt32 = 70 := by decide
def m_X9_takesAct (a1 : Int32) (a2 : Int32) (h : Hp) : Option (Int32 × Hp) := if a1 = 2 then cb (m_X9_body 31 h) fun _ h3 => cb (m_X9_plainTakes a1 a2 h3) fun v4 h5 => cb (m_X9_freesAct a1 1 h5) fun v6 h7 => some (v4 + v6, h7) else if a1 = 3 then cb (m_X9_plainTakes a1 a2 h) fun v9 h10 => some (v9, h10) else if a1 = 4 then cb (m_X9_body 50 h) fun _ h13 => cb (m_X9_plainTakes a1 (a2 - (gi h13 1 1)) h13) fun v14 h15 => some (v14, h15) else if a1 = 5 then cb (m_X9_plainTakes a1 a2 h) fun v17 h18 => some (v17, h18) else if a1 = 6 then cb (m_X9_body 70 h) fun _ h21 => cb (m_X9_swearsAct a1 a2 h21) fun v22 h23 => cb (m_X9_plainTakes a1 a2 h23) fun v24 h25 => some (v22 - v24, h25) else cb (m_X9_plainTakes a1 a2 h) fun v26 h27 => some (v26, h27)
set_option maxRecDepth 20000 in
set_option maxHeartbeats 4000000 in
theorem s_X9_takesAct (w : WT) {x : CT} {l : Launch} (hx : xl x = l) (hG : Gd x cX9_takesAct 5 RX9) (hE : Ge x (GM w)) (hR : Rm x 8) (hT : Rt x (some .int)) (a1 : Int32) (a2 : Int32) (h : Hp) : Sn x 5 (gA (GM w)) (0, 0) (ζM x (GM w) inI) (gW (GM w) h) 0 [(0, .ref (gB (GM w) + 1)), (1, .int a1), (2, .int a2)] [] (m_X9_takesAct a1 a2 h) := by
  unfold m_X9_takesAct
  refine s_iload_n hG dX9_takesAct_0 1 rfl rfl ?_
  refine s_tsw (off := 35) hG dX9_takesAct_1 2 (by decide) (tgt := 36) (by decide) (fun q1 => ?_) (fun q1 => ?_)
  · refine s_aload_n hG dX9_takesAct_36 0 rfl rfl ?_
    refine s_bipush hG dX9_takesAct_37 bc_31 ?_
    refine s_callV (a := 1) (c := 9) (inj := inV) (As := [.int 31]) (st := []) rfl hG hE dX9_takesAct_39 hR (by decide) vv_X9_325 (by decide) rfl kM_1 rfl (Nat.le_of_ble_eq_true rfl) rfl (fun zv zh zq => c_X9_body w (xl x) 31 h zv zh zq) (fun v2 h3 => ?_)
    refine s_aload_n hG dX9_takesAct_42 0 rfl rfl ?_
    refine s_iload_n hG dX9_takesAct_43 1 rfl rfl ?_
    refine s_iload_n hG dX9_takesAct_44 2 rfl rfl ?_
    refine s_callV (a := 1) (c := 9) (inj := inI) (As := [.int a1, .int a2]) (st := []) rfl hG hE dX9_takesAct_45 hR (by decide) vv_X9_343 (by decide) rfl kM_1 rfl (Nat.le_of_ble_eq_true rfl) rfl (fun zv zh zq => c_X9_plainTakes w (xl x) a1 a2 h3 zv zh zq) (fun v4 h5 => ?_)
    refine s_istore_n (lv' := [(3, .int v4), (0, .ref (gB (GM w) + 1)), (1, .int a1), (2, .int a2)]) hG dX9_takesAct_48 rfl (by decide) rfl ?_
    refine s_iload_n hG dX9_takesAct_49 0 rfl rfl ?_
    refine s_aload_n hG dX9_takesAct_50 1 rfl rfl ?_
    refine s_iload_n hG dX9_takesAct_51 2 rfl rfl ?_
    refine s_iconst hG dX9_takesAct_52 ic_1 ?_
    refine s_callV (a := 1) (c := 9) (inj := inI) (As := [.int a1, .int 1]) (st := [.int v4]) rfl hG hE dX9_takesAct_53 hR (by decide) vv_X9_340 (by decide) rfl kM_1 rfl (Nat.le_of_ble_eq_true rfl) rfl (fun zv zh zq => c_X9_freesAct w (xl x) a1 1 h5 zv zh zq) (fun v6 h7 => ?_)
    refine s_iadd hG dX9_takesAct_56 ?_
    exact s_iret hG hT dX9_takesAct_57
  · refine s_tsw (off := 99) hG dX9_takesAct_1 3 (by decide) (tgt := 100) (by decide) (fun q8 => ?_) (fun q8 => ?_)
    · refine s_aload_n hG dX9_takesAct_100 0 rfl rfl ?_
      refine s_iload_n hG dX9_takesAct_101 1 rfl rfl ?_
      refine s_iload_n hG dX9_takesAct_102 2 rfl rfl ?_
      refine s_callV (a := 1) (c := 9) (inj := inI) (As := [.int a1, .int a2]) (st := []) rfl hG hE dX9_takesAct_103 hR (by decide) vv_X9_343 (by decide) rfl kM_1 rfl (Nat.le_of_ble_eq_true rfl) rfl (fun zv zh zq => c_X9_plainTakes w (xl x) a1 a2 h zv zh zq) (fun v9 h10 => ?_)
      exact s_iret hG hT dX9_takesAct_106
    · refine s_tsw (off := 57) hG dX9_takesAct_1 4 (by decide) (tgt := 58) (by decide) (fun q11 => ?_) (fun q11 => ?_)
      · refine s_aload_n hG dX9_takesAct_58 0 rfl rfl ?_
        refine s_bipush hG dX9_takesAct_59 bc_50 ?_
        refine s_callV (a := 1) (c := 9) (inj := inV) (As := [.int 50]) (st := []) rfl hG hE dX9_takesAct_61 hR (by decide) vv_X9_325 (by decide) rfl kM_1 rfl (Nat.le_of_ble_eq_true rfl) rfl (fun zv zh zq => c_X9_body w (xl x) 50 h zv zh zq) (fun v12 h13 => ?_)
        refine s_aload_n hG dX9_takesAct_64 0 rfl rfl ?_
        refine s_iload_n hG dX9_takesAct_65 1 rfl rfl ?_
        refine s_iload_n hG dX9_takesAct_66 2 rfl rfl ?_
        refine s_aload_n hG dX9_takesAct_67 0 rfl rfl ?_
        refine s_getI hG hE dX9_takesAct_68 fl_X9_13 rfl kM_1 ?_
        refine s_isub hG dX9_takesAct_71 ?_
        refine s_callV (a := 1) (c := 9) (inj := inI) (As := [.int a1, .int (a2 - (gi h13 1 1))]) (st := []) rfl hG hE dX9_takesAct_72 hR (by decide) vv_X9_343 (by decide) rfl kM_1 rfl (Nat.le_of_ble_eq_true rfl) rfl (fun zv zh zq => c_X9_plainTakes w (xl x) a1 (a2 - (gi h13 1 1)) h13 zv zh zq) (fun v14 h15 => ?_)
        exact s_iret hG hT dX9_takesAct_75
      · refine s_tsw (off := 99) hG dX9_takesAct_1 5 (by decide) (tgt := 100) (by decide) (fun q16 => ?_) (fun q16 => ?_)
        · refine s_aload_n hG dX9_takesAct_100 0 rfl rfl ?_
          refine s_iload_n hG dX9_takesAct_101 1 rfl rfl ?_
          refine s_iload_n hG dX9_takesAct_102 2 rfl rfl ?_
          refine s_callV (a := 1) (c := 9) (inj := inI) (As := [.int a1, .int a2]) (st := []) rfl hG hE dX9_takesAct_103 hR (by decide) vv_X9_343 (by decide) rfl kM_1 rfl (Nat.le_of_ble_eq_true rfl) rfl (fun zv zh zq => c_X9_plainTakes w (xl x) a1 a2 h zv zh zq) (fun v17 h18 => ?_)
          exact s_iret hG hT dX9_takesAct_106
        · refine s_tsw (off := 75) hG dX9_takesAct_1 6 (by decide) (tgt := 76) (by decide) (fun q19 => ?_) (fun q19 => ?_)
          · refine s_aload_n hG dX9_takesAct_76 0 rfl rfl ?_
            refine s_bipush hG dX9_takesAct_77 bc_70 ?_
            refine s_callV (a := 1) (c := 9) (inj := inV) (As := [.int 70]) (st := []) rfl hG hE dX9_takesAct_79 hR (by decide) vv_X9_325 (by decide) rfl kM_1 rfl (Nat.le_of_ble_eq_true rfl) rfl (fun zv zh zq => c_X9_body w (xl x) 70 h zv zh zq) (fun v20 h21 => ?_)
            refine s_aload_n hG dX9_takesAct_82 0 rfl rfl ?_
            refine s_iload_n hG dX9_takesAct_83 1 rfl rfl ?_
            refine s_iload_n hG dX9_takesAct_84 2 rfl rfl ?_
            refine s_callV (a := 1) (c := 9) (inj := inI) (As := [.int a1, .int a2]) (st := []) rfl hG hE dX9_takesAct_85 hR (by decide) vv_X9_334 (by decide) rfl kM_1 rfl (Nat.le_of_ble_eq_true rfl) rfl (fun zv zh zq => c_X9_swearsAct w (xl x) a1 a2 h21 zv zh zq) (fun v22 h23 => ?_)
            refine s_istore (lv' := [(4, .int v22), (0, .ref (gB (GM w) + 1)), (1, .int a1), (2, .int a2)]) hG dX9_takesAct_88 (by decide) rfl ?_
            refine s_iload hG dX9_takesAct_90 0 rfl ?_
            refine s_aload_n hG dX9_takesAct_92 1 rfl rfl ?_
            refine s_iload_n hG dX9_takesAct_93 2 rfl rfl ?_
            refine s_iload_n hG dX9_takesAct_94 3 rfl rfl ?_
            refine s_callV (a := 1) (c := 9) (inj := inI) (As := [.int a1, .int a2]) (st := [.int v22]) rfl hG hE dX9_takesAct_95 hR (by decide) vv_X9_343 (by decide) rfl kM_1 rfl (Nat.le_of_ble_eq_true rfl) rfl (fun zv zh zq => c_X9_plainTakes w (xl x) a1 a2 h23 zv zh zq) (fun v24 h25 => ?_)
            refine s_isub hG dX9_takesAct_98 ?_
            exact s_iret hG hT dX9_takesAct_99
          · refine s_tswD (tgt := 100) hG dX9_takesAct_1 (by decide) (by have zq1 := lv_neT q1 (show (2 : Int32).toInt = 2 by decide); have zq8 := lv_neT q8 (show (3 : Int32).toInt = 3 by decide); have zq11 := lv_neT q11 (show (4 : Int32).toInt = 4 by decide); have zq16 := lv_neT q16 (show (5 : Int32).toInt = 5 by decide); have zq19 := lv_neT q19 (show (6 : Int32).toInt = 6 by decide); omega) ?_
            refine s_aload_n hG dX9_takesAct_100 0 rfl rfl ?_
            refine s_iload_n hG dX9_takesAct_101 1 rfl rfl ?_
            refine s_iload_n hG dX9_takesAct_102 2 rfl rfl ?_
            refine s_callV (a := 1) (c := 9) (inj := inI) (As := [.int a1, .int a2]) (st := []) rfl hG hE dX9_takesAct_103 hR (by decide) vv_X9_343 (by decide) rfl kM_1 rfl (Nat.le_of_ble_eq_true rfl) rfl (fun zv zh zq => c_X9_plainTakes w (xl x) a1 a2 h zv zh zq) (fun v26 h27 => ?_)
            exact s_iret hG hT dX9_takesAct_106

theorem c_X9_takesAct (w : WT) (l : Launch) (a1 : Int32) (a2 : Int32) (h : Hp) : ∀ v h', m_X9_takesAct a1 a2 h = some (v, h') → MetM l (GM w) yX9_takesAct cX9_takesAct 5 (some .int) 8 [.ref (gB (GM w) + 1), .int a1, .int a2] h (inI v) h' :=
  met_of (by decide) (lokM w) (Nat.le_of_ble_eq_true rfl) (fun x hx hG hE hR hT => s_X9_takesAct w hx hG hE hR hT a1 a2 h)
theorem vv_X9_346 : VV RX9 346 yX9_takesAct cX9_takesAct 5 (some .int) 2 := ⟨⟨gw_at 1536 (by decide +kernel) (by decide +kernel), gw_at 1539 (by decide +kernel) (by decide +kernel), gw_at 96 (by decide +kernel) (by decide +kernel), by decide +kernel, by decide⟩, gw_at 1538 (by decide +kernel) (by decide +kernel), gw_at 83 (by decide +kernel) (by decide +kernel)⟩
def m_X9_act (a1 : Int32) (a2 : Int32) (a3 : Int32) (h : Hp) : Option (Int32 × Hp) := hb (si h 1 37 0) fun h1 => cb (m_X9_in a1 0 6 h1) fun v2 h3 => if v2 = 0 then some (0, h3) else cb (m_X9_in a2 0 2 h3) fun v5 h6 => if v5 = 0 then some (0, h6) else if a2 = 0 then cb (m_X9_swearsAct a1 a3 h6) fun v14 h15 => some (v14, h15) else if a2 = 1 then cb (m_X9_freesAct a1 a3 h6) fun v12 h13 => some (v12, h13) else cb (m_X9_takesAct a1 a3 h6) fun v10 h11 => some (v10, h11)
set_option maxRecDepth 20000 in
set_option maxHeartbeats 4000000 in
theorem s_X9_act (w : WT) {x : CT} {l : Launch} (hx : xl x = l) (hG : Gd x cX9_act 4 RX9) (hE : Ge x (GM w)) (hR : Rm x 9) (hT : Rt x (some .int)) (a1 : Int32) (a2 : Int32) (a3 : Int32) (h : Hp) : Sn x 4 (gA (GM w)) (0, 0) (ζM x (GM w) inI) (gW (GM w) h) 0 [(0, .ref (gB (GM w) + 1)), (1, .int a1), (2, .int a2), (3, .int a3)] [] (m_X9_act a1 a2 a3 h) := by
  unfold m_X9_act
  refine s_aload_n hG dX9_act_0 0 rfl rfl ?_
  refine s_iconst hG dX9_act_1 ic_0 ?_
  refine s_putI hG hE dX9_act_2 fl_X9_125 rfl rfl kM_1 (fun h1 => ?_)
  refine s_aload_n hG dX9_act_5 0 rfl rfl ?_
  refine s_iload_n hG dX9_act_6 1 rfl rfl ?_
  refine s_iconst hG dX9_act_7 ic_0 ?_
  refine s_bipush hG dX9_act_8 bc_6 ?_
  refine s_callV (a := 1) (c := 9) (inj := inI) (As := [.int a1, .int 0, .int 6]) (st := []) rfl hG hE dX9_act_10 hR (by decide) vv_X9_144 (by decide) rfl kM_1 rfl (Nat.le_of_ble_eq_true rfl) rfl (fun zv zh zq => c_X9_in w (xl x) a1 0 6 h1 zv zh zq) (fun v2 h3 => ?_)
  refine s_if_eq hG dX9_act_13 (tgt := 26) (by decide) (fun q4 => ?_) (fun q4 => ?_)
  · refine s_iconst hG dX9_act_26 ic_0 ?_
    exact s_iret hG hT dX9_act_27
  · refine s_aload_n hG dX9_act_16 0 rfl rfl ?_
    refine s_iload_n hG dX9_act_17 2 rfl rfl ?_
    refine s_iconst hG dX9_act_18 ic_0 ?_
    refine s_iconst hG dX9_act_19 ic_2 ?_
    refine s_callV (a := 1) (c := 9) (inj := inI) (As := [.int a2, .int 0, .int 2]) (st := []) rfl hG hE dX9_act_20 hR (by decide) vv_X9_144 (by decide) rfl kM_1 rfl (Nat.le_of_ble_eq_true rfl) rfl (fun zv zh zq => c_X9_in w (xl x) a2 0 2 h3 zv zh zq) (fun v5 h6 => ?_)
    refine s_if_ne hG dX9_act_23 (tgt := 28) (by decide) (fun q7 => ?_) (fun q7 => ?_)
    · refine s_iconst hG dX9_act_26 ic_0 ?_
      exact s_iret hG hT dX9_act_27
    · refine s_iload_n hG dX9_act_28 2 rfl rfl ?_
      refine s_if_ne hG dX9_act_29 (tgt := 41) (by decide) (fun q8 => ?_) (fun q8 => ?_)
      · refine s_aload_n hG dX9_act_32 0 rfl rfl ?_
        refine s_iload_n hG dX9_act_33 1 rfl rfl ?_
        refine s_iload_n hG dX9_act_34 3 rfl rfl ?_
        refine s_callV (a := 1) (c := 9) (inj := inI) (As := [.int a1, .int a3]) (st := []) rfl hG hE dX9_act_35 hR (by decide) vv_X9_334 (by decide) rfl kM_1 rfl (Nat.le_of_ble_eq_true rfl) rfl (fun zv zh zq => c_X9_swearsAct w (xl x) a1 a3 h6 zv zh zq) (fun v14 h15 => ?_)
        refine s_goto (tgt := 61) hG dX9_act_38 (by decide) ?_
        exact s_iret hG hT dX9_act_61
      · refine s_iload_n hG dX9_act_41 2 rfl rfl ?_
        refine s_iconst hG dX9_act_42 ic_1 ?_
        refine s_icmp_ne hG dX9_act_43 (tgt := 55) (by decide) (fun q9 => ?_) (fun q9 => ?_)
        · refine s_aload_n hG dX9_act_46 0 rfl rfl ?_
          refine s_iload_n hG dX9_act_47 1 rfl rfl ?_
          refine s_iload_n hG dX9_act_48 3 rfl rfl ?_
          refine s_callV (a := 1) (c := 9) (inj := inI) (As := [.int a1, .int a3]) (st := []) rfl hG hE dX9_act_49 hR (by decide) vv_X9_340 (by decide) rfl kM_1 rfl (Nat.le_of_ble_eq_true rfl) rfl (fun zv zh zq => c_X9_freesAct w (xl x) a1 a3 h6 zv zh zq) (fun v12 h13 => ?_)
          refine s_goto (tgt := 61) hG dX9_act_52 (by decide) ?_
          exact s_iret hG hT dX9_act_61
        · refine s_aload_n hG dX9_act_55 0 rfl rfl ?_
          refine s_iload_n hG dX9_act_56 1 rfl rfl ?_
          refine s_iload_n hG dX9_act_57 3 rfl rfl ?_
          refine s_callV (a := 1) (c := 9) (inj := inI) (As := [.int a1, .int a3]) (st := []) rfl hG hE dX9_act_58 hR (by decide) vv_X9_346 (by decide) rfl kM_1 rfl (Nat.le_of_ble_eq_true rfl) rfl (fun zv zh zq => c_X9_takesAct w (xl x) a1 a3 h6 zv zh zq) (fun v10 h11 => ?_)
          exact s_iret hG hT dX9_act_61

theorem c_X9_act (w : WT) (l : Launch) (a1 : Int32) (a2 : Int32) (a3 : Int32) (h : Hp) : ∀ v h', m_X9_act a1 a2 a3 h = some (v, h') → MetM l (GM w) yX9_act cX9_act 4 (some .int) 9 [.ref (gB (GM w) + 1), .int a1, .int a2, .int a3] h (inI v) h' :=
  met_of (by decide) (lokM w) (Nat.le_of_ble_eq_true rfl) (fun x hx hG hE hR hT => s_X9_act w hx hG hE hR hT a1 a2 a3 h)
theorem bc_19 : (Int8.ofInt 19).toInt32 = 19 := by decide
def m_X9_trace (a1 : Int32) (h : Hp) : Option (Int32 × Hp) := cb (m_X9_in a1 0 19 h) fun v1 h2 => if v1 = 0 then some ((-1), h2) else if (gi h2 1 37) ≤ a1 then some ((-1), h2) else ck (inb a1 20) (some (gi h2 25 a1.toNatClampNeg, h2))
set_option maxRecDepth 20000 in
set_option maxHeartbeats 4000000 in
theorem s_X9_trace (w : WT) {x : CT} {l : Launch} (hx : xl x = l) (hG : Gd x cX9_trace 2 RX9) (hE : Ge x (GM w)) (hR : Rm x 2) (hT : Rt x (some .int)) (a1 : Int32) (h : Hp) : Sn x 2 (gA (GM w)) (0, 0) (ζM x (GM w) inI) (gW (GM w) h) 0 [(0, .ref (gB (GM w) + 1)), (1, .int a1)] [] (m_X9_trace a1 h) := by
  unfold m_X9_trace
  refine s_aload_n hG dX9_trace_0 0 rfl rfl ?_
  refine s_iload_n hG dX9_trace_1 1 rfl rfl ?_
  refine s_iconst hG dX9_trace_2 ic_0 ?_
  refine s_bipush hG dX9_trace_3 bc_19 ?_
  refine s_callV (a := 1) (c := 9) (inj := inI) (As := [.int a1, .int 0, .int 19]) (st := []) rfl hG hE dX9_trace_5 hR (by decide) vv_X9_144 (by decide) rfl kM_1 rfl (Nat.le_of_ble_eq_true rfl) rfl (fun zv zh zq => c_X9_in w (xl x) a1 0 19 h zv zh zq) (fun v1 h2 => ?_)
  refine s_if_eq hG dX9_trace_8 (tgt := 28) (by decide) (fun q3 => ?_) (fun q3 => ?_)
  · refine s_iconst hG dX9_trace_28 ic_m1 ?_
    exact s_iret hG hT dX9_trace_29
  · refine s_iload_n hG dX9_trace_11 1 rfl rfl ?_
    refine s_aload_n hG dX9_trace_12 0 rfl rfl ?_
    refine s_getI hG hE dX9_trace_13 fl_X9_125 rfl kM_1 ?_
    refine s_icmp_ge hG dX9_trace_16 (tgt := 28) (by decide) (fun q4 => ?_) (fun q4 => ?_)
    · refine s_iconst hG dX9_trace_28 ic_m1 ?_
      exact s_iret hG hT dX9_trace_29
    · refine s_aload_n hG dX9_trace_19 0 rfl rfl ?_
      refine s_getS hG hE dX9_trace_20 fl_X9_128 rfl kM_1 fM_9_38 (nzM kM_25) ?_
      refine s_iload_n hG dX9_trace_23 1 rfl rfl ?_
      refine s_ck (fun q5 => ?_)
      refine s_iald hG hE dX9_trace_24 kM_25 q5 ?_
      refine s_goto (tgt := 29) hG dX9_trace_25 (by decide) ?_
      exact s_iret hG hT dX9_trace_29

theorem c_X9_trace (w : WT) (l : Launch) (a1 : Int32) (h : Hp) : ∀ v h', m_X9_trace a1 h = some (v, h') → MetM l (GM w) yX9_trace cX9_trace 2 (some .int) 2 [.ref (gB (GM w) + 1), .int a1] h (inI v) h' :=
  met_of (by decide) (lokM w) (Nat.le_of_ble_eq_true rfl) (fun x hx hG hE hR hT => s_X9_trace w hx hG hE hR hT a1 h)
def m_X9_taken_L47 (a1 : Int32) (a2 : Int32) (h : Hp) : Option (Int32 × Hp) := if a2 = 3 then if a1 = 4 then some (a1, h) else some ((-12), h) else some ((-12), h)
set_option maxRecDepth 20000 in
set_option maxHeartbeats 4000000 in
theorem s_X9_taken_L47 (w : WT) {x : CT} {l : Launch} (hx : xl x = l) (hG : Gd x cX9_taken 3 RX9) (hE : Ge x (GM w)) (hR : Rm x 2) (hT : Rt x (some .int)) (a1 : Int32) (a2 : Int32) (h : Hp) : Sn x 3 (gA (GM w)) (0, 0) (ζM x (GM w) inI) (gW (GM w) h) 47 [(1, .int a1), (2, .int a2)] [] (m_X9_taken_L47 a1 a2 h) := by
  unfold m_X9_taken_L47
  refine s_iload_n hG dX9_taken_47 1 rfl rfl ?_
  refine s_iconst hG dX9_taken_48 ic_3 ?_
  refine s_icmp_ne hG dX9_taken_49 (tgt := 61) (by decide) (fun q1 => ?_) (fun q1 => ?_)
  · refine s_iload_n hG dX9_taken_52 0 rfl rfl ?_
    refine s_iconst hG dX9_taken_53 ic_4 ?_
    refine s_icmp_ne hG dX9_taken_54 (tgt := 61) (by decide) (fun q2 => ?_) (fun q2 => ?_)
    · refine s_iload_n hG dX9_taken_57 0 rfl rfl ?_
      refine s_goto (tgt := 63) hG dX9_taken_58 (by decide) ?_
      exact s_iret hG hT dX9_taken_63
    · refine s_bipush hG dX9_taken_61 bc_m12 ?_
      exact s_iret hG hT dX9_taken_63
  · refine s_bipush hG dX9_taken_61 bc_m12 ?_
    exact s_iret hG hT dX9_taken_63

def m_X9_taken (a1 : Int32) (a2 : Int32) (h : Hp) : Option (Int32 × Hp) := cb (m_X9_in a2 0 6 h) fun v1 h2 => if v1 = 0 then some ((-2), h2) else cb (m_X9_in a1 0 6 h2) fun v4 h5 => if v4 = 0 then some ((-11), h5) else if a2 = 0 then some (a1, h5) else if a1 = a2 then some (a1, h5) else if a2 = 1 then if a1 = 2 then some (a1, h5) else m_X9_taken_L47 a1 a2 h5 else m_X9_taken_L47 a1 a2 h5
set_option maxRecDepth 20000 in
set_option maxHeartbeats 4000000 in
theorem s_X9_taken (w : WT) {x : CT} {l : Launch} (hx : xl x = l) (hG : Gd x cX9_taken 3 RX9) (hE : Ge x (GM w)) (hR : Rm x 2) (hT : Rt x (some .int)) (a1 : Int32) (a2 : Int32) (h : Hp) : Sn x 3 (gA (GM w)) (0, 0) (ζM x (GM w) inI) (gW (GM w) h) 0 [(0, .ref (gB (GM w) + 1)), (1, .int a1), (2, .int a2)] [] (m_X9_taken a1 a2 h) := by
  unfold m_X9_taken
  refine s_aload_n hG dX9_taken_0 0 rfl rfl ?_
  refine s_iload_n hG dX9_taken_1 2 rfl rfl ?_
  refine s_iconst hG dX9_taken_2 ic_0 ?_
  refine s_bipush hG dX9_taken_3 bc_6 ?_
  refine s_callV (a := 1) (c := 9) (inj := inI) (As := [.int a2, .int 0, .int 6]) (st := []) rfl hG hE dX9_taken_5 hR (by decide) vv_X9_144 (by decide) rfl kM_1 rfl (Nat.le_of_ble_eq_true rfl) rfl (fun zv zh zq => c_X9_in w (xl x) a2 0 6 h zv zh zq) (fun v1 h2 => ?_)
  refine s_if_ne hG dX9_taken_8 (tgt := 14) (by decide) (fun q3 => ?_) (fun q3 => ?_)
  · refine s_bipush hG dX9_taken_11 bc_m2 ?_
    exact s_iret hG hT dX9_taken_13
  · refine s_aload_n hG dX9_taken_14 0 rfl rfl ?_
    refine s_iload_n hG dX9_taken_15 1 rfl rfl ?_
    refine s_iconst hG dX9_taken_16 ic_0 ?_
    refine s_bipush hG dX9_taken_17 bc_6 ?_
    refine s_callV (a := 1) (c := 9) (inj := inI) (As := [.int a1, .int 0, .int 6]) (st := []) rfl hG hE dX9_taken_19 hR (by decide) vv_X9_144 (by decide) rfl kM_1 rfl (Nat.le_of_ble_eq_true rfl) rfl (fun zv zh zq => c_X9_in w (xl x) a1 0 6 h2 zv zh zq) (fun v4 h5 => ?_)
    refine s_if_ne hG dX9_taken_22 (tgt := 28) (by decide) (fun q6 => ?_) (fun q6 => ?_)
    · refine s_bipush hG dX9_taken_25 bc_m11 ?_
      exact s_iret hG hT dX9_taken_27
    · refine s_iload_n hG dX9_taken_28 2 rfl rfl ?_
      refine s_if_eq hG dX9_taken_29 (tgt := 57) (by decide) (fun q7 => ?_) (fun q7 => ?_)
      · refine s_iload_n hG dX9_taken_57 1 rfl rfl ?_
        refine s_goto (tgt := 63) hG dX9_taken_58 (by decide) ?_
        exact s_iret hG hT dX9_taken_63
      · refine s_iload_n hG dX9_taken_32 1 rfl rfl ?_
        refine s_iload_n hG dX9_taken_33 2 rfl rfl ?_
        refine s_icmp_eq hG dX9_taken_34 (tgt := 57) (by decide) (fun q8 => ?_) (fun q8 => ?_)
        · refine s_iload_n hG dX9_taken_57 1 rfl rfl ?_
          refine s_goto (tgt := 63) hG dX9_taken_58 (by decide) ?_
          exact s_iret hG hT dX9_taken_63
        · refine s_iload_n hG dX9_taken_37 2 rfl rfl ?_
          refine s_iconst hG dX9_taken_38 ic_1 ?_
          refine s_icmp_ne hG dX9_taken_39 (tgt := 47) (by decide) (fun q9 => ?_) (fun q9 => ?_)
          · refine s_iload_n hG dX9_taken_42 1 rfl rfl ?_
            refine s_iconst hG dX9_taken_43 ic_2 ?_
            refine s_icmp_eq hG dX9_taken_44 (tgt := 57) (by decide) (fun q10 => ?_) (fun q10 => ?_)
            · refine s_iload_n hG dX9_taken_57 1 rfl rfl ?_
              refine s_goto (tgt := 63) hG dX9_taken_58 (by decide) ?_
              exact s_iret hG hT dX9_taken_63
            · refine s_lv [1, 2] rfl ?_
              exact s_X9_taken_L47 w hx hG hE hR hT a1 a2 h5
          · refine s_lv [1, 2] rfl ?_
            exact s_X9_taken_L47 w hx hG hE hR hT a1 a2 h5

theorem c_X9_taken (w : WT) (l : Launch) (a1 : Int32) (a2 : Int32) (h : Hp) : ∀ v h', m_X9_taken a1 a2 h = some (v, h') → MetM l (GM w) yX9_taken cX9_taken 3 (some .int) 2 [.ref (gB (GM w) + 1), .int a1, .int a2] h (inI v) h' :=
  met_of (by decide) (lokM w) (Nat.le_of_ble_eq_true rfl) (fun x hx hG hE hR hT => s_X9_taken w hx hG hE hR hT a1 a2 h)
def m_X9_count (a1 : Int32) (h : Hp) : Option (Int32 × Hp) := if a1 = 0 then some (gi h 1 0, h) else if a1 = 1 then some (gi h 1 1, h) else if a1 = 2 then some (gi h 1 7, h) else if a1 = 3 then some (gi h 1 8, h) else if a1 = 4 then some (gi h 1 37, h) else some ((-2), h)
set_option maxRecDepth 20000 in
set_option maxHeartbeats 4000000 in
theorem s_X9_count (w : WT) {x : CT} {l : Launch} (hx : xl x = l) (hG : Gd x cX9_count 2 RX9) (hE : Ge x (GM w)) (hR : Rm x 1) (hT : Rt x (some .int)) (a1 : Int32) (h : Hp) : Sn x 2 (gA (GM w)) (0, 0) (ζM x (GM w) inI) (gW (GM w) h) 0 [(0, .ref (gB (GM w) + 1)), (1, .int a1)] [] (m_X9_count a1 h) := by
  unfold m_X9_count
  refine s_iload_n hG dX9_count_0 1 rfl rfl ?_
  refine s_tsw (off := 35) hG dX9_count_1 0 (by decide) (tgt := 36) (by decide) (fun q1 => ?_) (fun q1 => ?_)
  · refine s_aload_n hG dX9_count_36 0 rfl rfl ?_
    refine s_getI hG hE dX9_count_37 fl_X9_7 rfl kM_1 ?_
    exact s_iret hG hT dX9_count_40
  · refine s_tsw (off := 40) hG dX9_count_1 1 (by decide) (tgt := 41) (by decide) (fun q2 => ?_) (fun q2 => ?_)
    · refine s_aload_n hG dX9_count_41 0 rfl rfl ?_
      refine s_getI hG hE dX9_count_42 fl_X9_13 rfl kM_1 ?_
      exact s_iret hG hT dX9_count_45
    · refine s_tsw (off := 45) hG dX9_count_1 2 (by decide) (tgt := 46) (by decide) (fun q3 => ?_) (fun q3 => ?_)
      · refine s_aload_n hG dX9_count_46 0 rfl rfl ?_
        refine s_getI hG hE dX9_count_47 fl_X9_32 rfl kM_1 ?_
        exact s_iret hG hT dX9_count_50
      · refine s_tsw (off := 50) hG dX9_count_1 3 (by decide) (tgt := 51) (by decide) (fun q4 => ?_) (fun q4 => ?_)
        · refine s_aload_n hG dX9_count_51 0 rfl rfl ?_
          refine s_getI hG hE dX9_count_52 fl_X9_35 rfl kM_1 ?_
          exact s_iret hG hT dX9_count_55
        · refine s_tsw (off := 55) hG dX9_count_1 4 (by decide) (tgt := 56) (by decide) (fun q5 => ?_) (fun q5 => ?_)
          · refine s_aload_n hG dX9_count_56 0 rfl rfl ?_
            refine s_getI hG hE dX9_count_57 fl_X9_125 rfl kM_1 ?_
            exact s_iret hG hT dX9_count_60
          · refine s_tswD (tgt := 61) hG dX9_count_1 (by decide) (by have zq1 := lv_neT q1 (show (0 : Int32).toInt = 0 by decide); have zq2 := lv_neT q2 (show (1 : Int32).toInt = 1 by decide); have zq3 := lv_neT q3 (show (2 : Int32).toInt = 2 by decide); have zq4 := lv_neT q4 (show (3 : Int32).toInt = 3 by decide); have zq5 := lv_neT q5 (show (4 : Int32).toInt = 4 by decide); omega) ?_
            refine s_bipush hG dX9_count_61 bc_m2 ?_
            exact s_iret hG hT dX9_count_63

theorem c_X9_count (w : WT) (l : Launch) (a1 : Int32) (h : Hp) : ∀ v h', m_X9_count a1 h = some (v, h') → MetM l (GM w) yX9_count cX9_count 2 (some .int) 1 [.ref (gB (GM w) + 1), .int a1] h (inI v) h' :=
  met_of (by decide) (lokM w) (Nat.le_of_ble_eq_true rfl) (fun x hx hG hE hR hT => s_X9_count w hx hG hE hR hT a1 h)
