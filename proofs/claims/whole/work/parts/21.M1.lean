theorem vv_X9_232 : VV RX9 232 yX9_openOf cX9_openOf 2 (some .int) 1 := ⟨⟨gw_at 1346 (by decide +kernel) (by decide +kernel), gw_at 1349 (by decide +kernel) (by decide +kernel), gw_at 96 (by decide +kernel) (by decide +kernel), by decide +kernel, by decide⟩, gw_at 1348 (by decide +kernel) (by decide +kernel), gw_at 52 (by decide +kernel) (by decide +kernel)⟩
def m_X9_factOf (a1 : Int32) (a2 : Int32) (a3 : Int32) (h : Hp) : Option (Int32 × Hp) := if a1 = 0 then cb (m_X9_get a2 1 h) fun v2 h3 => some (v2, h3) else if a1 = 1 then cb (m_X9_get a2 3 h) fun v5 h6 => some (v5, h6) else if a1 = 2 then cb (m_X9_openOf a2 h) fun v8 h9 => some (v8, h9) else if a1 = 3 then cb (m_X9_get a2 5 h) fun v11 h12 => some (v11, h12) else if a1 = 4 then cb (m_X9_get a2 2 h) fun v14 h15 => some (v14, h15) else if a1 = 5 then cb (m_X9_get a2 4 h) fun v17 h18 => some (1 - v17, h18) else if a1 = 6 then cb (m_X9_get a2 6 h) fun v20 h21 => some (v20, h21) else if a1 = 7 then cb (m_X9_get a2 7 h) fun v23 h24 => some (v23, h24) else if a1 = 8 then cb (m_X9_get a2 8 h) fun v26 h27 => some (v26, h27) else some (a3, h)
set_option maxRecDepth 20000 in
set_option maxHeartbeats 4000000 in
theorem s_X9_factOf (w : WT) {x : CT} {l : Launch} (hx : xl x = l) (hG : Gd x cX9_factOf 4 RX9) (hE : Ge x (GM w)) (hR : Rm x 3) (hT : Rt x (some .int)) (a1 : Int32) (a2 : Int32) (a3 : Int32) (h : Hp) : Sn x 4 (gA (GM w)) (0, 0) (ζM x (GM w) inI) (gW (GM w) h) 0 [(0, .ref (gB (GM w) + 1)), (1, .int a1), (2, .int a2), (3, .int a3)] [] (m_X9_factOf a1 a2 a3 h) := by
  unfold m_X9_factOf
  refine s_iload_n hG dX9_factOf_0 1 rfl rfl ?_
  refine s_tsw (off := 51) hG dX9_factOf_1 0 (by decide) (tgt := 52) (by decide) (fun q1 => ?_) (fun q1 => ?_)
  · refine s_aload_n hG dX9_factOf_52 0 rfl rfl ?_
    refine s_iload_n hG dX9_factOf_53 2 rfl rfl ?_
    refine s_iconst hG dX9_factOf_54 ic_1 ?_
    refine s_callV (a := 1) (c := 9) (inj := inI) (As := [.int a2, .int 1]) (st := []) rfl hG hE dX9_factOf_55 hR (by decide) vv_X9_148 (by decide) rfl kM_1 rfl (Nat.le_of_ble_eq_true rfl) rfl (fun zv zh zq => c_X9_get w (xl x) a2 1 h zv zh zq) (fun v2 h3 => ?_)
    exact s_iret hG hT dX9_factOf_58
  · refine s_tsw (off := 58) hG dX9_factOf_1 1 (by decide) (tgt := 59) (by decide) (fun q4 => ?_) (fun q4 => ?_)
    · refine s_aload_n hG dX9_factOf_59 0 rfl rfl ?_
      refine s_iload_n hG dX9_factOf_60 2 rfl rfl ?_
      refine s_iconst hG dX9_factOf_61 ic_3 ?_
      refine s_callV (a := 1) (c := 9) (inj := inI) (As := [.int a2, .int 3]) (st := []) rfl hG hE dX9_factOf_62 hR (by decide) vv_X9_148 (by decide) rfl kM_1 rfl (Nat.le_of_ble_eq_true rfl) rfl (fun zv zh zq => c_X9_get w (xl x) a2 3 h zv zh zq) (fun v5 h6 => ?_)
      exact s_iret hG hT dX9_factOf_65
    · refine s_tsw (off := 65) hG dX9_factOf_1 2 (by decide) (tgt := 66) (by decide) (fun q7 => ?_) (fun q7 => ?_)
      · refine s_aload_n hG dX9_factOf_66 0 rfl rfl ?_
        refine s_iload_n hG dX9_factOf_67 2 rfl rfl ?_
        refine s_callV (a := 1) (c := 9) (inj := inI) (As := [.int a2]) (st := []) rfl hG hE dX9_factOf_68 hR (by decide) vv_X9_232 (by decide) rfl kM_1 rfl (Nat.le_of_ble_eq_true rfl) rfl (fun zv zh zq => c_X9_openOf w (xl x) a2 h zv zh zq) (fun v8 h9 => ?_)
        exact s_iret hG hT dX9_factOf_71
      · refine s_tsw (off := 71) hG dX9_factOf_1 3 (by decide) (tgt := 72) (by decide) (fun q10 => ?_) (fun q10 => ?_)
        · refine s_aload_n hG dX9_factOf_72 0 rfl rfl ?_
          refine s_iload_n hG dX9_factOf_73 2 rfl rfl ?_
          refine s_iconst hG dX9_factOf_74 ic_5 ?_
          refine s_callV (a := 1) (c := 9) (inj := inI) (As := [.int a2, .int 5]) (st := []) rfl hG hE dX9_factOf_75 hR (by decide) vv_X9_148 (by decide) rfl kM_1 rfl (Nat.le_of_ble_eq_true rfl) rfl (fun zv zh zq => c_X9_get w (xl x) a2 5 h zv zh zq) (fun v11 h12 => ?_)
          exact s_iret hG hT dX9_factOf_78
        · refine s_tsw (off := 78) hG dX9_factOf_1 4 (by decide) (tgt := 79) (by decide) (fun q13 => ?_) (fun q13 => ?_)
          · refine s_aload_n hG dX9_factOf_79 0 rfl rfl ?_
            refine s_iload_n hG dX9_factOf_80 2 rfl rfl ?_
            refine s_iconst hG dX9_factOf_81 ic_2 ?_
            refine s_callV (a := 1) (c := 9) (inj := inI) (As := [.int a2, .int 2]) (st := []) rfl hG hE dX9_factOf_82 hR (by decide) vv_X9_148 (by decide) rfl kM_1 rfl (Nat.le_of_ble_eq_true rfl) rfl (fun zv zh zq => c_X9_get w (xl x) a2 2 h zv zh zq) (fun v14 h15 => ?_)
            exact s_iret hG hT dX9_factOf_85
          · refine s_tsw (off := 85) hG dX9_factOf_1 5 (by decide) (tgt := 86) (by decide) (fun q16 => ?_) (fun q16 => ?_)
            · refine s_iconst hG dX9_factOf_86 ic_1 ?_
              refine s_aload_n hG dX9_factOf_87 0 rfl rfl ?_
              refine s_iload_n hG dX9_factOf_88 2 rfl rfl ?_
              refine s_iconst hG dX9_factOf_89 ic_4 ?_
              refine s_callV (a := 1) (c := 9) (inj := inI) (As := [.int a2, .int 4]) (st := [.int 1]) rfl hG hE dX9_factOf_90 hR (by decide) vv_X9_148 (by decide) rfl kM_1 rfl (Nat.le_of_ble_eq_true rfl) rfl (fun zv zh zq => c_X9_get w (xl x) a2 4 h zv zh zq) (fun v17 h18 => ?_)
              refine s_isub hG dX9_factOf_93 ?_
              exact s_iret hG hT dX9_factOf_94
            · refine s_tsw (off := 94) hG dX9_factOf_1 6 (by decide) (tgt := 95) (by decide) (fun q19 => ?_) (fun q19 => ?_)
              · refine s_aload_n hG dX9_factOf_95 0 rfl rfl ?_
                refine s_iload_n hG dX9_factOf_96 2 rfl rfl ?_
                refine s_bipush hG dX9_factOf_97 bc_6 ?_
                refine s_callV (a := 1) (c := 9) (inj := inI) (As := [.int a2, .int 6]) (st := []) rfl hG hE dX9_factOf_99 hR (by decide) vv_X9_148 (by decide) rfl kM_1 rfl (Nat.le_of_ble_eq_true rfl) rfl (fun zv zh zq => c_X9_get w (xl x) a2 6 h zv zh zq) (fun v20 h21 => ?_)
                exact s_iret hG hT dX9_factOf_102
              · refine s_tsw (off := 102) hG dX9_factOf_1 7 (by decide) (tgt := 103) (by decide) (fun q22 => ?_) (fun q22 => ?_)
                · refine s_aload_n hG dX9_factOf_103 0 rfl rfl ?_
                  refine s_iload_n hG dX9_factOf_104 2 rfl rfl ?_
                  refine s_bipush hG dX9_factOf_105 bc_7 ?_
                  refine s_callV (a := 1) (c := 9) (inj := inI) (As := [.int a2, .int 7]) (st := []) rfl hG hE dX9_factOf_107 hR (by decide) vv_X9_148 (by decide) rfl kM_1 rfl (Nat.le_of_ble_eq_true rfl) rfl (fun zv zh zq => c_X9_get w (xl x) a2 7 h zv zh zq) (fun v23 h24 => ?_)
                  exact s_iret hG hT dX9_factOf_110
                · refine s_tsw (off := 110) hG dX9_factOf_1 8 (by decide) (tgt := 111) (by decide) (fun q25 => ?_) (fun q25 => ?_)
                  · refine s_aload_n hG dX9_factOf_111 0 rfl rfl ?_
                    refine s_iload_n hG dX9_factOf_112 2 rfl rfl ?_
                    refine s_bipush hG dX9_factOf_113 bc_8 ?_
                    refine s_callV (a := 1) (c := 9) (inj := inI) (As := [.int a2, .int 8]) (st := []) rfl hG hE dX9_factOf_115 hR (by decide) vv_X9_148 (by decide) rfl kM_1 rfl (Nat.le_of_ble_eq_true rfl) rfl (fun zv zh zq => c_X9_get w (xl x) a2 8 h zv zh zq) (fun v26 h27 => ?_)
                    exact s_iret hG hT dX9_factOf_118
                  · refine s_tswD (tgt := 119) hG dX9_factOf_1 (by decide) (by have zq1 := lv_neT q1 (show (0 : Int32).toInt = 0 by decide); have zq4 := lv_neT q4 (show (1 : Int32).toInt = 1 by decide); have zq7 := lv_neT q7 (show (2 : Int32).toInt = 2 by decide); have zq10 := lv_neT q10 (show (3 : Int32).toInt = 3 by decide); have zq13 := lv_neT q13 (show (4 : Int32).toInt = 4 by decide); have zq16 := lv_neT q16 (show (5 : Int32).toInt = 5 by decide); have zq19 := lv_neT q19 (show (6 : Int32).toInt = 6 by decide); have zq22 := lv_neT q22 (show (7 : Int32).toInt = 7 by decide); have zq25 := lv_neT q25 (show (8 : Int32).toInt = 8 by decide); omega) ?_
                    refine s_iload_n hG dX9_factOf_119 3 rfl rfl ?_
                    exact s_iret hG hT dX9_factOf_120

theorem c_X9_factOf (w : WT) (l : Launch) (a1 : Int32) (a2 : Int32) (a3 : Int32) (h : Hp) : ∀ v h', m_X9_factOf a1 a2 a3 h = some (v, h') → MetM l (GM w) yX9_factOf cX9_factOf 4 (some .int) 3 [.ref (gB (GM w) + 1), .int a1, .int a2, .int a3] h (inI v) h' :=
  met_of (by decide) (lokM w) (Nat.le_of_ble_eq_true rfl) (fun x hx hG hE hR hT => s_X9_factOf w hx hG hE hR hT a1 a2 a3 h)
theorem fl_X9_92 : FL RX9 92 9 27 := ⟨by decide, by decide, gw_at 1094 (by decide +kernel) (by decide +kernel), rfl⟩
theorem fM_9_27 : SM 1 27 = some 20 := rfl
theorem kM_20 : LM 20 = (22, 100) := rfl
theorem vv_X9_235 : VV RX9 235 yX9_factOf cX9_factOf 4 (some .int) 3 := ⟨⟨gw_at 1362 (by decide +kernel) (by decide +kernel), gw_at 1365 (by decide +kernel) (by decide +kernel), gw_at 96 (by decide +kernel) (by decide +kernel), by decide +kernel, by decide⟩, gw_at 1364 (by decide +kernel) (by decide +kernel), gw_at 56 (by decide +kernel) (by decide +kernel)⟩
theorem bc_61 : (Int8.ofInt 61).toInt32 = 61 := by decide
theorem bc_m38 : (Int8.ofInt (-38)).toInt32 = (-38) := by decide
def m_X9_holds_L63 (k11 : Int32 → Int32 → Int32 → Int32 → Int32 → Hp → Option (Int32 × Hp)) (a1 : Int32) (a2 : Int32) (a3 : Int32) (a4 : Int32) (a5 : Int32) (t0 : Int32) (t1 : Int32) (t2 : Nat) (h : Hp) : Option (Int32 × Hp) := ck (inb t1 100) (ck (isb t0) (hb (si h t2 t1.toNatClampNeg t0) fun h2 => vb (a5 + 1) fun v4 => k11 a1 a2 a3 a4 v4 h2))
set_option maxRecDepth 20000 in
set_option maxHeartbeats 4000000 in
theorem s_X9_holds_L63 (w : WT) {x : CT} {l : Launch} (hx : xl x = l) (hG : Gd x cX9_holds 9 RX9) (hE : Ge x (GM w)) (hR : Rm x 4) (hT : Rt x (some .boolean)) (k11 : Int32 → Int32 → Int32 → Int32 → Int32 → Hp → Option (Int32 × Hp)) (hk11 : ∀ (a1 : Int32) (a2 : Int32) (a3 : Int32) (a4 : Int32) (a5 : Int32) (h : Hp), Sn x 9 (gA (GM w)) (0, 0) (ζM x (GM w) inI) (gW (GM w) h) 11 [(0, .ref (gB (GM w) + 1)), (1, .int a1), (2, .int a2), (3, .int a3), (4, .int a4), (5, .int a5)] [] (k11 a1 a2 a3 a4 a5 h)) (a1 : Int32) (a2 : Int32) (a3 : Int32) (a4 : Int32) (a5 : Int32) (t0 : Int32) (t1 : Int32) (t2 : Nat) (q2 : LM t2 = (22, 100)) (h : Hp) : Sn x 9 (gA (GM w)) (0, 0) (ζM x (GM w) inI) (gW (GM w) h) 63 [(0, .ref (gB (GM w) + 1)), (1, .int a1), (2, .int a2), (3, .int a3), (4, .int a4), (5, .int a5)] [.int t0, .int t1, .ref (gB (GM w) + t2)] (m_X9_holds_L63 k11 a1 a2 a3 a4 a5 t0 t1 t2 h) := by
  unfold m_X9_holds_L63
  refine s_ck (fun q1 => ?_)
  refine s_ck (fun q3 => ?_)
  refine s_zast hG hE dX9_holds_63 q2 q1 (isb_cases q3) (fun h2 => ?_)
  refine s_goto (tgt := 250) hG dX9_holds_64 (by decide) ?_
  refine s_iinc hG dX9_holds_250 5 rfl ic_1 (by decide) (fun v4 => [(5, .int v4), (0, .ref (gB (GM w) + 1)), (1, .int a1), (2, .int a2), (3, .int a3), (4, .int a4)]) (fun _ => rfl) (fun v4 => ?_)
  refine s_goto (tgt := 11) hG dX9_holds_253 (by decide) ?_
  refine s_lv [1, 2, 3, 4, 5, 0] rfl ?_
  exact hk11 a1 a2 a3 a4 v4 h2

def m_X9_holds_L147 (k11 : Int32 → Int32 → Int32 → Int32 → Int32 → Hp → Option (Int32 × Hp)) (a1 : Int32) (a2 : Int32) (a3 : Int32) (a4 : Int32) (a5 : Int32) (t0 : Int32) (t1 : Int32) (t2 : Nat) (h : Hp) : Option (Int32 × Hp) := ck (inb t1 100) (ck (isb t0) (hb (si h t2 t1.toNatClampNeg t0) fun h2 => vb (a5 + 1) fun v4 => k11 a1 a2 a3 a4 v4 h2))
set_option maxRecDepth 20000 in
set_option maxHeartbeats 4000000 in
theorem s_X9_holds_L147 (w : WT) {x : CT} {l : Launch} (hx : xl x = l) (hG : Gd x cX9_holds 9 RX9) (hE : Ge x (GM w)) (hR : Rm x 4) (hT : Rt x (some .boolean)) (k11 : Int32 → Int32 → Int32 → Int32 → Int32 → Hp → Option (Int32 × Hp)) (hk11 : ∀ (a1 : Int32) (a2 : Int32) (a3 : Int32) (a4 : Int32) (a5 : Int32) (h : Hp), Sn x 9 (gA (GM w)) (0, 0) (ζM x (GM w) inI) (gW (GM w) h) 11 [(0, .ref (gB (GM w) + 1)), (1, .int a1), (2, .int a2), (3, .int a3), (4, .int a4), (5, .int a5)] [] (k11 a1 a2 a3 a4 a5 h)) (a1 : Int32) (a2 : Int32) (a3 : Int32) (a4 : Int32) (a5 : Int32) (t0 : Int32) (t1 : Int32) (t2 : Nat) (q2 : LM t2 = (22, 100)) (h : Hp) : Sn x 9 (gA (GM w)) (0, 0) (ζM x (GM w) inI) (gW (GM w) h) 147 [(0, .ref (gB (GM w) + 1)), (1, .int a1), (2, .int a2), (3, .int a3), (4, .int a4), (5, .int a5)] [.int t0, .int t1, .ref (gB (GM w) + t2)] (m_X9_holds_L147 k11 a1 a2 a3 a4 a5 t0 t1 t2 h) := by
  unfold m_X9_holds_L147
  refine s_ck (fun q1 => ?_)
  refine s_ck (fun q3 => ?_)
  refine s_zast hG hE dX9_holds_147 q2 q1 (isb_cases q3) (fun h2 => ?_)
  refine s_goto (tgt := 250) hG dX9_holds_148 (by decide) ?_
  refine s_iinc hG dX9_holds_250 5 rfl ic_1 (by decide) (fun v4 => [(5, .int v4), (0, .ref (gB (GM w) + 1)), (1, .int a1), (2, .int a2), (3, .int a3), (4, .int a4)]) (fun _ => rfl) (fun v4 => ?_)
  refine s_goto (tgt := 11) hG dX9_holds_253 (by decide) ?_
  refine s_lv [1, 2, 3, 4, 5, 0] rfl ?_
  exact hk11 a1 a2 a3 a4 v4 h2

def m_X9_holds_L116 (k11 : Int32 → Int32 → Int32 → Int32 → Int32 → Hp → Option (Int32 × Hp)) (a1 : Int32) (a2 : Int32) (a3 : Int32) (a4 : Int32) (a5 : Int32) (t0 : Int32) (t1 : Nat) (h : Hp) : Option (Int32 × Hp) := m_X9_holds_L147 k11 a1 a2 a3 a4 a5 0 t0 t1 h
set_option maxRecDepth 20000 in
set_option maxHeartbeats 4000000 in
theorem s_X9_holds_L116 (w : WT) {x : CT} {l : Launch} (hx : xl x = l) (hG : Gd x cX9_holds 9 RX9) (hE : Ge x (GM w)) (hR : Rm x 4) (hT : Rt x (some .boolean)) (k11 : Int32 → Int32 → Int32 → Int32 → Int32 → Hp → Option (Int32 × Hp)) (hk11 : ∀ (a1 : Int32) (a2 : Int32) (a3 : Int32) (a4 : Int32) (a5 : Int32) (h : Hp), Sn x 9 (gA (GM w)) (0, 0) (ζM x (GM w) inI) (gW (GM w) h) 11 [(0, .ref (gB (GM w) + 1)), (1, .int a1), (2, .int a2), (3, .int a3), (4, .int a4), (5, .int a5)] [] (k11 a1 a2 a3 a4 a5 h)) (a1 : Int32) (a2 : Int32) (a3 : Int32) (a4 : Int32) (a5 : Int32) (t0 : Int32) (t1 : Nat) (q1 : LM t1 = (22, 100)) (h : Hp) : Sn x 9 (gA (GM w)) (0, 0) (ζM x (GM w) inI) (gW (GM w) h) 116 [(0, .ref (gB (GM w) + 1)), (1, .int a1), (2, .int a2), (3, .int a3), (4, .int a4), (5, .int a5)] [.int t0, .ref (gB (GM w) + t1)] (m_X9_holds_L116 k11 a1 a2 a3 a4 a5 t0 t1 h) := by
  unfold m_X9_holds_L116
  refine s_iconst hG dX9_holds_116 ic_0 ?_
  refine s_goto (tgt := 147) hG dX9_holds_117 (by decide) ?_
  exact s_X9_holds_L147 w hx hG hE hR hT k11 hk11 a1 a2 a3 a4 a5 0 t0 t1 q1 h

def m_X9_holds_L142 (k11 : Int32 → Int32 → Int32 → Int32 → Int32 → Hp → Option (Int32 × Hp)) (a1 : Int32) (a2 : Int32) (a3 : Int32) (a4 : Int32) (a5 : Int32) (t0 : Int32) (t1 : Nat) (h : Hp) : Option (Int32 × Hp) := m_X9_holds_L147 k11 a1 a2 a3 a4 a5 1 t0 t1 h
set_option maxRecDepth 20000 in
set_option maxHeartbeats 4000000 in
theorem s_X9_holds_L142 (w : WT) {x : CT} {l : Launch} (hx : xl x = l) (hG : Gd x cX9_holds 9 RX9) (hE : Ge x (GM w)) (hR : Rm x 4) (hT : Rt x (some .boolean)) (k11 : Int32 → Int32 → Int32 → Int32 → Int32 → Hp → Option (Int32 × Hp)) (hk11 : ∀ (a1 : Int32) (a2 : Int32) (a3 : Int32) (a4 : Int32) (a5 : Int32) (h : Hp), Sn x 9 (gA (GM w)) (0, 0) (ζM x (GM w) inI) (gW (GM w) h) 11 [(0, .ref (gB (GM w) + 1)), (1, .int a1), (2, .int a2), (3, .int a3), (4, .int a4), (5, .int a5)] [] (k11 a1 a2 a3 a4 a5 h)) (a1 : Int32) (a2 : Int32) (a3 : Int32) (a4 : Int32) (a5 : Int32) (t0 : Int32) (t1 : Nat) (q1 : LM t1 = (22, 100)) (h : Hp) : Sn x 9 (gA (GM w)) (0, 0) (ζM x (GM w) inI) (gW (GM w) h) 142 [(0, .ref (gB (GM w) + 1)), (1, .int a1), (2, .int a2), (3, .int a3), (4, .int a4), (5, .int a5)] [.int t0, .ref (gB (GM w) + t1)] (m_X9_holds_L142 k11 a1 a2 a3 a4 a5 t0 t1 h) := by
  unfold m_X9_holds_L142
  refine s_iconst hG dX9_holds_142 ic_1 ?_
  refine s_goto (tgt := 147) hG dX9_holds_143 (by decide) ?_
  exact s_X9_holds_L147 w hx hG hE hR hT k11 hk11 a1 a2 a3 a4 a5 1 t0 t1 q1 h

def m_X9_holds_L246 (k11 : Int32 → Int32 → Int32 → Int32 → Int32 → Hp → Option (Int32 × Hp)) (a1 : Int32) (a2 : Int32) (a3 : Int32) (a4 : Int32) (a5 : Int32) (t0 : Int32) (t1 : Int32) (t2 : Nat) (h : Hp) : Option (Int32 × Hp) := ck (inb t1 100) (ck (isb t0) (hb (si h t2 t1.toNatClampNeg t0) fun h2 => vb (a4 + 1) fun v4 => vb (a5 + 1) fun v5 => k11 a1 a2 a3 v4 v5 h2))
set_option maxRecDepth 20000 in
set_option maxHeartbeats 4000000 in
theorem s_X9_holds_L246 (w : WT) {x : CT} {l : Launch} (hx : xl x = l) (hG : Gd x cX9_holds 9 RX9) (hE : Ge x (GM w)) (hR : Rm x 4) (hT : Rt x (some .boolean)) (k11 : Int32 → Int32 → Int32 → Int32 → Int32 → Hp → Option (Int32 × Hp)) (hk11 : ∀ (a1 : Int32) (a2 : Int32) (a3 : Int32) (a4 : Int32) (a5 : Int32) (h : Hp), Sn x 9 (gA (GM w)) (0, 0) (ζM x (GM w) inI) (gW (GM w) h) 11 [(0, .ref (gB (GM w) + 1)), (1, .int a1), (2, .int a2), (3, .int a3), (4, .int a4), (5, .int a5)] [] (k11 a1 a2 a3 a4 a5 h)) (a1 : Int32) (a2 : Int32) (a3 : Int32) (a4 : Int32) (a5 : Int32) (t0 : Int32) (t1 : Int32) (t2 : Nat) (q2 : LM t2 = (22, 100)) (h : Hp) : Sn x 9 (gA (GM w)) (0, 0) (ζM x (GM w) inI) (gW (GM w) h) 246 [(0, .ref (gB (GM w) + 1)), (1, .int a1), (2, .int a2), (3, .int a3), (4, .int a4), (5, .int a5)] [.int t0, .int t1, .ref (gB (GM w) + t2)] (m_X9_holds_L246 k11 a1 a2 a3 a4 a5 t0 t1 t2 h) := by
  unfold m_X9_holds_L246
  refine s_ck (fun q1 => ?_)
  refine s_ck (fun q3 => ?_)
  refine s_zast hG hE dX9_holds_246 q2 q1 (isb_cases q3) (fun h2 => ?_)
  refine s_iinc hG dX9_holds_247 4 rfl ic_1 (by decide) (fun v4 => [(4, .int v4), (0, .ref (gB (GM w) + 1)), (1, .int a1), (2, .int a2), (3, .int a3), (5, .int a5)]) (fun _ => rfl) (fun v4 => ?_)
  refine s_iinc hG dX9_holds_250 5 rfl ic_1 (by decide) (fun v5 => [(5, .int v5), (4, .int v4), (0, .ref (gB (GM w) + 1)), (1, .int a1), (2, .int a2), (3, .int a3)]) (fun _ => rfl) (fun v5 => ?_)
  refine s_goto (tgt := 11) hG dX9_holds_253 (by decide) ?_
  refine s_lv [2, 3, 4, 5, 1, 0] rfl ?_
  exact hk11 a1 a2 a3 v4 v5 h2

def m_X9_holds_L11 : Nat → Int32 → Int32 → Int32 → Int32 → Int32 → Hp → Option (Int32 × Hp)
  | 0, _, _, _, _, _, _ => none
  | n + 1, a1, a2, a3, a4, a5, h => ck (inb a1 48) (if (gi h 12 a1.toNatClampNeg) ≤ a5 then ck (isb (gi h 20 (0 : Int32).toNatClampNeg)) (some (gi h 20 (0 : Int32).toNatClampNeg, h)) else ck (inb a5 600) (vb (gi h 18 a5.toNatClampNeg) fun v5 => if v5 = (-33) then ck (inb (a4 - 1) 100) (if (gi h 20 (a4 - 1).toNatClampNeg) = 0 then m_X9_holds_L63 (m_X9_holds_L11 n) a1 a2 a3 a4 a5 1 (a4 - 1) 20 h else m_X9_holds_L63 (m_X9_holds_L11 n) a1 a2 a3 a4 a5 0 (a4 - 1) 20 h) else if 0 ≤ v5 then cb (m_X9_factOf (v5 / 10000) a2 a3 h) fun v8 h9 => vb ((v5 / 100) - (v5 / 100) / 100 * 100) fun v10 => if v10 = 60 then if (v5 - v5 / 100 * 100) ≤ v8 then m_X9_holds_L246 (m_X9_holds_L11 n) a1 a2 a3 a4 a5 0 a4 20 h9 else m_X9_holds_L246 (m_X9_holds_L11 n) a1 a2 a3 a4 a5 1 a4 20 h9 else if v10 = 61 then if v8 = (v5 - v5 / 100 * 100) then m_X9_holds_L246 (m_X9_holds_L11 n) a1 a2 a3 a4 a5 1 a4 20 h9 else m_X9_holds_L246 (m_X9_holds_L11 n) a1 a2 a3 a4 a5 0 a4 20 h9 else if v8 ≤ (v5 - v5 / 100 * 100) then m_X9_holds_L246 (m_X9_holds_L11 n) a1 a2 a3 a4 a5 0 a4 20 h9 else m_X9_holds_L246 (m_X9_holds_L11 n) a1 a2 a3 a4 a5 1 a4 20 h9 else vb (a4 + (-1)) fun v16 => if v5 = (-38) then ck (inb (v16 - 1) 100) (if (gi h 20 (v16 - 1).toNatClampNeg) = 0 then m_X9_holds_L116 (m_X9_holds_L11 n) a1 a2 a3 v16 a5 (v16 - 1) 20 h else ck (inb v16 100) (if (gi h 20 v16.toNatClampNeg) = 0 then m_X9_holds_L116 (m_X9_holds_L11 n) a1 a2 a3 v16 a5 (v16 - 1) 20 h else m_X9_holds_L147 (m_X9_holds_L11 n) a1 a2 a3 v16 a5 1 (v16 - 1) 20 h)) else ck (inb (v16 - 1) 100) (if (gi h 20 (v16 - 1).toNatClampNeg) = 0 then ck (inb v16 100) (if (gi h 20 v16.toNatClampNeg) = 0 then m_X9_holds_L147 (m_X9_holds_L11 n) a1 a2 a3 v16 a5 0 (v16 - 1) 20 h else m_X9_holds_L142 (m_X9_holds_L11 n) a1 a2 a3 v16 a5 (v16 - 1) 20 h) else m_X9_holds_L142 (m_X9_holds_L11 n) a1 a2 a3 v16 a5 (v16 - 1) 20 h)))
set_option maxRecDepth 20000 in
set_option maxHeartbeats 4000000 in
theorem s_X9_holds_L11 (w : WT) {x : CT} {l : Launch} (hx : xl x = l) (hG : Gd x cX9_holds 9 RX9) (hE : Ge x (GM w)) (hR : Rm x 4) (hT : Rt x (some .boolean)) : ∀ (n : Nat) (a1 : Int32) (a2 : Int32) (a3 : Int32) (a4 : Int32) (a5 : Int32) (h : Hp), Sn x 9 (gA (GM w)) (0, 0) (ζM x (GM w) inI) (gW (GM w) h) 11 [(0, .ref (gB (GM w) + 1)), (1, .int a1), (2, .int a2), (3, .int a3), (4, .int a4), (5, .int a5)] [] (m_X9_holds_L11 n a1 a2 a3 a4 a5 h) := by
  intro n
  induction n with
  | zero => intro a1 a2 a3 a4 a5 h; exact s_none
  | succ n ih =>
    intro a1 a2 a3 a4 a5 h
    rw [m_X9_holds_L11]
    refine s_iload hG dX9_holds_11 5 rfl ?_
    refine s_aload_n hG dX9_holds_13 0 rfl rfl ?_
    refine s_getS hG hE dX9_holds_14 fl_X9_56 rfl kM_1 fM_9_15 (nzM kM_12) ?_
    refine s_iload_n hG dX9_holds_17 1 rfl rfl ?_
    refine s_ck (fun q1 => ?_)
    refine s_iald hG hE dX9_holds_18 kM_12 q1 ?_
    refine s_icmp_ge hG dX9_holds_19 (tgt := 256) (by decide) (fun q2 => ?_) (fun q2 => ?_)
    · refine s_aload_n hG dX9_holds_256 0 rfl rfl ?_
      refine s_getS hG hE dX9_holds_257 fl_X9_92 rfl kM_1 fM_9_27 (nzM kM_20) ?_
      refine s_iconst hG dX9_holds_260 ic_0 ?_
      refine s_zald hG hE dX9_holds_261 kM_20 (by decide) ?_
      refine s_ck (fun q3 => ?_)
      exact s_zret hG hT (isb_cases q3) dX9_holds_262
    · refine s_aload_n hG dX9_holds_22 0 rfl rfl ?_
      refine s_getS hG hE dX9_holds_23 fl_X9_74 rfl kM_1 fM_9_21 (nzM kM_18) ?_
      refine s_iload hG dX9_holds_26 5 rfl ?_
      refine s_ck (fun q4 => ?_)
      refine s_iald hG hE dX9_holds_28 kM_18 q4 ?_
      refine s_vI (fun v5 => ?_)
      refine s_istore (lv' := [(6, .int v5), (0, .ref (gB (GM w) + 1)), (1, .int a1), (2, .int a2), (3, .int a3), (4, .int a4), (5, .int a5)]) hG dX9_holds_29 (by decide) rfl ?_
      refine s_iload hG dX9_holds_31 0 rfl ?_
      refine s_bipush hG dX9_holds_33 bc_m33 ?_
      refine s_icmp_ne hG dX9_holds_35 (tgt := 67) (by decide) (fun q6 => ?_) (fun q6 => ?_)
      · refine s_aload_n hG dX9_holds_38 1 rfl rfl ?_
        refine s_getS hG hE dX9_holds_39 fl_X9_92 rfl kM_1 fM_9_27 (nzM kM_20) ?_
        refine s_iload hG dX9_holds_42 5 rfl ?_
        refine s_iconst hG dX9_holds_44 ic_1 ?_
        refine s_isub hG dX9_holds_45 ?_
        refine s_aload_n hG dX9_holds_46 1 rfl rfl ?_
        refine s_getS hG hE dX9_holds_47 fl_X9_92 rfl kM_1 fM_9_27 (nzM kM_20) ?_
        refine s_iload hG dX9_holds_50 5 rfl ?_
        refine s_iconst hG dX9_holds_52 ic_1 ?_
        refine s_isub hG dX9_holds_53 ?_
        refine s_ck (fun q26 => ?_)
        refine s_zald hG hE dX9_holds_54 kM_20 q26 ?_
        refine s_if_ne hG dX9_holds_55 (tgt := 62) (by decide) (fun q27 => ?_) (fun q27 => ?_)
        · refine s_iconst hG dX9_holds_58 ic_1 ?_
          refine s_goto (tgt := 63) hG dX9_holds_59 (by decide) ?_
          refine s_lv [1, 2, 3, 4, 5, 6] rfl ?_
          exact s_X9_holds_L63 w hx hG hE hR hT (m_X9_holds_L11 n) ih a1 a2 a3 a4 a5 1 (a4 - 1) 20 kM_20 h
        · refine s_iconst hG dX9_holds_62 ic_0 ?_
          refine s_lv [1, 2, 3, 4, 5, 6] rfl ?_
          exact s_X9_holds_L63 w hx hG hE hR hT (m_X9_holds_L11 n) ih a1 a2 a3 a4 a5 0 (a4 - 1) 20 kM_20 h
      · refine s_iload hG dX9_holds_67 0 rfl ?_
        refine s_if_ge hG dX9_holds_69 (tgt := 151) (by decide) (fun q7 => ?_) (fun q7 => ?_)
        · refine s_aload_n hG dX9_holds_151 1 rfl rfl ?_
          refine s_iload hG dX9_holds_152 0 rfl ?_
          refine s_sipush hG dX9_holds_154 sc_10000 ?_
          refine s_idiv hG dX9_holds_157 (by decide) ?_
          refine s_iload_n hG dX9_holds_158 3 rfl rfl ?_
          refine s_iload_n hG dX9_holds_159 4 rfl rfl ?_
          refine s_callV (a := 1) (c := 9) (inj := inI) (As := [.int (v5 / 10000), .int a2, .int a3]) (st := []) rfl hG hE dX9_holds_160 hR (by decide) vv_X9_235 (by decide) rfl kM_1 rfl (Nat.le_of_ble_eq_true rfl) rfl (fun zv zh zq => c_X9_factOf w (xl x) (v5 / 10000) a2 a3 h zv zh zq) (fun v8 h9 => ?_)
          refine s_istore (lv' := [(7, .int v8), (6, .int v5), (0, .ref (gB (GM w) + 1)), (1, .int a1), (2, .int a2), (3, .int a3), (4, .int a4), (5, .int a5)]) hG dX9_holds_163 (by decide) rfl ?_
          refine s_iload hG dX9_holds_165 1 rfl ?_
          refine s_bipush hG dX9_holds_167 bc_100 ?_
          refine s_idiv hG dX9_holds_169 (by decide) ?_
          refine s_bipush hG dX9_holds_170 bc_100 ?_
          refine s_irem hG dX9_holds_172 (by decide) ?_
          refine s_vI (fun v10 => ?_)
          refine s_istore (lv' := [(8, .int v10), (7, .int v8), (6, .int v5), (0, .ref (gB (GM w) + 1)), (1, .int a1), (2, .int a2), (3, .int a3), (4, .int a4), (5, .int a5)]) hG dX9_holds_173 (by decide) rfl ?_
          refine s_aload_n hG dX9_holds_175 3 rfl rfl ?_
          refine s_getS hG hE dX9_holds_176 fl_X9_92 rfl kM_1 fM_9_27 (nzM kM_20) ?_
          refine s_iload hG dX9_holds_179 7 rfl ?_
          refine s_iload hG dX9_holds_181 0 rfl ?_
          refine s_bipush hG dX9_holds_183 bc_60 ?_
          refine s_icmp_ne hG dX9_holds_185 (tgt := 206) (by decide) (fun q11 => ?_) (fun q11 => ?_)
          · refine s_iload hG dX9_holds_188 1 rfl ?_
            refine s_iload hG dX9_holds_190 2 rfl ?_
            refine s_bipush hG dX9_holds_192 bc_100 ?_
            refine s_irem hG dX9_holds_194 (by decide) ?_
            refine s_icmp_ge hG dX9_holds_195 (tgt := 202) (by decide) (fun q15 => ?_) (fun q15 => ?_)
            · refine s_iconst hG dX9_holds_202 ic_0 ?_
              refine s_goto (tgt := 246) hG dX9_holds_203 (by decide) ?_
              refine s_lv [3, 4, 5, 6, 7, 8] rfl ?_
              exact s_X9_holds_L246 w hx hG hE hR hT (m_X9_holds_L11 n) ih a1 a2 a3 a4 a5 0 a4 20 kM_20 h9
            · refine s_iconst hG dX9_holds_198 ic_1 ?_
              refine s_goto (tgt := 246) hG dX9_holds_199 (by decide) ?_
              refine s_lv [3, 4, 5, 6, 7, 8] rfl ?_
              exact s_X9_holds_L246 w hx hG hE hR hT (m_X9_holds_L11 n) ih a1 a2 a3 a4 a5 1 a4 20 kM_20 h9
          · refine s_iload hG dX9_holds_206 0 rfl ?_
            refine s_bipush hG dX9_holds_208 bc_61 ?_
            refine s_icmp_ne hG dX9_holds_210 (tgt := 231) (by decide) (fun q12 => ?_) (fun q12 => ?_)
            · refine s_iload hG dX9_holds_213 1 rfl ?_
              refine s_iload hG dX9_holds_215 2 rfl ?_
              refine s_bipush hG dX9_holds_217 bc_100 ?_
              refine s_irem hG dX9_holds_219 (by decide) ?_
              refine s_icmp_ne hG dX9_holds_220 (tgt := 227) (by decide) (fun q14 => ?_) (fun q14 => ?_)
              · refine s_iconst hG dX9_holds_223 ic_1 ?_
                refine s_goto (tgt := 246) hG dX9_holds_224 (by decide) ?_
                refine s_lv [3, 4, 5, 6, 7, 8] rfl ?_
                exact s_X9_holds_L246 w hx hG hE hR hT (m_X9_holds_L11 n) ih a1 a2 a3 a4 a5 1 a4 20 kM_20 h9
              · refine s_iconst hG dX9_holds_227 ic_0 ?_
                refine s_goto (tgt := 246) hG dX9_holds_228 (by decide) ?_
                refine s_lv [3, 4, 5, 6, 7, 8] rfl ?_
                exact s_X9_holds_L246 w hx hG hE hR hT (m_X9_holds_L11 n) ih a1 a2 a3 a4 a5 0 a4 20 kM_20 h9
            · refine s_iload hG dX9_holds_231 1 rfl ?_
              refine s_iload hG dX9_holds_233 2 rfl ?_
              refine s_bipush hG dX9_holds_235 bc_100 ?_
              refine s_irem hG dX9_holds_237 (by decide) ?_
              refine s_icmp_le hG dX9_holds_238 (tgt := 245) (by decide) (fun q13 => ?_) (fun q13 => ?_)
              · refine s_iconst hG dX9_holds_245 ic_0 ?_
                refine s_lv [3, 4, 5, 6, 7, 8] rfl ?_
                exact s_X9_holds_L246 w hx hG hE hR hT (m_X9_holds_L11 n) ih a1 a2 a3 a4 a5 0 a4 20 kM_20 h9
              · refine s_iconst hG dX9_holds_241 ic_1 ?_
                refine s_goto (tgt := 246) hG dX9_holds_242 (by decide) ?_
                refine s_lv [3, 4, 5, 6, 7, 8] rfl ?_
                exact s_X9_holds_L246 w hx hG hE hR hT (m_X9_holds_L11 n) ih a1 a2 a3 a4 a5 1 a4 20 kM_20 h9
        · refine s_iinc hG dX9_holds_72 5 rfl ic_m1 (by decide) (fun v16 => [(4, .int v16), (6, .int v5), (0, .ref (gB (GM w) + 1)), (1, .int a1), (2, .int a2), (3, .int a3), (5, .int a5)]) (fun _ => rfl) (fun v16 => ?_)
          refine s_aload_n hG dX9_holds_75 2 rfl rfl ?_
          refine s_getS hG hE dX9_holds_76 fl_X9_92 rfl kM_1 fM_9_27 (nzM kM_20) ?_
          refine s_iload hG dX9_holds_79 0 rfl ?_
          refine s_iconst hG dX9_holds_81 ic_1 ?_
          refine s_isub hG dX9_holds_82 ?_
          refine s_iload hG dX9_holds_83 1 rfl ?_
          refine s_bipush hG dX9_holds_85 bc_m38 ?_
          refine s_icmp_ne hG dX9_holds_87 (tgt := 120) (by decide) (fun q17 => ?_) (fun q17 => ?_)
          · refine s_aload_n hG dX9_holds_90 2 rfl rfl ?_
            refine s_getS hG hE dX9_holds_91 fl_X9_92 rfl kM_1 fM_9_27 (nzM kM_20) ?_
            refine s_iload hG dX9_holds_94 0 rfl ?_
            refine s_iconst hG dX9_holds_96 ic_1 ?_
            refine s_isub hG dX9_holds_97 ?_
            refine s_ck (fun q22 => ?_)
            refine s_zald hG hE dX9_holds_98 kM_20 q22 ?_
            refine s_if_eq hG dX9_holds_99 (tgt := 116) (by decide) (fun q23 => ?_) (fun q23 => ?_)
            · refine s_lv [2, 3, 4, 5, 0, 6] rfl ?_
              exact s_X9_holds_L116 w hx hG hE hR hT (m_X9_holds_L11 n) ih a1 a2 a3 v16 a5 (v16 - 1) 20 kM_20 h
            · refine s_aload_n hG dX9_holds_102 2 rfl rfl ?_
              refine s_getS hG hE dX9_holds_103 fl_X9_92 rfl kM_1 fM_9_27 (nzM kM_20) ?_
              refine s_iload hG dX9_holds_106 0 rfl ?_
              refine s_ck (fun q24 => ?_)
              refine s_zald hG hE dX9_holds_108 kM_20 q24 ?_
              refine s_if_eq hG dX9_holds_109 (tgt := 116) (by decide) (fun q25 => ?_) (fun q25 => ?_)
              · refine s_lv [2, 3, 4, 5, 0, 6] rfl ?_
                exact s_X9_holds_L116 w hx hG hE hR hT (m_X9_holds_L11 n) ih a1 a2 a3 v16 a5 (v16 - 1) 20 kM_20 h
              · refine s_iconst hG dX9_holds_112 ic_1 ?_
                refine s_goto (tgt := 147) hG dX9_holds_113 (by decide) ?_
                refine s_lv [2, 3, 4, 5, 0, 6] rfl ?_
                exact s_X9_holds_L147 w hx hG hE hR hT (m_X9_holds_L11 n) ih a1 a2 a3 v16 a5 1 (v16 - 1) 20 kM_20 h
          · refine s_aload_n hG dX9_holds_120 2 rfl rfl ?_
            refine s_getS hG hE dX9_holds_121 fl_X9_92 rfl kM_1 fM_9_27 (nzM kM_20) ?_
            refine s_iload hG dX9_holds_124 0 rfl ?_
            refine s_iconst hG dX9_holds_126 ic_1 ?_
            refine s_isub hG dX9_holds_127 ?_
            refine s_ck (fun q18 => ?_)
            refine s_zald hG hE dX9_holds_128 kM_20 q18 ?_
            refine s_if_ne hG dX9_holds_129 (tgt := 142) (by decide) (fun q19 => ?_) (fun q19 => ?_)
            · refine s_aload_n hG dX9_holds_132 2 rfl rfl ?_
              refine s_getS hG hE dX9_holds_133 fl_X9_92 rfl kM_1 fM_9_27 (nzM kM_20) ?_
              refine s_iload hG dX9_holds_136 0 rfl ?_
              refine s_ck (fun q20 => ?_)
              refine s_zald hG hE dX9_holds_138 kM_20 q20 ?_
              refine s_if_eq hG dX9_holds_139 (tgt := 146) (by decide) (fun q21 => ?_) (fun q21 => ?_)
              · refine s_iconst hG dX9_holds_146 ic_0 ?_
                refine s_lv [2, 3, 4, 5, 0, 6] rfl ?_
                exact s_X9_holds_L147 w hx hG hE hR hT (m_X9_holds_L11 n) ih a1 a2 a3 v16 a5 0 (v16 - 1) 20 kM_20 h
              · refine s_lv [2, 3, 4, 5, 0, 6] rfl ?_
                exact s_X9_holds_L142 w hx hG hE hR hT (m_X9_holds_L11 n) ih a1 a2 a3 v16 a5 (v16 - 1) 20 kM_20 h
            · refine s_lv [2, 3, 4, 5, 0, 6] rfl ?_
              exact s_X9_holds_L142 w hx hG hE hR hT (m_X9_holds_L11 n) ih a1 a2 a3 v16 a5 (v16 - 1) 20 kM_20 h

def m_X9_holds (a1 : Int32) (a2 : Int32) (a3 : Int32) (h : Hp) : Option (Int32 × Hp) := ck (inb a1 48) (vb (gi h 11 a1.toNatClampNeg) fun v2 => m_X9_holds_L11 FU a1 a2 a3 0 v2 h)
set_option maxRecDepth 20000 in
set_option maxHeartbeats 4000000 in
theorem s_X9_holds (w : WT) {x : CT} {l : Launch} (hx : xl x = l) (hG : Gd x cX9_holds 9 RX9) (hE : Ge x (GM w)) (hR : Rm x 4) (hT : Rt x (some .boolean)) (a1 : Int32) (a2 : Int32) (a3 : Int32) (h : Hp) : Sn x 9 (gA (GM w)) (0, 0) (ζM x (GM w) inI) (gW (GM w) h) 0 [(0, .ref (gB (GM w) + 1)), (1, .int a1), (2, .int a2), (3, .int a3)] [] (m_X9_holds a1 a2 a3 h) := by
  unfold m_X9_holds
  refine s_iconst hG dX9_holds_0 ic_0 ?_
  refine s_istore (lv' := [(4, .int 0), (0, .ref (gB (GM w) + 1)), (1, .int a1), (2, .int a2), (3, .int a3)]) hG dX9_holds_1 (by decide) rfl ?_
  refine s_aload_n hG dX9_holds_3 1 rfl rfl ?_
  refine s_getS hG hE dX9_holds_4 fl_X9_53 rfl kM_1 fM_9_14 (nzM kM_11) ?_
  refine s_iload_n hG dX9_holds_7 2 rfl rfl ?_
  refine s_ck (fun q1 => ?_)
  refine s_iald hG hE dX9_holds_8 kM_11 q1 ?_
  refine s_vI (fun v2 => ?_)
  refine s_istore (lv' := [(5, .int v2), (4, .int 0), (0, .ref (gB (GM w) + 1)), (1, .int a1), (2, .int a2), (3, .int a3)]) hG dX9_holds_9 (by decide) rfl ?_
  refine s_lv [2, 3, 4, 5, 1, 0] rfl ?_
  exact s_X9_holds_L11 w hx hG hE hR hT FU a1 a2 a3 0 v2 h

theorem c_X9_holds (w : WT) (l : Launch) (a1 : Int32) (a2 : Int32) (a3 : Int32) (h : Hp) : ∀ v h', m_X9_holds a1 a2 a3 h = some (v, h') → MetM l (GM w) yX9_holds cX9_holds 9 (some .boolean) 4 [.ref (gB (GM w) + 1), .int a1, .int a2, .int a3] h (inI v) h' :=
  met_of (by decide) (lokM w) (Nat.le_of_ble_eq_true rfl) (fun x hx hG hE hR hT => s_X9_holds w hx hG hE hR hT a1 a2 a3 h)
theorem vv_X9_238 : VV RX9 238 yX9_holds cX9_holds 9 (some .boolean) 3 := ⟨⟨gw_at 1358 (by decide +kernel) (by decide +kernel), gw_at 1361 (by decide +kernel) (by decide +kernel), gw_at 96 (by decide +kernel) (by decide +kernel), by decide +kernel, by decide⟩, gw_at 1360 (by decide +kernel) (by decide +kernel), gw_at 55 (by decide +kernel) (by decide +kernel)⟩
def m_X9_some_L6 : Nat → Int32 → Int32 → Int32 → Int32 → Int32 → Hp → Option (Int32 × Hp)
  | 0, _, _, _, _, _, _ => none
  | n + 1, a1, a2, a3, a4, a5, h => ck (inb a1 6) (if ((8 * a1) + (gi h 8 a1.toNatClampNeg)) ≤ a5 then some (0, h) else ck (inb a5 48) (if (gi h 9 a5.toNatClampNeg) = a2 then cb (m_X9_holds a5 a3 a4 h) fun v6 h7 => if v6 = 0 then vb (a5 + 1) fun v9 => m_X9_some_L6 n a1 a2 a3 a4 v9 h7 else some (1, h7) else vb (a5 + 1) fun v5 => m_X9_some_L6 n a1 a2 a3 a4 v5 h))
set_option maxRecDepth 20000 in
set_option maxHeartbeats 4000000 in
theorem s_X9_some_L6 (w : WT) {x : CT} {l : Launch} (hx : xl x = l) (hG : Gd x cX9_some 6 RX9) (hE : Ge x (GM w)) (hR : Rm x 5) (hT : Rt x (some .boolean)) : ∀ (n : Nat) (a1 : Int32) (a2 : Int32) (a3 : Int32) (a4 : Int32) (a5 : Int32) (h : Hp), Sn x 6 (gA (GM w)) (0, 0) (ζM x (GM w) inI) (gW (GM w) h) 6 [(0, .ref (gB (GM w) + 1)), (1, .int a1), (2, .int a2), (3, .int a3), (4, .int a4), (5, .int a5)] [] (m_X9_some_L6 n a1 a2 a3 a4 a5 h) := by
  intro n
  induction n with
  | zero => intro a1 a2 a3 a4 a5 h; exact s_none
  | succ n ih =>
    intro a1 a2 a3 a4 a5 h
    rw [m_X9_some_L6]
    refine s_iload hG dX9_some_6 5 rfl ?_
    refine s_bipush hG dX9_some_8 bc_8 ?_
    refine s_iload_n hG dX9_some_10 1 rfl rfl ?_
    refine s_imul hG dX9_some_11 ?_
    refine s_aload_n hG dX9_some_12 0 rfl rfl ?_
    refine s_getS hG hE dX9_some_13 fl_X9_44 rfl kM_1 fM_9_11 (nzM kM_8) ?_
    refine s_iload_n hG dX9_some_16 1 rfl rfl ?_
    refine s_ck (fun q1 => ?_)
    refine s_iald hG hE dX9_some_17 kM_8 q1 ?_
    refine s_iadd hG dX9_some_18 ?_
    refine s_icmp_ge hG dX9_some_19 (tgt := 53) (by decide) (fun q2 => ?_) (fun q2 => ?_)
    · refine s_iconst hG dX9_some_53 ic_0 ?_
      exact s_zret hG hT (by decide) dX9_some_54
    · refine s_aload_n hG dX9_some_22 0 rfl rfl ?_
      refine s_getS hG hE dX9_some_23 fl_X9_47 rfl kM_1 fM_9_12 (nzM kM_9) ?_
      refine s_iload hG dX9_some_26 5 rfl ?_
      refine s_ck (fun q3 => ?_)
      refine s_iald hG hE dX9_some_28 kM_9 q3 ?_
      refine s_iload_n hG dX9_some_29 2 rfl rfl ?_
      refine s_icmp_ne hG dX9_some_30 (tgt := 47) (by decide) (fun q4 => ?_) (fun q4 => ?_)
      · refine s_aload_n hG dX9_some_33 0 rfl rfl ?_
        refine s_iload hG dX9_some_34 5 rfl ?_
        refine s_iload_n hG dX9_some_36 3 rfl rfl ?_
        refine s_iload hG dX9_some_37 4 rfl ?_
        refine s_callV (a := 1) (c := 9) (inj := inI) (As := [.int a5, .int a3, .int a4]) (st := []) rfl hG hE dX9_some_39 hR (by decide) vv_X9_238 (by decide) rfl kM_1 rfl (Nat.le_of_ble_eq_true rfl) rfl (fun zv zh zq => c_X9_holds w (xl x) a5 a3 a4 h zv zh zq) (fun v6 h7 => ?_)
        refine s_if_eq hG dX9_some_42 (tgt := 47) (by decide) (fun q8 => ?_) (fun q8 => ?_)
        · refine s_iinc hG dX9_some_47 5 rfl ic_1 (by decide) (fun v9 => [(5, .int v9), (0, .ref (gB (GM w) + 1)), (1, .int a1), (2, .int a2), (3, .int a3), (4, .int a4)]) (fun _ => rfl) (fun v9 => ?_)
          refine s_goto (tgt := 6) hG dX9_some_50 (by decide) ?_
          refine s_lv [1, 2, 3, 4, 5, 0] rfl ?_
          exact ih a1 a2 a3 a4 v9 h7
        · refine s_iconst hG dX9_some_45 ic_1 ?_
          exact s_zret hG hT (by decide) dX9_some_46
      · refine s_iinc hG dX9_some_47 5 rfl ic_1 (by decide) (fun v5 => [(5, .int v5), (0, .ref (gB (GM w) + 1)), (1, .int a1), (2, .int a2), (3, .int a3), (4, .int a4)]) (fun _ => rfl) (fun v5 => ?_)
        refine s_goto (tgt := 6) hG dX9_some_50 (by decide) ?_
        refine s_lv [1, 2, 3, 4, 5, 0] rfl ?_
        exact ih a1 a2 a3 a4 v5 h

def m_X9_some (a1 : Int32) (a2 : Int32) (a3 : Int32) (a4 : Int32) (h : Hp) : Option (Int32 × Hp) := vb (8 * a1) fun v1 => m_X9_some_L6 FU a1 a2 a3 a4 v1 h
set_option maxRecDepth 20000 in
set_option maxHeartbeats 4000000 in
theorem s_X9_some (w : WT) {x : CT} {l : Launch} (hx : xl x = l) (hG : Gd x cX9_some 6 RX9) (hE : Ge x (GM w)) (hR : Rm x 5) (hT : Rt x (some .boolean)) (a1 : Int32) (a2 : Int32) (a3 : Int32) (a4 : Int32) (h : Hp) : Sn x 6 (gA (GM w)) (0, 0) (ζM x (GM w) inI) (gW (GM w) h) 0 [(0, .ref (gB (GM w) + 1)), (1, .int a1), (2, .int a2), (3, .int a3), (4, .int a4)] [] (m_X9_some a1 a2 a3 a4 h) := by
  unfold m_X9_some
  refine s_bipush hG dX9_some_0 bc_8 ?_
  refine s_iload_n hG dX9_some_2 1 rfl rfl ?_
  refine s_imul hG dX9_some_3 ?_
  refine s_vI (fun v1 => ?_)
  refine s_istore (lv' := [(5, .int v1), (0, .ref (gB (GM w) + 1)), (1, .int a1), (2, .int a2), (3, .int a3), (4, .int a4)]) hG dX9_some_4 (by decide) rfl ?_
  refine s_lv [1, 2, 3, 4, 5, 0] rfl ?_
  exact s_X9_some_L6 w hx hG hE hR hT FU a1 a2 a3 a4 v1 h

theorem c_X9_some (w : WT) (l : Launch) (a1 : Int32) (a2 : Int32) (a3 : Int32) (a4 : Int32) (h : Hp) : ∀ v h', m_X9_some a1 a2 a3 a4 h = some (v, h') → MetM l (GM w) yX9_some cX9_some 6 (some .boolean) 5 [.ref (gB (GM w) + 1), .int a1, .int a2, .int a3, .int a4] h (inI v) h' :=
  met_of (by decide) (lokM w) (Nat.le_of_ble_eq_true rfl) (fun x hx hG hE hR hT => s_X9_some w hx hG hE hR hT a1 a2 a3 a4 h)
def m_X9_knownSide (a1 : Int32) (a2 : Int32) (h : Hp) : Option (Int32 × Hp) := if a2 = 0 then cb (m_X9_get a1 0 h) fun v6 h7 => ck (inb v6 5) (ck (inb (gi h7 4 v6.toNatClampNeg) 8) (some (gi h7 2 (gi h7 4 v6.toNatClampNeg).toNatClampNeg, h7))) else cb (m_X9_get a1 0 h) fun v2 h3 => ck (inb v2 5) (ck (inb (gi h3 3 v2.toNatClampNeg) 8) (some (gi h3 2 (gi h3 3 v2.toNatClampNeg).toNatClampNeg, h3)))
set_option maxRecDepth 20000 in
set_option maxHeartbeats 4000000 in
theorem s_X9_knownSide (w : WT) {x : CT} {l : Launch} (hx : xl x = l) (hG : Gd x cX9_knownSide 3 RX9) (hE : Ge x (GM w)) (hR : Rm x 2) (hT : Rt x (some .int)) (a1 : Int32) (a2 : Int32) (h : Hp) : Sn x 3 (gA (GM w)) (0, 0) (ζM x (GM w) inI) (gW (GM w) h) 0 [(0, .ref (gB (GM w) + 1)), (1, .int a1), (2, .int a2)] [] (m_X9_knownSide a1 a2 h) := by
  unfold m_X9_knownSide
  refine s_aload_n hG dX9_knownSide_0 0 rfl rfl ?_
  refine s_getS hG hE dX9_knownSide_1 fl_X9_16 rfl kM_1 fM_9_2 (nzM kM_2) ?_
  refine s_iload_n hG dX9_knownSide_4 2 rfl rfl ?_
  refine s_if_ne hG dX9_knownSide_5 (tgt := 22) (by decide) (fun q1 => ?_) (fun q1 => ?_)
  · refine s_aload_n hG dX9_knownSide_8 0 rfl rfl ?_
    refine s_getS hG hE dX9_knownSide_9 fl_X9_23 rfl kM_1 fM_9_4 (nzM kM_4) ?_
    refine s_aload_n hG dX9_knownSide_12 0 rfl rfl ?_
    refine s_iload_n hG dX9_knownSide_13 1 rfl rfl ?_
    refine s_iconst hG dX9_knownSide_14 ic_0 ?_
    refine s_callV (a := 1) (c := 9) (inj := inI) (As := [.int a1, .int 0]) (st := [.ref (gB (GM w) + 4), .ref (gB (GM w) + 2)]) rfl hG hE dX9_knownSide_15 hR (by decide) vv_X9_148 (by decide) rfl kM_1 rfl (Nat.le_of_ble_eq_true rfl) rfl (fun zv zh zq => c_X9_get w (xl x) a1 0 h zv zh zq) (fun v6 h7 => ?_)
    refine s_ck (fun q8 => ?_)
    refine s_iald hG hE dX9_knownSide_18 kM_4 q8 ?_
    refine s_goto (tgt := 33) hG dX9_knownSide_19 (by decide) ?_
    refine s_ck (fun q9 => ?_)
    refine s_iald hG hE dX9_knownSide_33 kM_2 q9 ?_
    exact s_iret hG hT dX9_knownSide_34
  · refine s_aload_n hG dX9_knownSide_22 0 rfl rfl ?_
    refine s_getS hG hE dX9_knownSide_23 fl_X9_20 rfl kM_1 fM_9_3 (nzM kM_3) ?_
    refine s_aload_n hG dX9_knownSide_26 0 rfl rfl ?_
    refine s_iload_n hG dX9_knownSide_27 1 rfl rfl ?_
    refine s_iconst hG dX9_knownSide_28 ic_0 ?_
    refine s_callV (a := 1) (c := 9) (inj := inI) (As := [.int a1, .int 0]) (st := [.ref (gB (GM w) + 3), .ref (gB (GM w) + 2)]) rfl hG hE dX9_knownSide_29 hR (by decide) vv_X9_148 (by decide) rfl kM_1 rfl (Nat.le_of_ble_eq_true rfl) rfl (fun zv zh zq => c_X9_get w (xl x) a1 0 h zv zh zq) (fun v2 h3 => ?_)
    refine s_ck (fun q4 => ?_)
    refine s_iald hG hE dX9_knownSide_32 kM_3 q4 ?_
    refine s_ck (fun q5 => ?_)
    refine s_iald hG hE dX9_knownSide_33 kM_2 q5 ?_
    exact s_iret hG hT dX9_knownSide_34

theorem c_X9_knownSide (w : WT) (l : Launch) (a1 : Int32) (a2 : Int32) (h : Hp) : ∀ v h', m_X9_knownSide a1 a2 h = some (v, h') → MetM l (GM w) yX9_knownSide cX9_knownSide 3 (some .int) 2 [.ref (gB (GM w) + 1), .int a1, .int a2] h (inI v) h' :=
  met_of (by decide) (lokM w) (Nat.le_of_ble_eq_true rfl) (fun x hx hG hE hR hT => s_X9_knownSide w hx hG hE hR hT a1 a2 h)
theorem vv_X9_241 : VV RX9 241 yX9_knownSide cX9_knownSide 3 (some .int) 2 := ⟨⟨gw_at 1350 (by decide +kernel) (by decide +kernel), gw_at 1353 (by decide +kernel) (by decide +kernel), gw_at 96 (by decide +kernel) (by decide +kernel), by decide +kernel, by decide⟩, gw_at 1352 (by decide +kernel) (by decide +kernel), gw_at 53 (by decide +kernel) (by decide +kernel)⟩
theorem vv_X9_244 : VV RX9 244 yX9_some cX9_some 6 (some .boolean) 4 := ⟨⟨gw_at 1354 (by decide +kernel) (by decide +kernel), gw_at 1357 (by decide +kernel) (by decide +kernel), gw_at 96 (by decide +kernel) (by decide +kernel), by decide +kernel, by decide⟩, gw_at 1356 (by decide +kernel) (by decide +kernel), gw_at 54 (by decide +kernel) (by decide +kernel)⟩
def m_X9_isBarred (a1 : Int32) (a2 : Int32) (a3 : Int32) (h : Hp) : Option (Int32 × Hp) := cb (m_X9_knownSide a2 a3 h) fun v1 h2 => cb (m_X9_some a1 3 a2 v1 h2) fun v3 h4 => ck (isb v3) (some (v3, h4))
set_option maxRecDepth 20000 in
set_option maxHeartbeats 4000000 in
theorem s_X9_isBarred (w : WT) {x : CT} {l : Launch} (hx : xl x = l) (hG : Gd x cX9_isBarred 4 RX9) (hE : Ge x (GM w)) (hR : Rm x 6) (hT : Rt x (some .boolean)) (a1 : Int32) (a2 : Int32) (a3 : Int32) (h : Hp) : Sn x 4 (gA (GM w)) (0, 0) (ζM x (GM w) inI) (gW (GM w) h) 0 [(0, .ref (gB (GM w) + 1)), (1, .int a1), (2, .int a2), (3, .int a3)] [] (m_X9_isBarred a1 a2 a3 h) := by
  unfold m_X9_isBarred
  refine s_aload_n hG dX9_isBarred_0 0 rfl rfl ?_
  refine s_iload_n hG dX9_isBarred_1 1 rfl rfl ?_
  refine s_iconst hG dX9_isBarred_2 ic_3 ?_
  refine s_iload_n hG dX9_isBarred_3 2 rfl rfl ?_
  refine s_aload_n hG dX9_isBarred_4 0 rfl rfl ?_
  refine s_iload_n hG dX9_isBarred_5 2 rfl rfl ?_
  refine s_iload_n hG dX9_isBarred_6 3 rfl rfl ?_
  refine s_callV (a := 1) (c := 9) (inj := inI) (As := [.int a2, .int a3]) (st := [.int a2, .int 3, .int a1, .ref (gB (GM w) + 1)]) rfl hG hE dX9_isBarred_7 hR (by decide) vv_X9_241 (by decide) rfl kM_1 rfl (Nat.le_of_ble_eq_true rfl) rfl (fun zv zh zq => c_X9_knownSide w (xl x) a2 a3 h zv zh zq) (fun v1 h2 => ?_)
  refine s_callV (a := 1) (c := 9) (inj := inI) (As := [.int a1, .int 3, .int a2, .int v1]) (st := []) rfl hG hE dX9_isBarred_10 hR (by decide) vv_X9_244 (by decide) rfl kM_1 rfl (Nat.le_of_ble_eq_true rfl) rfl (fun zv zh zq => c_X9_some w (xl x) a1 3 a2 v1 h2 zv zh zq) (fun v3 h4 => ?_)
  refine s_ck (fun q5 => ?_)
  exact s_zret hG hT (isb_cases q5) dX9_isBarred_13

theorem c_X9_isBarred (w : WT) (l : Launch) (a1 : Int32) (a2 : Int32) (a3 : Int32) (h : Hp) : ∀ v h', m_X9_isBarred a1 a2 a3 h = some (v, h') → MetM l (GM w) yX9_isBarred cX9_isBarred 4 (some .boolean) 6 [.ref (gB (GM w) + 1), .int a1, .int a2, .int a3] h (inI v) h' :=
  met_of (by decide) (lokM w) (Nat.le_of_ble_eq_true rfl) (fun x hx hG hE hR hT => s_X9_isBarred w hx hG hE hR hT a1 a2 a3 h)
def m_X9_dueBy_L111 (k61 : Int32 → Int32 → Int32 → Hp → Option (Int32 × Hp)) (a1 : Int32) (a2 : Int32) (a4 : Int32) (t0 : Int32) (t1 : Int32) (t3 : Int32) (t4 : Int32) (h : Hp) : Option (Int32 × Hp) := cb (m_X9_knownSide t1 t0 h) fun v1 h2 => cb (m_X9_holds t4 t3 v1 h2) fun v3 h4 => if v3 = 0 then vb (a4 + 1) fun v6 => k61 a1 a2 v6 h4 else some (a4, h4)
set_option maxRecDepth 20000 in
set_option maxHeartbeats 4000000 in
theorem s_X9_dueBy_L111 (w : WT) {x : CT} {l : Launch} (hx : xl x = l) (hG : Gd x cX9_dueBy 5 RX9) (hE : Ge x (GM w)) (hR : Rm x 6) (hT : Rt x (some .int)) (k61 : Int32 → Int32 → Int32 → Hp → Option (Int32 × Hp)) (hk61 : ∀ (a1 : Int32) (a2 : Int32) (a4 : Int32) (h : Hp), Sn x 5 (gA (GM w)) (0, 0) (ζM x (GM w) inI) (gW (GM w) h) 61 [(0, .ref (gB (GM w) + 1)), (1, .int a1), (2, .int a2), (4, .int a4)] [] (k61 a1 a2 a4 h)) (a1 : Int32) (a2 : Int32) (a4 : Int32) (t0 : Int32) (t1 : Int32) (t3 : Int32) (t4 : Int32) (h : Hp) : Sn x 5 (gA (GM w)) (0, 0) (ζM x (GM w) inI) (gW (GM w) h) 111 [(0, .ref (gB (GM w) + 1)), (1, .int a1), (2, .int a2), (4, .int a4)] [.int t0, .int t1, .ref (gB (GM w) + 1), .int t3, .int t4, .ref (gB (GM w) + 1)] (m_X9_dueBy_L111 k61 a1 a2 a4 t0 t1 t3 t4 h) := by
  unfold m_X9_dueBy_L111
  refine s_callV (a := 1) (c := 9) (inj := inI) (As := [.int t1, .int t0]) (st := [.int t3, .int t4, .ref (gB (GM w) + 1)]) rfl hG hE dX9_dueBy_111 hR (by decide) vv_X9_241 (by decide) rfl kM_1 rfl (Nat.le_of_ble_eq_true rfl) rfl (fun zv zh zq => c_X9_knownSide w (xl x) t1 t0 h zv zh zq) (fun v1 h2 => ?_)
  refine s_callV (a := 1) (c := 9) (inj := inI) (As := [.int t4, .int t3, .int v1]) (st := []) rfl hG hE dX9_dueBy_114 hR (by decide) vv_X9_238 (by decide) rfl kM_1 rfl (Nat.le_of_ble_eq_true rfl) rfl (fun zv zh zq => c_X9_holds w (xl x) t4 t3 v1 h2 zv zh zq) (fun v3 h4 => ?_)
  refine s_if_eq hG dX9_dueBy_117 (tgt := 123) (by decide) (fun q5 => ?_) (fun q5 => ?_)
  · refine s_iinc hG dX9_dueBy_123 3 rfl ic_1 (by decide) (fun v6 => [(4, .int v6), (0, .ref (gB (GM w) + 1)), (1, .int a1), (2, .int a2)]) (fun _ => rfl) (fun v6 => ?_)
    refine s_goto (tgt := 61) hG dX9_dueBy_126 (by decide) ?_
    refine s_lv [1, 2, 3, 0] rfl ?_
    exact hk61 a1 a2 v6 h4
  · refine s_iload hG dX9_dueBy_120 3 rfl ?_
    exact s_iret hG hT dX9_dueBy_122

def m_X9_dueBy_L61 : Nat → Int32 → Int32 → Int32 → Hp → Option (Int32 × Hp)
  | 0, _, _, _, _ => none
  | n + 1, a1, a2, a4, h => ck (inb a1 6) (if ((8 * a1) + (gi h 8 a1.toNatClampNeg)) ≤ a4 then some ((-1), h) else ck (inb a4 48) (if (gi h 9 a4.toNatClampNeg) = 2 then if (gi h 10 a4.toNatClampNeg) = 6 then m_X9_dueBy_L111 (m_X9_dueBy_L61 n) a1 a2 a4 1 a2 a2 a4 h else m_X9_dueBy_L111 (m_X9_dueBy_L61 n) a1 a2 a4 0 a2 a2 a4 h else vb (a4 + 1) fun v5 => m_X9_dueBy_L61 n a1 a2 v5 h))
set_option maxRecDepth 20000 in
set_option maxHeartbeats 4000000 in
theorem s_X9_dueBy_L61 (w : WT) {x : CT} {l : Launch} (hx : xl x = l) (hG : Gd x cX9_dueBy 5 RX9) (hE : Ge x (GM w)) (hR : Rm x 6) (hT : Rt x (some .int)) : ∀ (n : Nat) (a1 : Int32) (a2 : Int32) (a4 : Int32) (h : Hp), Sn x 5 (gA (GM w)) (0, 0) (ζM x (GM w) inI) (gW (GM w) h) 61 [(0, .ref (gB (GM w) + 1)), (1, .int a1), (2, .int a2), (4, .int a4)] [] (m_X9_dueBy_L61 n a1 a2 a4 h) := by
  intro n
  induction n with
  | zero => intro a1 a2 a4 h; exact s_none
  | succ n ih =>
    intro a1 a2 a4 h
    rw [m_X9_dueBy_L61]
    refine s_iload hG dX9_dueBy_61 3 rfl ?_
    refine s_bipush hG dX9_dueBy_63 bc_8 ?_
    refine s_iload_n hG dX9_dueBy_65 1 rfl rfl ?_
    refine s_imul hG dX9_dueBy_66 ?_
    refine s_aload_n hG dX9_dueBy_67 0 rfl rfl ?_
    refine s_getS hG hE dX9_dueBy_68 fl_X9_44 rfl kM_1 fM_9_11 (nzM kM_8) ?_
    refine s_iload_n hG dX9_dueBy_71 1 rfl rfl ?_
    refine s_ck (fun q1 => ?_)
    refine s_iald hG hE dX9_dueBy_72 kM_8 q1 ?_
    refine s_iadd hG dX9_dueBy_73 ?_
    refine s_icmp_ge hG dX9_dueBy_74 (tgt := 129) (by decide) (fun q2 => ?_) (fun q2 => ?_)
    · refine s_iconst hG dX9_dueBy_129 ic_m1 ?_
      exact s_iret hG hT dX9_dueBy_130
    · refine s_aload_n hG dX9_dueBy_77 0 rfl rfl ?_
      refine s_getS hG hE dX9_dueBy_78 fl_X9_47 rfl kM_1 fM_9_12 (nzM kM_9) ?_
      refine s_iload hG dX9_dueBy_81 3 rfl ?_
      refine s_ck (fun q3 => ?_)
      refine s_iald hG hE dX9_dueBy_83 kM_9 q3 ?_
      refine s_iconst hG dX9_dueBy_84 ic_2 ?_
      refine s_icmp_ne hG dX9_dueBy_85 (tgt := 123) (by decide) (fun q4 => ?_) (fun q4 => ?_)
      · refine s_aload_n hG dX9_dueBy_88 0 rfl rfl ?_
        refine s_iload hG dX9_dueBy_89 3 rfl ?_
        refine s_iload_n hG dX9_dueBy_91 2 rfl rfl ?_
        refine s_aload_n hG dX9_dueBy_92 0 rfl rfl ?_
        refine s_iload_n hG dX9_dueBy_93 2 rfl rfl ?_
        refine s_aload_n hG dX9_dueBy_94 0 rfl rfl ?_
        refine s_getS hG hE dX9_dueBy_95 fl_X9_50 rfl kM_1 fM_9_13 (nzM kM_10) ?_
        refine s_iload hG dX9_dueBy_98 3 rfl ?_
        refine s_iald hG hE dX9_dueBy_100 kM_10 q3 ?_
        refine s_bipush hG dX9_dueBy_101 bc_6 ?_
        refine s_icmp_ne hG dX9_dueBy_103 (tgt := 110) (by decide) (fun q6 => ?_) (fun q6 => ?_)
        · refine s_iconst hG dX9_dueBy_106 ic_1 ?_
          refine s_goto (tgt := 111) hG dX9_dueBy_107 (by decide) ?_
          exact s_X9_dueBy_L111 w hx hG hE hR hT (m_X9_dueBy_L61 n) ih a1 a2 a4 1 a2 a2 a4 h
        · refine s_iconst hG dX9_dueBy_110 ic_0 ?_
          exact s_X9_dueBy_L111 w hx hG hE hR hT (m_X9_dueBy_L61 n) ih a1 a2 a4 0 a2 a2 a4 h
      · refine s_iinc hG dX9_dueBy_123 3 rfl ic_1 (by decide) (fun v5 => [(4, .int v5), (0, .ref (gB (GM w) + 1)), (1, .int a1), (2, .int a2)]) (fun _ => rfl) (fun v5 => ?_)
        refine s_goto (tgt := 61) hG dX9_dueBy_126 (by decide) ?_
        refine s_lv [1, 2, 3, 0] rfl ?_
        exact ih a1 a2 v5 h

def m_X9_dueBy (a1 : Int32) (a2 : Int32) (h : Hp) : Option (Int32 × Hp) := cb (m_X9_openOf a2 h) fun v1 h2 => if v1 = 0 then some ((-1), h2) else cb (m_X9_openOf a2 h2) fun v4 h5 => ck (inb a1 6) (if (gi h5 17 a1.toNatClampNeg) ≤ v4 then cb (m_X9_knownSide a2 0 h5) fun v8 h9 => cb (m_X9_some a1 0 a2 v8 h9) fun v10 h11 => if v10 = 0 then cb (m_X9_some a1 1 a2 v8 h11) fun v13 h14 => if v13 = 0 then vb (8 * a1) fun v16 => m_X9_dueBy_L61 FU a1 a2 v16 h14 else some ((-1), h14) else some ((-1), h11) else some ((-1), h5))
set_option maxRecDepth 20000 in
set_option maxHeartbeats 4000000 in
theorem s_X9_dueBy (w : WT) {x : CT} {l : Launch} (hx : xl x = l) (hG : Gd x cX9_dueBy 5 RX9) (hE : Ge x (GM w)) (hR : Rm x 6) (hT : Rt x (some .int)) (a1 : Int32) (a2 : Int32) (h : Hp) : Sn x 5 (gA (GM w)) (0, 0) (ζM x (GM w) inI) (gW (GM w) h) 0 [(0, .ref (gB (GM w) + 1)), (1, .int a1), (2, .int a2)] [] (m_X9_dueBy a1 a2 h) := by
  unfold m_X9_dueBy
  refine s_aload_n hG dX9_dueBy_0 0 rfl rfl ?_
  refine s_iload_n hG dX9_dueBy_1 2 rfl rfl ?_
  refine s_callV (a := 1) (c := 9) (inj := inI) (As := [.int a2]) (st := []) rfl hG hE dX9_dueBy_2 hR (by decide) vv_X9_232 (by decide) rfl kM_1 rfl (Nat.le_of_ble_eq_true rfl) rfl (fun zv zh zq => c_X9_openOf w (xl x) a2 h zv zh zq) (fun v1 h2 => ?_)
  refine s_if_eq hG dX9_dueBy_5 (tgt := 22) (by decide) (fun q3 => ?_) (fun q3 => ?_)
  · refine s_iconst hG dX9_dueBy_22 ic_m1 ?_
    exact s_iret hG hT dX9_dueBy_23
  · refine s_aload_n hG dX9_dueBy_8 0 rfl rfl ?_
    refine s_iload_n hG dX9_dueBy_9 2 rfl rfl ?_
    refine s_callV (a := 1) (c := 9) (inj := inI) (As := [.int a2]) (st := []) rfl hG hE dX9_dueBy_10 hR (by decide) vv_X9_232 (by decide) rfl kM_1 rfl (Nat.le_of_ble_eq_true rfl) rfl (fun zv zh zq => c_X9_openOf w (xl x) a2 h2 zv zh zq) (fun v4 h5 => ?_)
    refine s_aload_n hG dX9_dueBy_13 0 rfl rfl ?_
    refine s_getS hG hE dX9_dueBy_14 fl_X9_71 rfl kM_1 fM_9_20 (nzM kM_17) ?_
    refine s_iload_n hG dX9_dueBy_17 1 rfl rfl ?_
    refine s_ck (fun q6 => ?_)
    refine s_iald hG hE dX9_dueBy_18 kM_17 q6 ?_
    refine s_icmp_ge hG dX9_dueBy_19 (tgt := 24) (by decide) (fun q7 => ?_) (fun q7 => ?_)
    · refine s_aload_n hG dX9_dueBy_24 0 rfl rfl ?_
      refine s_iload_n hG dX9_dueBy_25 2 rfl rfl ?_
      refine s_iconst hG dX9_dueBy_26 ic_0 ?_
      refine s_callV (a := 1) (c := 9) (inj := inI) (As := [.int a2, .int 0]) (st := []) rfl hG hE dX9_dueBy_27 hR (by decide) vv_X9_241 (by decide) rfl kM_1 rfl (Nat.le_of_ble_eq_true rfl) rfl (fun zv zh zq => c_X9_knownSide w (xl x) a2 0 h5 zv zh zq) (fun v8 h9 => ?_)
      refine s_istore_n (lv' := [(3, .int v8), (0, .ref (gB (GM w) + 1)), (1, .int a1), (2, .int a2)]) hG dX9_dueBy_30 rfl (by decide) rfl ?_
      refine s_aload_n hG dX9_dueBy_31 1 rfl rfl ?_
      refine s_iload_n hG dX9_dueBy_32 2 rfl rfl ?_
      refine s_iconst hG dX9_dueBy_33 ic_0 ?_
      refine s_iload_n hG dX9_dueBy_34 3 rfl rfl ?_
      refine s_iload_n hG dX9_dueBy_35 0 rfl rfl ?_
      refine s_callV (a := 1) (c := 9) (inj := inI) (As := [.int a1, .int 0, .int a2, .int v8]) (st := []) rfl hG hE dX9_dueBy_36 hR (by decide) vv_X9_244 (by decide) rfl kM_1 rfl (Nat.le_of_ble_eq_true rfl) rfl (fun zv zh zq => c_X9_some w (xl x) a1 0 a2 v8 h9 zv zh zq) (fun v10 h11 => ?_)
      refine s_if_ne hG dX9_dueBy_39 (tgt := 53) (by decide) (fun q12 => ?_) (fun q12 => ?_)
      · refine s_aload_n hG dX9_dueBy_42 1 rfl rfl ?_
        refine s_iload_n hG dX9_dueBy_43 2 rfl rfl ?_
        refine s_iconst hG dX9_dueBy_44 ic_1 ?_
        refine s_iload_n hG dX9_dueBy_45 3 rfl rfl ?_
        refine s_iload_n hG dX9_dueBy_46 0 rfl rfl ?_
        refine s_callV (a := 1) (c := 9) (inj := inI) (As := [.int a1, .int 1, .int a2, .int v8]) (st := []) rfl hG hE dX9_dueBy_47 hR (by decide) vv_X9_244 (by decide) rfl kM_1 rfl (Nat.le_of_ble_eq_true rfl) rfl (fun zv zh zq => c_X9_some w (xl x) a1 1 a2 v8 h11 zv zh zq) (fun v13 h14 => ?_)
        refine s_if_eq hG dX9_dueBy_50 (tgt := 55) (by decide) (fun q15 => ?_) (fun q15 => ?_)
        · refine s_bipush hG dX9_dueBy_55 bc_8 ?_
          refine s_iload_n hG dX9_dueBy_57 2 rfl rfl ?_
          refine s_imul hG dX9_dueBy_58 ?_
          refine s_vI (fun v16 => ?_)
          refine s_istore (lv' := [(4, .int v16), (3, .int v8), (0, .ref (gB (GM w) + 1)), (1, .int a1), (2, .int a2)]) hG dX9_dueBy_59 (by decide) rfl ?_
          refine s_lv [2, 3, 4, 0] rfl ?_
          exact s_X9_dueBy_L61 w hx hG hE hR hT FU a1 a2 v16 h14
        · refine s_iconst hG dX9_dueBy_53 ic_m1 ?_
          exact s_iret hG hT dX9_dueBy_54
      · refine s_iconst hG dX9_dueBy_53 ic_m1 ?_
        exact s_iret hG hT dX9_dueBy_54
    · refine s_iconst hG dX9_dueBy_22 ic_m1 ?_
      exact s_iret hG hT dX9_dueBy_23

theorem c_X9_dueBy (w : WT) (l : Launch) (a1 : Int32) (a2 : Int32) (h : Hp) : ∀ v h', m_X9_dueBy a1 a2 h = some (v, h') → MetM l (GM w) yX9_dueBy cX9_dueBy 5 (some .int) 6 [.ref (gB (GM w) + 1), .int a1, .int a2] h (inI v) h' :=
  met_of (by decide) (lokM w) (Nat.le_of_ble_eq_true rfl) (fun x hx hG hE hR hT => s_X9_dueBy w hx hG hE hR hT a1 a2 h)
theorem vv_X9_248 : VV RX9 248 yX9_isBarred cX9_isBarred 4 (some .boolean) 3 := ⟨⟨gw_at 1378 (by decide +kernel) (by decide +kernel), gw_at 1381 (by decide +kernel) (by decide +kernel), gw_at 96 (by decide +kernel) (by decide +kernel), by decide +kernel, by decide⟩, gw_at 1380 (by decide +kernel) (by decide +kernel), gw_at 60 (by decide +kernel) (by decide +kernel)⟩
def m_X9_whoOf_L11 (a1 : Int32) (a2 : Int32) (t0 : Int32) (h : Hp) : Option (Int32 × Hp) := cb (m_X9_isBarred a1 a2 t0 h) fun v1 h2 => if v1 = 0 then some (t0, h2) else cb (m_X9_isBarred a1 a2 (1 - t0) h2) fun v4 h5 => if v4 = 0 then some (1 - t0, h5) else some (2, h5)
set_option maxRecDepth 20000 in
set_option maxHeartbeats 4000000 in
theorem s_X9_whoOf_L11 (w : WT) {x : CT} {l : Launch} (hx : xl x = l) (hG : Gd x cX9_whoOf 5 RX9) (hE : Ge x (GM w)) (hR : Rm x 7) (hT : Rt x (some .int)) (a1 : Int32) (a2 : Int32) (t0 : Int32) (h : Hp) : Sn x 5 (gA (GM w)) (0, 0) (ζM x (GM w) inI) (gW (GM w) h) 11 [(0, .ref (gB (GM w) + 1)), (1, .int a1), (2, .int a2)] [.int t0] (m_X9_whoOf_L11 a1 a2 t0 h) := by
  unfold m_X9_whoOf_L11
  refine s_istore (lv' := [(4, .int t0), (0, .ref (gB (GM w) + 1)), (1, .int a1), (2, .int a2)]) hG dX9_whoOf_11 (by decide) rfl ?_
  refine s_aload_n hG dX9_whoOf_13 1 rfl rfl ?_
  refine s_iload_n hG dX9_whoOf_14 2 rfl rfl ?_
  refine s_iload_n hG dX9_whoOf_15 3 rfl rfl ?_
  refine s_iload hG dX9_whoOf_16 0 rfl ?_
  refine s_callV (a := 1) (c := 9) (inj := inI) (As := [.int a1, .int a2, .int t0]) (st := []) rfl hG hE dX9_whoOf_18 hR (by decide) vv_X9_248 (by decide) rfl kM_1 rfl (Nat.le_of_ble_eq_true rfl) rfl (fun zv zh zq => c_X9_isBarred w (xl x) a1 a2 t0 h zv zh zq) (fun v1 h2 => ?_)
  refine s_if_ne hG dX9_whoOf_21 (tgt := 27) (by decide) (fun q3 => ?_) (fun q3 => ?_)
  · refine s_iload hG dX9_whoOf_24 0 rfl ?_
    exact s_iret hG hT dX9_whoOf_26
  · refine s_aload_n hG dX9_whoOf_27 1 rfl rfl ?_
    refine s_iload_n hG dX9_whoOf_28 2 rfl rfl ?_
    refine s_iload_n hG dX9_whoOf_29 3 rfl rfl ?_
    refine s_iconst hG dX9_whoOf_30 ic_1 ?_
    refine s_iload hG dX9_whoOf_31 0 rfl ?_
    refine s_isub hG dX9_whoOf_33 ?_
    refine s_callV (a := 1) (c := 9) (inj := inI) (As := [.int a1, .int a2, .int (1 - t0)]) (st := []) rfl hG hE dX9_whoOf_34 hR (by decide) vv_X9_248 (by decide) rfl kM_1 rfl (Nat.le_of_ble_eq_true rfl) rfl (fun zv zh zq => c_X9_isBarred w (xl x) a1 a2 (1 - t0) h2 zv zh zq) (fun v4 h5 => ?_)
    refine s_if_eq hG dX9_whoOf_37 (tgt := 44) (by decide) (fun q6 => ?_) (fun q6 => ?_)
    · refine s_iconst hG dX9_whoOf_44 ic_1 ?_
      refine s_iload hG dX9_whoOf_45 0 rfl ?_
      refine s_isub hG dX9_whoOf_47 ?_
      exact s_iret hG hT dX9_whoOf_48
    · refine s_iconst hG dX9_whoOf_40 ic_2 ?_
      refine s_goto (tgt := 48) hG dX9_whoOf_41 (by decide) ?_
      exact s_iret hG hT dX9_whoOf_48

def m_X9_whoOf (a1 : Int32) (a2 : Int32) (a3 : Int32) (h : Hp) : Option (Int32 × Hp) := if a3 = 6 then m_X9_whoOf_L11 a1 a2 1 h else m_X9_whoOf_L11 a1 a2 0 h
set_option maxRecDepth 20000 in
set_option maxHeartbeats 4000000 in
theorem s_X9_whoOf (w : WT) {x : CT} {l : Launch} (hx : xl x = l) (hG : Gd x cX9_whoOf 5 RX9) (hE : Ge x (GM w)) (hR : Rm x 7) (hT : Rt x (some .int)) (a1 : Int32) (a2 : Int32) (a3 : Int32) (h : Hp) : Sn x 5 (gA (GM w)) (0, 0) (ζM x (GM w) inI) (gW (GM w) h) 0 [(0, .ref (gB (GM w) + 1)), (1, .int a1), (2, .int a2), (3, .int a3)] [] (m_X9_whoOf a1 a2 a3 h) := by
  unfold m_X9_whoOf
  refine s_iload_n hG dX9_whoOf_0 3 rfl rfl ?_
  refine s_bipush hG dX9_whoOf_1 bc_6 ?_
  refine s_icmp_ne hG dX9_whoOf_3 (tgt := 10) (by decide) (fun q1 => ?_) (fun q1 => ?_)
  · refine s_iconst hG dX9_whoOf_6 ic_1 ?_
    refine s_goto (tgt := 11) hG dX9_whoOf_7 (by decide) ?_
    refine s_lv [0, 1, 2] rfl ?_
    exact s_X9_whoOf_L11 w hx hG hE hR hT a1 a2 1 h
  · refine s_iconst hG dX9_whoOf_10 ic_0 ?_
    refine s_lv [0, 1, 2] rfl ?_
    exact s_X9_whoOf_L11 w hx hG hE hR hT a1 a2 0 h

theorem c_X9_whoOf (w : WT) (l : Launch) (a1 : Int32) (a2 : Int32) (a3 : Int32) (h : Hp) : ∀ v h', m_X9_whoOf a1 a2 a3 h = some (v, h') → MetM l (GM w) yX9_whoOf cX9_whoOf 5 (some .int) 7 [.ref (gB (GM w) + 1), .int a1, .int a2, .int a3] h (inI v) h' :=
  met_of (by decide) (lokM w) (Nat.le_of_ble_eq_true rfl) (fun x hx hG hE hR hT => s_X9_whoOf w hx hG hE hR hT a1 a2 a3 h)
theorem vv_X9_254 : VV RX9 254 yX9_whoOf cX9_whoOf 5 (some .int) 3 := ⟨⟨gw_at 1374 (by decide +kernel) (by decide +kernel), gw_at 1377 (by decide +kernel) (by decide +kernel), gw_at 96 (by decide +kernel) (by decide +kernel), by decide +kernel, by decide⟩, gw_at 1376 (by decide +kernel) (by decide +kernel), gw_at 59 (by decide +kernel) (by decide +kernel)⟩
theorem vv_X9_251 : VV RX9 251 yX9_dueBy cX9_dueBy 5 (some .int) 2 := ⟨⟨gw_at 1366 (by decide +kernel) (by decide +kernel), gw_at 1369 (by decide +kernel) (by decide +kernel), gw_at 96 (by decide +kernel) (by decide +kernel), by decide +kernel, by decide⟩, gw_at 1368 (by decide +kernel) (by decide +kernel), gw_at 57 (by decide +kernel) (by decide +kernel)⟩
def m_X9_onto_L30 (k2 : Int32 → Int32 → Int32 → Hp → Option (Int32 × Hp)) (a1 : Int32) (a2 : Int32) (a3 : Int32) (t0 : Int32) (h : Hp) : Option (Int32 × Hp) := if t0 < 0 then vb (a3 + 1) fun v2 => k2 a1 a2 v2 h else ck (inb t0 48) (if (gi h 10 t0.toNatClampNeg) = 6 then vb (a3 + 1) fun v5 => k2 a1 a2 v5 h else cb (m_X9_whoOf a1 a3 (gi h 10 t0.toNatClampNeg) h) fun v6 h7 => if v6 = 0 then some (a3, h7) else vb (a3 + 1) fun v9 => k2 a1 a2 v9 h7)
set_option maxRecDepth 20000 in
set_option maxHeartbeats 4000000 in
theorem s_X9_onto_L30 (w : WT) {x : CT} {l : Launch} (hx : xl x = l) (hG : Gd x cX9_onto 5 RX9) (hE : Ge x (GM w)) (hR : Rm x 8) (hT : Rt x (some .int)) (k2 : Int32 → Int32 → Int32 → Hp → Option (Int32 × Hp)) (hk2 : ∀ (a1 : Int32) (a2 : Int32) (a3 : Int32) (h : Hp), Sn x 5 (gA (GM w)) (0, 0) (ζM x (GM w) inI) (gW (GM w) h) 2 [(0, .ref (gB (GM w) + 1)), (1, .int a1), (2, .int a2), (3, .int a3)] [] (k2 a1 a2 a3 h)) (a1 : Int32) (a2 : Int32) (a3 : Int32) (t0 : Int32) (h : Hp) : Sn x 5 (gA (GM w)) (0, 0) (ζM x (GM w) inI) (gW (GM w) h) 30 [(0, .ref (gB (GM w) + 1)), (1, .int a1), (2, .int a2), (3, .int a3)] [.int t0] (m_X9_onto_L30 k2 a1 a2 a3 t0 h) := by
  unfold m_X9_onto_L30
  refine s_istore (lv' := [(4, .int t0), (0, .ref (gB (GM w) + 1)), (1, .int a1), (2, .int a2), (3, .int a3)]) hG dX9_onto_30 (by decide) rfl ?_
  refine s_iload hG dX9_onto_32 0 rfl ?_
  refine s_if_lt hG dX9_onto_34 (tgt := 67) (by decide) (fun q1 => ?_) (fun q1 => ?_)
  · refine s_iinc hG dX9_onto_67 4 rfl ic_1 (by decide) (fun v2 => [(3, .int v2), (4, .int t0), (0, .ref (gB (GM w) + 1)), (1, .int a1), (2, .int a2)]) (fun _ => rfl) (fun v2 => ?_)
    refine s_goto (tgt := 2) hG dX9_onto_70 (by decide) ?_
    refine s_lv [2, 3, 4, 0] rfl ?_
    exact hk2 a1 a2 v2 h
  · refine s_aload_n hG dX9_onto_37 1 rfl rfl ?_
    refine s_getS hG hE dX9_onto_38 fl_X9_50 rfl kM_1 fM_9_13 (nzM kM_10) ?_
    refine s_iload hG dX9_onto_41 0 rfl ?_
    refine s_ck (fun q3 => ?_)
    refine s_iald hG hE dX9_onto_43 kM_10 q3 ?_
    refine s_bipush hG dX9_onto_44 bc_6 ?_
    refine s_icmp_eq hG dX9_onto_46 (tgt := 67) (by decide) (fun q4 => ?_) (fun q4 => ?_)
    · refine s_iinc hG dX9_onto_67 4 rfl ic_1 (by decide) (fun v5 => [(3, .int v5), (4, .int t0), (0, .ref (gB (GM w) + 1)), (1, .int a1), (2, .int a2)]) (fun _ => rfl) (fun v5 => ?_)
      refine s_goto (tgt := 2) hG dX9_onto_70 (by decide) ?_
      refine s_lv [2, 3, 4, 0] rfl ?_
      exact hk2 a1 a2 v5 h
    · refine s_aload_n hG dX9_onto_49 1 rfl rfl ?_
      refine s_iload_n hG dX9_onto_50 2 rfl rfl ?_
      refine s_iload_n hG dX9_onto_51 4 rfl rfl ?_
      refine s_aload_n hG dX9_onto_52 1 rfl rfl ?_
      refine s_getS hG hE dX9_onto_53 fl_X9_50 rfl kM_1 fM_9_13 (nzM kM_10) ?_
      refine s_iload hG dX9_onto_56 0 rfl ?_
      refine s_iald hG hE dX9_onto_58 kM_10 q3 ?_
      refine s_callV (a := 1) (c := 9) (inj := inI) (As := [.int a1, .int a3, .int (gi h 10 t0.toNatClampNeg)]) (st := []) rfl hG hE dX9_onto_59 hR (by decide) vv_X9_254 (by decide) rfl kM_1 rfl (Nat.le_of_ble_eq_true rfl) rfl (fun zv zh zq => c_X9_whoOf w (xl x) a1 a3 (gi h 10 t0.toNatClampNeg) h zv zh zq) (fun v6 h7 => ?_)
      refine s_if_ne hG dX9_onto_62 (tgt := 67) (by decide) (fun q8 => ?_) (fun q8 => ?_)
      · refine s_iload_n hG dX9_onto_65 4 rfl rfl ?_
        exact s_iret hG hT dX9_onto_66
      · refine s_iinc hG dX9_onto_67 4 rfl ic_1 (by decide) (fun v9 => [(3, .int v9), (4, .int t0), (0, .ref (gB (GM w) + 1)), (1, .int a1), (2, .int a2)]) (fun _ => rfl) (fun v9 => ?_)
        refine s_goto (tgt := 2) hG dX9_onto_70 (by decide) ?_
        refine s_lv [2, 3, 4, 0] rfl ?_
        exact hk2 a1 a2 v9 h7

def m_X9_onto_L2 : Nat → Int32 → Int32 → Int32 → Hp → Option (Int32 × Hp)
  | 0, _, _, _, _ => none
  | n + 1, a1, a2, a3, h => if (gi h 1 1) ≤ a3 then some ((-1), h) else cb (m_X9_get a3 0 h) fun v2 h3 => if v2 = a2 then cb (m_X9_dueBy a1 a3 h3) fun v5 h6 => m_X9_onto_L30 (m_X9_onto_L2 n) a1 a2 a3 v5 h6 else m_X9_onto_L30 (m_X9_onto_L2 n) a1 a2 a3 (-1) h3
set_option maxRecDepth 20000 in
set_option maxHeartbeats 4000000 in
theorem s_X9_onto_L2 (w : WT) {x : CT} {l : Launch} (hx : xl x = l) (hG : Gd x cX9_onto 5 RX9) (hE : Ge x (GM w)) (hR : Rm x 8) (hT : Rt x (some .int)) : ∀ (n : Nat) (a1 : Int32) (a2 : Int32) (a3 : Int32) (h : Hp), Sn x 5 (gA (GM w)) (0, 0) (ζM x (GM w) inI) (gW (GM w) h) 2 [(0, .ref (gB (GM w) + 1)), (1, .int a1), (2, .int a2), (3, .int a3)] [] (m_X9_onto_L2 n a1 a2 a3 h) := by
  intro n
  induction n with
  | zero => intro a1 a2 a3 h; exact s_none
  | succ n ih =>
    intro a1 a2 a3 h
    rw [m_X9_onto_L2]
    refine s_iload_n hG dX9_onto_2 3 rfl rfl ?_
    refine s_aload_n hG dX9_onto_3 0 rfl rfl ?_
    refine s_getI hG hE dX9_onto_4 fl_X9_13 rfl kM_1 ?_
    refine s_icmp_ge hG dX9_onto_7 (tgt := 73) (by decide) (fun q1 => ?_) (fun q1 => ?_)
    · refine s_iconst hG dX9_onto_73 ic_m1 ?_
      exact s_iret hG hT dX9_onto_74
    · refine s_aload_n hG dX9_onto_10 0 rfl rfl ?_
      refine s_iload_n hG dX9_onto_11 3 rfl rfl ?_
      refine s_iconst hG dX9_onto_12 ic_0 ?_
      refine s_callV (a := 1) (c := 9) (inj := inI) (As := [.int a3, .int 0]) (st := []) rfl hG hE dX9_onto_13 hR (by decide) vv_X9_148 (by decide) rfl kM_1 rfl (Nat.le_of_ble_eq_true rfl) rfl (fun zv zh zq => c_X9_get w (xl x) a3 0 h zv zh zq) (fun v2 h3 => ?_)
      refine s_iload_n hG dX9_onto_16 2 rfl rfl ?_
      refine s_icmp_ne hG dX9_onto_17 (tgt := 29) (by decide) (fun q4 => ?_) (fun q4 => ?_)
      · refine s_aload_n hG dX9_onto_20 0 rfl rfl ?_
        refine s_iload_n hG dX9_onto_21 1 rfl rfl ?_
        refine s_iload_n hG dX9_onto_22 3 rfl rfl ?_
        refine s_callV (a := 1) (c := 9) (inj := inI) (As := [.int a1, .int a3]) (st := []) rfl hG hE dX9_onto_23 hR (by decide) vv_X9_251 (by decide) rfl kM_1 rfl (Nat.le_of_ble_eq_true rfl) rfl (fun zv zh zq => c_X9_dueBy w (xl x) a1 a3 h3 zv zh zq) (fun v5 h6 => ?_)
        refine s_goto (tgt := 30) hG dX9_onto_26 (by decide) ?_
        exact s_X9_onto_L30 w hx hG hE hR hT (m_X9_onto_L2 n) ih a1 a2 a3 v5 h6
      · refine s_iconst hG dX9_onto_29 ic_m1 ?_
        exact s_X9_onto_L30 w hx hG hE hR hT (m_X9_onto_L2 n) ih a1 a2 a3 (-1) h3

def m_X9_onto (a1 : Int32) (a2 : Int32) (h : Hp) : Option (Int32 × Hp) := m_X9_onto_L2 FU a1 a2 0 h
set_option maxRecDepth 20000 in
set_option maxHeartbeats 4000000 in
theorem s_X9_onto (w : WT) {x : CT} {l : Launch} (hx : xl x = l) (hG : Gd x cX9_onto 5 RX9) (hE : Ge x (GM w)) (hR : Rm x 8) (hT : Rt x (some .int)) (a1 : Int32) (a2 : Int32) (h : Hp) : Sn x 5 (gA (GM w)) (0, 0) (ζM x (GM w) inI) (gW (GM w) h) 0 [(0, .ref (gB (GM w) + 1)), (1, .int a1), (2, .int a2)] [] (m_X9_onto a1 a2 h) := by
  unfold m_X9_onto
  refine s_iconst hG dX9_onto_0 ic_0 ?_
  refine s_istore_n (lv' := [(3, .int 0), (0, .ref (gB (GM w) + 1)), (1, .int a1), (2, .int a2)]) hG dX9_onto_1 rfl (by decide) rfl ?_
  refine s_lv [1, 2, 3, 0] rfl ?_
  exact s_X9_onto_L2 w hx hG hE hR hT FU a1 a2 0 h

theorem c_X9_onto (w : WT) (l : Launch) (a1 : Int32) (a2 : Int32) (h : Hp) : ∀ v h', m_X9_onto a1 a2 h = some (v, h') → MetM l (GM w) yX9_onto cX9_onto 5 (some .int) 8 [.ref (gB (GM w) + 1), .int a1, .int a2] h (inI v) h' :=
  met_of (by decide) (lokM w) (Nat.le_of_ble_eq_true rfl) (fun x hx hG hE hR hT => s_X9_onto w hx hG hE hR hT a1 a2 h)
theorem vv_X9_257 : VV RX9 257 yX9_onto cX9_onto 5 (some .int) 2 := ⟨⟨gw_at 1370 (by decide +kernel) (by decide +kernel), gw_at 1373 (by decide +kernel) (by decide +kernel), gw_at 96 (by decide +kernel) (by decide +kernel), by decide +kernel, by decide⟩, gw_at 1372 (by decide +kernel) (by decide +kernel), gw_at 58 (by decide +kernel) (by decide +kernel)⟩
def m_X9_comesTo (a1 : Int32) (a2 : Int32) (h : Hp) : Option (Int32 × Hp) := cb (m_X9_openOf a2 h) fun v1 h2 => if v1 = 0 then some (0, h2) else cb (m_X9_knownSide a2 0 h2) fun v4 h5 => cb (m_X9_some a1 0 a2 v4 h5) fun v6 h7 => if v6 = 0 then cb (m_X9_some a1 1 a2 v4 h7) fun v9 h10 => if v9 = 0 then cb (m_X9_dueBy a1 a2 h10) fun v12 h13 => if v12 < 0 then cb (m_X9_some a1 5 a2 v4 h13) fun v15 h16 => if v15 = 0 then some (5, h16) else cb (m_X9_get a2 0 h16) fun v18 h19 => cb (m_X9_onto a1 v18 h19) fun v20 h21 => if v20 < 0 then some (5, h21) else some (4, h21) else some (3, h13) else some (2, h10) else some (1, h7)
set_option maxRecDepth 20000 in
set_option maxHeartbeats 4000000 in
theorem s_X9_comesTo (w : WT) {x : CT} {l : Launch} (hx : xl x = l) (hG : Gd x cX9_comesTo 4 RX9) (hE : Ge x (GM w)) (hR : Rm x 9) (hT : Rt x (some .int)) (a1 : Int32) (a2 : Int32) (h : Hp) : Sn x 4 (gA (GM w)) (0, 0) (ζM x (GM w) inI) (gW (GM w) h) 0 [(0, .ref (gB (GM w) + 1)), (1, .int a1), (2, .int a2)] [] (m_X9_comesTo a1 a2 h) := by
  unfold m_X9_comesTo
  refine s_aload_n hG dX9_comesTo_0 0 rfl rfl ?_
  refine s_iload_n hG dX9_comesTo_1 2 rfl rfl ?_
  refine s_callV (a := 1) (c := 9) (inj := inI) (As := [.int a2]) (st := []) rfl hG hE dX9_comesTo_2 hR (by decide) vv_X9_232 (by decide) rfl kM_1 rfl (Nat.le_of_ble_eq_true rfl) rfl (fun zv zh zq => c_X9_openOf w (xl x) a2 h zv zh zq) (fun v1 h2 => ?_)
  refine s_if_ne hG dX9_comesTo_5 (tgt := 10) (by decide) (fun q3 => ?_) (fun q3 => ?_)
  · refine s_iconst hG dX9_comesTo_8 ic_0 ?_
    exact s_iret hG hT dX9_comesTo_9
  · refine s_aload_n hG dX9_comesTo_10 0 rfl rfl ?_
    refine s_iload_n hG dX9_comesTo_11 2 rfl rfl ?_
    refine s_iconst hG dX9_comesTo_12 ic_0 ?_
    refine s_callV (a := 1) (c := 9) (inj := inI) (As := [.int a2, .int 0]) (st := []) rfl hG hE dX9_comesTo_13 hR (by decide) vv_X9_241 (by decide) rfl kM_1 rfl (Nat.le_of_ble_eq_true rfl) rfl (fun zv zh zq => c_X9_knownSide w (xl x) a2 0 h2 zv zh zq) (fun v4 h5 => ?_)
    refine s_istore_n (lv' := [(3, .int v4), (0, .ref (gB (GM w) + 1)), (1, .int a1), (2, .int a2)]) hG dX9_comesTo_16 rfl (by decide) rfl ?_
    refine s_aload_n hG dX9_comesTo_17 1 rfl rfl ?_
    refine s_iload_n hG dX9_comesTo_18 2 rfl rfl ?_
    refine s_iconst hG dX9_comesTo_19 ic_0 ?_
    refine s_iload_n hG dX9_comesTo_20 3 rfl rfl ?_
    refine s_iload_n hG dX9_comesTo_21 0 rfl rfl ?_
    refine s_callV (a := 1) (c := 9) (inj := inI) (As := [.int a1, .int 0, .int a2, .int v4]) (st := []) rfl hG hE dX9_comesTo_22 hR (by decide) vv_X9_244 (by decide) rfl kM_1 rfl (Nat.le_of_ble_eq_true rfl) rfl (fun zv zh zq => c_X9_some w (xl x) a1 0 a2 v4 h5 zv zh zq) (fun v6 h7 => ?_)
    refine s_if_eq hG dX9_comesTo_25 (tgt := 30) (by decide) (fun q8 => ?_) (fun q8 => ?_)
    · refine s_aload_n hG dX9_comesTo_30 1 rfl rfl ?_
      refine s_iload_n hG dX9_comesTo_31 2 rfl rfl ?_
      refine s_iconst hG dX9_comesTo_32 ic_1 ?_
      refine s_iload_n hG dX9_comesTo_33 3 rfl rfl ?_
      refine s_iload_n hG dX9_comesTo_34 0 rfl rfl ?_
      refine s_callV (a := 1) (c := 9) (inj := inI) (As := [.int a1, .int 1, .int a2, .int v4]) (st := []) rfl hG hE dX9_comesTo_35 hR (by decide) vv_X9_244 (by decide) rfl kM_1 rfl (Nat.le_of_ble_eq_true rfl) rfl (fun zv zh zq => c_X9_some w (xl x) a1 1 a2 v4 h7 zv zh zq) (fun v9 h10 => ?_)
      refine s_if_eq hG dX9_comesTo_38 (tgt := 43) (by decide) (fun q11 => ?_) (fun q11 => ?_)
      · refine s_aload_n hG dX9_comesTo_43 1 rfl rfl ?_
        refine s_iload_n hG dX9_comesTo_44 2 rfl rfl ?_
        refine s_iload_n hG dX9_comesTo_45 3 rfl rfl ?_
        refine s_callV (a := 1) (c := 9) (inj := inI) (As := [.int a1, .int a2]) (st := []) rfl hG hE dX9_comesTo_46 hR (by decide) vv_X9_251 (by decide) rfl kM_1 rfl (Nat.le_of_ble_eq_true rfl) rfl (fun zv zh zq => c_X9_dueBy w (xl x) a1 a2 h10 zv zh zq) (fun v12 h13 => ?_)
        refine s_if_lt hG dX9_comesTo_49 (tgt := 54) (by decide) (fun q14 => ?_) (fun q14 => ?_)
        · refine s_aload_n hG dX9_comesTo_54 1 rfl rfl ?_
          refine s_iload_n hG dX9_comesTo_55 2 rfl rfl ?_
          refine s_iconst hG dX9_comesTo_56 ic_5 ?_
          refine s_iload_n hG dX9_comesTo_57 3 rfl rfl ?_
          refine s_iload_n hG dX9_comesTo_58 0 rfl rfl ?_
          refine s_callV (a := 1) (c := 9) (inj := inI) (As := [.int a1, .int 5, .int a2, .int v4]) (st := []) rfl hG hE dX9_comesTo_59 hR (by decide) vv_X9_244 (by decide) rfl kM_1 rfl (Nat.le_of_ble_eq_true rfl) rfl (fun zv zh zq => c_X9_some w (xl x) a1 5 a2 v4 h13 zv zh zq) (fun v15 h16 => ?_)
          refine s_if_eq hG dX9_comesTo_62 (tgt := 83) (by decide) (fun q17 => ?_) (fun q17 => ?_)
          · refine s_iconst hG dX9_comesTo_83 ic_5 ?_
            exact s_iret hG hT dX9_comesTo_84
          · refine s_aload_n hG dX9_comesTo_65 1 rfl rfl ?_
            refine s_iload_n hG dX9_comesTo_66 2 rfl rfl ?_
            refine s_aload_n hG dX9_comesTo_67 1 rfl rfl ?_
            refine s_iload_n hG dX9_comesTo_68 3 rfl rfl ?_
            refine s_iconst hG dX9_comesTo_69 ic_0 ?_
            refine s_callV (a := 1) (c := 9) (inj := inI) (As := [.int a2, .int 0]) (st := [.int a1, .ref (gB (GM w) + 1)]) rfl hG hE dX9_comesTo_70 hR (by decide) vv_X9_148 (by decide) rfl kM_1 rfl (Nat.le_of_ble_eq_true rfl) rfl (fun zv zh zq => c_X9_get w (xl x) a2 0 h16 zv zh zq) (fun v18 h19 => ?_)
            refine s_callV (a := 1) (c := 9) (inj := inI) (As := [.int a1, .int v18]) (st := []) rfl hG hE dX9_comesTo_73 hR (by decide) vv_X9_257 (by decide) rfl kM_1 rfl (Nat.le_of_ble_eq_true rfl) rfl (fun zv zh zq => c_X9_onto w (xl x) a1 v18 h19 zv zh zq) (fun v20 h21 => ?_)
            refine s_if_lt hG dX9_comesTo_76 (tgt := 83) (by decide) (fun q22 => ?_) (fun q22 => ?_)
            · refine s_iconst hG dX9_comesTo_83 ic_5 ?_
              exact s_iret hG hT dX9_comesTo_84
            · refine s_iconst hG dX9_comesTo_79 ic_4 ?_
              refine s_goto (tgt := 84) hG dX9_comesTo_80 (by decide) ?_
              exact s_iret hG hT dX9_comesTo_84
        · refine s_iconst hG dX9_comesTo_52 ic_3 ?_
          exact s_iret hG hT dX9_comesTo_53
      · refine s_iconst hG dX9_comesTo_41 ic_2 ?_
        exact s_iret hG hT dX9_comesTo_42
    · refine s_iconst hG dX9_comesTo_28 ic_1 ?_
      exact s_iret hG hT dX9_comesTo_29

theorem c_X9_comesTo (w : WT) (l : Launch) (a1 : Int32) (a2 : Int32) (h : Hp) : ∀ v h', m_X9_comesTo a1 a2 h = some (v, h') → MetM l (GM w) yX9_comesTo cX9_comesTo 4 (some .int) 9 [.ref (gB (GM w) + 1), .int a1, .int a2] h (inI v) h' :=
  met_of (by decide) (lokM w) (Nat.le_of_ble_eq_true rfl) (fun x hx hG hE hR hT => s_X9_comesTo w hx hG hE hR hT a1 a2 h)
def m_X9_lawFor (a1 : Int32) (h : Hp) : Option (Int32 × Hp) := cb (m_X9_get a1 0 h) fun v1 h2 => ck (inb v1 5) (some (gi h2 5 v1.toNatClampNeg, h2))
set_option maxRecDepth 20000 in
set_option maxHeartbeats 4000000 in
theorem s_X9_lawFor (w : WT) {x : CT} {l : Launch} (hx : xl x = l) (hG : Gd x cX9_lawFor 2 RX9) (hE : Ge x (GM w)) (hR : Rm x 2) (hT : Rt x (some .int)) (a1 : Int32) (h : Hp) : Sn x 2 (gA (GM w)) (0, 0) (ζM x (GM w) inI) (gW (GM w) h) 0 [(0, .ref (gB (GM w) + 1)), (1, .int a1)] [] (m_X9_lawFor a1 h) := by
  unfold m_X9_lawFor
  refine s_aload_n hG dX9_lawFor_0 0 rfl rfl ?_
  refine s_getS hG hE dX9_lawFor_1 fl_X9_26 rfl kM_1 fM_9_5 (nzM kM_5) ?_
  refine s_aload_n hG dX9_lawFor_4 0 rfl rfl ?_
  refine s_iload_n hG dX9_lawFor_5 1 rfl rfl ?_
  refine s_iconst hG dX9_lawFor_6 ic_0 ?_
  refine s_callV (a := 1) (c := 9) (inj := inI) (As := [.int a1, .int 0]) (st := [.ref (gB (GM w) + 5)]) rfl hG hE dX9_lawFor_7 hR (by decide) vv_X9_148 (by decide) rfl kM_1 rfl (Nat.le_of_ble_eq_true rfl) rfl (fun zv zh zq => c_X9_get w (xl x) a1 0 h zv zh zq) (fun v1 h2 => ?_)
  refine s_ck (fun q3 => ?_)
  refine s_iald hG hE dX9_lawFor_10 kM_5 q3 ?_
  exact s_iret hG hT dX9_lawFor_11

theorem c_X9_lawFor (w : WT) (l : Launch) (a1 : Int32) (h : Hp) : ∀ v h', m_X9_lawFor a1 h = some (v, h') → MetM l (GM w) yX9_lawFor cX9_lawFor 2 (some .int) 2 [.ref (gB (GM w) + 1), .int a1] h (inI v) h' :=
  met_of (by decide) (lokM w) (Nat.le_of_ble_eq_true rfl) (fun x hx hG hE hR hT => s_X9_lawFor w hx hG hE hR hT a1 h)
theorem vv_X9_260 : VV RX9 260 yX9_lawFor cX9_lawFor 2 (some .int) 1 := ⟨⟨gw_at 1338 (by decide +kernel) (by decide +kernel), gw_at 1341 (by decide +kernel) (by decide +kernel), gw_at 96 (by decide +kernel) (by decide +kernel), by decide +kernel, by decide⟩, gw_at 1340 (by decide +kernel) (by decide +kernel), gw_at 50 (by decide +kernel) (by decide +kernel)⟩
theorem vv_X9_263 : VV RX9 263 yX9_comesTo cX9_comesTo 4 (some .int) 2 := ⟨⟨gw_at 1342 (by decide +kernel) (by decide +kernel), gw_at 1345 (by decide +kernel) (by decide +kernel), gw_at 96 (by decide +kernel) (by decide +kernel), by decide +kernel, by decide⟩, gw_at 1344 (by decide +kernel) (by decide +kernel), gw_at 51 (by decide +kernel) (by decide +kernel)⟩
def m_X9_comes (a1 : Int32) (h : Hp) : Option (Int32 × Hp) := cb (m_X9_isClaim a1 h) fun v1 h2 => if v1 = 0 then some ((-1), h2) else cb (m_X9_lawFor a1 h2) fun v4 h5 => cb (m_X9_comesTo v4 a1 h5) fun v6 h7 => some (v6, h7)
set_option maxRecDepth 20000 in
set_option maxHeartbeats 4000000 in
theorem s_X9_comes (w : WT) {x : CT} {l : Launch} (hx : xl x = l) (hG : Gd x cX9_comes 2 RX9) (hE : Ge x (GM w)) (hR : Rm x 10) (hT : Rt x (some .int)) (a1 : Int32) (h : Hp) : Sn x 2 (gA (GM w)) (0, 0) (ζM x (GM w) inI) (gW (GM w) h) 0 [(0, .ref (gB (GM w) + 1)), (1, .int a1)] [] (m_X9_comes a1 h) := by
  unfold m_X9_comes
  refine s_aload_n hG dX9_comes_0 0 rfl rfl ?_
  refine s_iload_n hG dX9_comes_1 1 rfl rfl ?_
  refine s_callV (a := 1) (c := 9) (inj := inI) (As := [.int a1]) (st := []) rfl hG hE dX9_comes_2 hR (by decide) vv_X9_163 (by decide) rfl kM_1 rfl (Nat.le_of_ble_eq_true rfl) rfl (fun zv zh zq => c_X9_isClaim w (xl x) a1 h zv zh zq) (fun v1 h2 => ?_)
  refine s_if_eq hG dX9_comes_5 (tgt := 21) (by decide) (fun q3 => ?_) (fun q3 => ?_)
  · refine s_iconst hG dX9_comes_21 ic_m1 ?_
    exact s_iret hG hT dX9_comes_22
  · refine s_aload_n hG dX9_comes_8 0 rfl rfl ?_
    refine s_aload_n hG dX9_comes_9 0 rfl rfl ?_
    refine s_iload_n hG dX9_comes_10 1 rfl rfl ?_
    refine s_callV (a := 1) (c := 9) (inj := inI) (As := [.int a1]) (st := [.ref (gB (GM w) + 1)]) rfl hG hE dX9_comes_11 hR (by decide) vv_X9_260 (by decide) rfl kM_1 rfl (Nat.le_of_ble_eq_true rfl) rfl (fun zv zh zq => c_X9_lawFor w (xl x) a1 h2 zv zh zq) (fun v4 h5 => ?_)
    refine s_iload_n hG dX9_comes_14 1 rfl rfl ?_
    refine s_callV (a := 1) (c := 9) (inj := inI) (As := [.int v4, .int a1]) (st := []) rfl hG hE dX9_comes_15 hR (by decide) vv_X9_263 (by decide) rfl kM_1 rfl (Nat.le_of_ble_eq_true rfl) rfl (fun zv zh zq => c_X9_comesTo w (xl x) v4 a1 h5 zv zh zq) (fun v6 h7 => ?_)
    refine s_goto (tgt := 22) hG dX9_comes_18 (by decide) ?_
    exact s_iret hG hT dX9_comes_22

theorem c_X9_comes (w : WT) (l : Launch) (a1 : Int32) (h : Hp) : ∀ v h', m_X9_comes a1 h = some (v, h') → MetM l (GM w) yX9_comes cX9_comes 2 (some .int) 10 [.ref (gB (GM w) + 1), .int a1] h (inI v) h' :=
  met_of (by decide) (lokM w) (Nat.le_of_ble_eq_true rfl) (fun x hx hG hE hR hT => s_X9_comes w hx hG hE hR hT a1 h)
def m_X9_oathBy (a1 : Int32) (a2 : Int32) (a3 : Int32) (h : Hp) : Option (Int32 × Hp) := if a3 = 3 then cb (m_X9_dueBy a1 a2 h) fun v8 h9 => some (v8, h9) else cb (m_X9_get a2 0 h) fun v2 h3 => cb (m_X9_onto a1 v2 h3) fun v4 h5 => cb (m_X9_dueBy a1 v4 h5) fun v6 h7 => some (v6, h7)
set_option maxRecDepth 20000 in
set_option maxHeartbeats 4000000 in
theorem s_X9_oathBy (w : WT) {x : CT} {l : Launch} (hx : xl x = l) (hG : Gd x cX9_oathBy 4 RX9) (hE : Ge x (GM w)) (hR : Rm x 9) (hT : Rt x (some .int)) (a1 : Int32) (a2 : Int32) (a3 : Int32) (h : Hp) : Sn x 4 (gA (GM w)) (0, 0) (ζM x (GM w) inI) (gW (GM w) h) 0 [(0, .ref (gB (GM w) + 1)), (1, .int a1), (2, .int a2), (3, .int a3)] [] (m_X9_oathBy a1 a2 a3 h) := by
  unfold m_X9_oathBy
  refine s_iload_n hG dX9_oathBy_0 3 rfl rfl ?_
  refine s_iconst hG dX9_oathBy_1 ic_3 ?_
  refine s_icmp_ne hG dX9_oathBy_2 (tgt := 14) (by decide) (fun q1 => ?_) (fun q1 => ?_)
  · refine s_aload_n hG dX9_oathBy_5 0 rfl rfl ?_
    refine s_iload_n hG dX9_oathBy_6 1 rfl rfl ?_
    refine s_iload_n hG dX9_oathBy_7 2 rfl rfl ?_
    refine s_callV (a := 1) (c := 9) (inj := inI) (As := [.int a1, .int a2]) (st := []) rfl hG hE dX9_oathBy_8 hR (by decide) vv_X9_251 (by decide) rfl kM_1 rfl (Nat.le_of_ble_eq_true rfl) rfl (fun zv zh zq => c_X9_dueBy w (xl x) a1 a2 h zv zh zq) (fun v8 h9 => ?_)
    refine s_goto (tgt := 30) hG dX9_oathBy_11 (by decide) ?_
    exact s_iret hG hT dX9_oathBy_30
  · refine s_aload_n hG dX9_oathBy_14 0 rfl rfl ?_
    refine s_iload_n hG dX9_oathBy_15 1 rfl rfl ?_
    refine s_aload_n hG dX9_oathBy_16 0 rfl rfl ?_
    refine s_iload_n hG dX9_oathBy_17 1 rfl rfl ?_
    refine s_aload_n hG dX9_oathBy_18 0 rfl rfl ?_
    refine s_iload_n hG dX9_oathBy_19 2 rfl rfl ?_
    refine s_iconst hG dX9_oathBy_20 ic_0 ?_
    refine s_callV (a := 1) (c := 9) (inj := inI) (As := [.int a2, .int 0]) (st := [.int a1, .ref (gB (GM w) + 1), .int a1, .ref (gB (GM w) + 1)]) rfl hG hE dX9_oathBy_21 hR (by decide) vv_X9_148 (by decide) rfl kM_1 rfl (Nat.le_of_ble_eq_true rfl) rfl (fun zv zh zq => c_X9_get w (xl x) a2 0 h zv zh zq) (fun v2 h3 => ?_)
    refine s_callV (a := 1) (c := 9) (inj := inI) (As := [.int a1, .int v2]) (st := [.int a1, .ref (gB (GM w) + 1)]) rfl hG hE dX9_oathBy_24 hR (by decide) vv_X9_257 (by decide) rfl kM_1 rfl (Nat.le_of_ble_eq_true rfl) rfl (fun zv zh zq => c_X9_onto w (xl x) a1 v2 h3 zv zh zq) (fun v4 h5 => ?_)
    refine s_callV (a := 1) (c := 9) (inj := inI) (As := [.int a1, .int v4]) (st := []) rfl hG hE dX9_oathBy_27 hR (by decide) vv_X9_251 (by decide) rfl kM_1 rfl (Nat.le_of_ble_eq_true rfl) rfl (fun zv zh zq => c_X9_dueBy w (xl x) a1 v4 h5 zv zh zq) (fun v6 h7 => ?_)
    exact s_iret hG hT dX9_oathBy_30

theorem c_X9_oathBy (w : WT) (l : Launch) (a1 : Int32) (a2 : Int32) (a3 : Int32) (h : Hp) : ∀ v h', m_X9_oathBy a1 a2 a3 h = some (v, h') → MetM l (GM w) yX9_oathBy cX9_oathBy 4 (some .int) 9 [.ref (gB (GM w) + 1), .int a1, .int a2, .int a3] h (inI v) h' :=
  met_of (by decide) (lokM w) (Nat.le_of_ble_eq_true rfl) (fun x hx hG hE hR hT => s_X9_oathBy w hx hG hE hR hT a1 a2 a3 h)
theorem vv_X9_266 : VV RX9 266 yX9_oathBy cX9_oathBy 4 (some .int) 3 := ⟨⟨gw_at 1386 (by decide +kernel) (by decide +kernel), gw_at 1389 (by decide +kernel) (by decide +kernel), gw_at 96 (by decide +kernel) (by decide +kernel), by decide +kernel, by decide⟩, gw_at 1388 (by decide +kernel) (by decide +kernel), gw_at 61 (by decide +kernel) (by decide +kernel)⟩
def m_X9_due_L49 (a1 : Int32) (a2 : Int32) (a3 : Int32) (a4 : Int32) (h : Hp) : Option (Int32 × Hp) := cb (m_X9_oathBy a3 a1 a4 h) fun v1 h2 => if a2 = 0 then ck (inb v1 48) (some (gi h2 10 v1.toNatClampNeg, h2)) else if a2 = 1 then some (v1 - (8 * a3), h2) else ck (inb v1 48) (cb (m_X9_whoOf a3 a1 (gi h2 10 v1.toNatClampNeg) h2) fun v6 h7 => some (v6, h7))
set_option maxRecDepth 20000 in
set_option maxHeartbeats 4000000 in
theorem s_X9_due_L49 (w : WT) {x : CT} {l : Launch} (hx : xl x = l) (hG : Gd x cX9_due 6 RX9) (hE : Ge x (GM w)) (hR : Rm x 10) (hT : Rt x (some .int)) (a1 : Int32) (a2 : Int32) (a3 : Int32) (a4 : Int32) (h : Hp) : Sn x 6 (gA (GM w)) (0, 0) (ζM x (GM w) inI) (gW (GM w) h) 49 [(0, .ref (gB (GM w) + 1)), (1, .int a1), (2, .int a2), (3, .int a3), (4, .int a4)] [] (m_X9_due_L49 a1 a2 a3 a4 h) := by
  unfold m_X9_due_L49
  refine s_aload_n hG dX9_due_49 0 rfl rfl ?_
  refine s_iload_n hG dX9_due_50 3 rfl rfl ?_
  refine s_iload_n hG dX9_due_51 1 rfl rfl ?_
  refine s_iload hG dX9_due_52 4 rfl ?_
  refine s_callV (a := 1) (c := 9) (inj := inI) (As := [.int a3, .int a1, .int a4]) (st := []) rfl hG hE dX9_due_54 hR (by decide) vv_X9_266 (by decide) rfl kM_1 rfl (Nat.le_of_ble_eq_true rfl) rfl (fun zv zh zq => c_X9_oathBy w (xl x) a3 a1 a4 h zv zh zq) (fun v1 h2 => ?_)
  refine s_istore (lv' := [(5, .int v1), (0, .ref (gB (GM w) + 1)), (1, .int a1), (2, .int a2), (3, .int a3), (4, .int a4)]) hG dX9_due_57 (by decide) rfl ?_
  refine s_iload_n hG dX9_due_59 3 rfl rfl ?_
  refine s_if_ne hG dX9_due_60 (tgt := 73) (by decide) (fun q3 => ?_) (fun q3 => ?_)
  · refine s_aload_n hG dX9_due_63 1 rfl rfl ?_
    refine s_getS hG hE dX9_due_64 fl_X9_50 rfl kM_1 fM_9_13 (nzM kM_10) ?_
    refine s_iload hG dX9_due_67 0 rfl ?_
    refine s_ck (fun q8 => ?_)
    refine s_iald hG hE dX9_due_69 kM_10 q8 ?_
    refine s_goto (tgt := 101) hG dX9_due_70 (by decide) ?_
    exact s_iret hG hT dX9_due_101
  · refine s_iload_n hG dX9_due_73 3 rfl rfl ?_
    refine s_iconst hG dX9_due_74 ic_1 ?_
    refine s_icmp_ne hG dX9_due_75 (tgt := 88) (by decide) (fun q4 => ?_) (fun q4 => ?_)
    · refine s_iload hG dX9_due_78 0 rfl ?_
      refine s_bipush hG dX9_due_80 bc_8 ?_
      refine s_iload_n hG dX9_due_82 4 rfl rfl ?_
      refine s_imul hG dX9_due_83 ?_
      refine s_isub hG dX9_due_84 ?_
      refine s_goto (tgt := 101) hG dX9_due_85 (by decide) ?_
      exact s_iret hG hT dX9_due_101
    · refine s_aload_n hG dX9_due_88 1 rfl rfl ?_
      refine s_iload_n hG dX9_due_89 4 rfl rfl ?_
      refine s_iload_n hG dX9_due_90 2 rfl rfl ?_
      refine s_aload_n hG dX9_due_91 1 rfl rfl ?_
      refine s_getS hG hE dX9_due_92 fl_X9_50 rfl kM_1 fM_9_13 (nzM kM_10) ?_
      refine s_iload hG dX9_due_95 0 rfl ?_
      refine s_ck (fun q5 => ?_)
      refine s_iald hG hE dX9_due_97 kM_10 q5 ?_
      refine s_callV (a := 1) (c := 9) (inj := inI) (As := [.int a3, .int a1, .int (gi h2 10 v1.toNatClampNeg)]) (st := []) rfl hG hE dX9_due_98 hR (by decide) vv_X9_254 (by decide) rfl kM_1 rfl (Nat.le_of_ble_eq_true rfl) rfl (fun zv zh zq => c_X9_whoOf w (xl x) a3 a1 (gi h2 10 v1.toNatClampNeg) h2 zv zh zq) (fun v6 h7 => ?_)
      exact s_iret hG hT dX9_due_101

def m_X9_due (a1 : Int32) (a2 : Int32) (h : Hp) : Option (Int32 × Hp) := cb (m_X9_isClaim a1 h) fun v1 h2 => if v1 = 0 then some ((-1), h2) else cb (m_X9_in a2 0 2 h2) fun v4 h5 => if v4 = 0 then some ((-1), h5) else cb (m_X9_lawFor a1 h5) fun v7 h8 => cb (m_X9_comesTo v7 a1 h8) fun v9 h10 => if v9 = 3 then m_X9_due_L49 a1 a2 v7 v9 h10 else if v9 = 4 then m_X9_due_L49 a1 a2 v7 v9 h10 else some ((-5), h10)
set_option maxRecDepth 20000 in
set_option maxHeartbeats 4000000 in
theorem s_X9_due (w : WT) {x : CT} {l : Launch} (hx : xl x = l) (hG : Gd x cX9_due 6 RX9) (hE : Ge x (GM w)) (hR : Rm x 10) (hT : Rt x (some .int)) (a1 : Int32) (a2 : Int32) (h : Hp) : Sn x 6 (gA (GM w)) (0, 0) (ζM x (GM w) inI) (gW (GM w) h) 0 [(0, .ref (gB (GM w) + 1)), (1, .int a1), (2, .int a2)] [] (m_X9_due a1 a2 h) := by
  unfold m_X9_due
  refine s_aload_n hG dX9_due_0 0 rfl rfl ?_
  refine s_iload_n hG dX9_due_1 1 rfl rfl ?_
  refine s_callV (a := 1) (c := 9) (inj := inI) (As := [.int a1]) (st := []) rfl hG hE dX9_due_2 hR (by decide) vv_X9_163 (by decide) rfl kM_1 rfl (Nat.le_of_ble_eq_true rfl) rfl (fun zv zh zq => c_X9_isClaim w (xl x) a1 h zv zh zq) (fun v1 h2 => ?_)
  refine s_if_eq hG dX9_due_5 (tgt := 18) (by decide) (fun q3 => ?_) (fun q3 => ?_)
  · refine s_iconst hG dX9_due_18 ic_m1 ?_
    exact s_iret hG hT dX9_due_19
  · refine s_aload_n hG dX9_due_8 0 rfl rfl ?_
    refine s_iload_n hG dX9_due_9 2 rfl rfl ?_
    refine s_iconst hG dX9_due_10 ic_0 ?_
    refine s_iconst hG dX9_due_11 ic_2 ?_
    refine s_callV (a := 1) (c := 9) (inj := inI) (As := [.int a2, .int 0, .int 2]) (st := []) rfl hG hE dX9_due_12 hR (by decide) vv_X9_144 (by decide) rfl kM_1 rfl (Nat.le_of_ble_eq_true rfl) rfl (fun zv zh zq => c_X9_in w (xl x) a2 0 2 h2 zv zh zq) (fun v4 h5 => ?_)
    refine s_if_ne hG dX9_due_15 (tgt := 20) (by decide) (fun q6 => ?_) (fun q6 => ?_)
    · refine s_iconst hG dX9_due_18 ic_m1 ?_
      exact s_iret hG hT dX9_due_19
    · refine s_aload_n hG dX9_due_20 0 rfl rfl ?_
      refine s_iload_n hG dX9_due_21 1 rfl rfl ?_
      refine s_callV (a := 1) (c := 9) (inj := inI) (As := [.int a1]) (st := []) rfl hG hE dX9_due_22 hR (by decide) vv_X9_260 (by decide) rfl kM_1 rfl (Nat.le_of_ble_eq_true rfl) rfl (fun zv zh zq => c_X9_lawFor w (xl x) a1 h5 zv zh zq) (fun v7 h8 => ?_)
      refine s_istore_n (lv' := [(3, .int v7), (0, .ref (gB (GM w) + 1)), (1, .int a1), (2, .int a2)]) hG dX9_due_25 rfl (by decide) rfl ?_
      refine s_aload_n hG dX9_due_26 1 rfl rfl ?_
      refine s_iload_n hG dX9_due_27 0 rfl rfl ?_
      refine s_iload_n hG dX9_due_28 2 rfl rfl ?_
      refine s_callV (a := 1) (c := 9) (inj := inI) (As := [.int v7, .int a1]) (st := []) rfl hG hE dX9_due_29 hR (by decide) vv_X9_263 (by decide) rfl kM_1 rfl (Nat.le_of_ble_eq_true rfl) rfl (fun zv zh zq => c_X9_comesTo w (xl x) v7 a1 h8 zv zh zq) (fun v9 h10 => ?_)
      refine s_istore (lv' := [(4, .int v9), (3, .int v7), (0, .ref (gB (GM w) + 1)), (1, .int a1), (2, .int a2)]) hG dX9_due_32 (by decide) rfl ?_
      refine s_iload hG dX9_due_34 0 rfl ?_
      refine s_iconst hG dX9_due_36 ic_3 ?_
      refine s_icmp_eq hG dX9_due_37 (tgt := 49) (by decide) (fun q11 => ?_) (fun q11 => ?_)
      · refine s_lv [2, 3, 4, 1, 0] rfl ?_
        exact s_X9_due_L49 w hx hG hE hR hT a1 a2 v7 v9 h10
      · refine s_iload hG dX9_due_40 0 rfl ?_
        refine s_iconst hG dX9_due_42 ic_4 ?_
        refine s_icmp_eq hG dX9_due_43 (tgt := 49) (by decide) (fun q12 => ?_) (fun q12 => ?_)
        · refine s_lv [2, 3, 4, 1, 0] rfl ?_
          exact s_X9_due_L49 w hx hG hE hR hT a1 a2 v7 v9 h10
        · refine s_bipush hG dX9_due_46 bc_m5 ?_
          exact s_iret hG hT dX9_due_48

theorem c_X9_due (w : WT) (l : Launch) (a1 : Int32) (a2 : Int32) (h : Hp) : ∀ v h', m_X9_due a1 a2 h = some (v, h') → MetM l (GM w) yX9_due cX9_due 6 (some .int) 10 [.ref (gB (GM w) + 1), .int a1, .int a2] h (inI v) h' :=
  met_of (by decide) (lokM w) (Nat.le_of_ble_eq_true rfl) (fun x hx hG hE hR hT => s_X9_due w hx hG hE hR hT a1 a2 h)
def m_X9_lineOf (a1 : Int32) (h : Hp) : Option (Int64 × Hp) := ck (inb a1 6) (some (((gi h 14 a1.toNatClampNeg).toInt64) * ((gi h 16 a1.toNatClampNeg).toInt64), h))
set_option maxRecDepth 20000 in
set_option maxHeartbeats 4000000 in
theorem s_X9_lineOf (w : WT) {x : CT} {l : Launch} (hx : xl x = l) (hG : Gd x cX9_lineOf 2 RX9) (hE : Ge x (GM w)) (hR : Rm x 1) (hT : Rt x (some .long)) (a1 : Int32) (h : Hp) : Sn x 2 (gA (GM w)) (0, 0) (ζM x (GM w) inL) (gW (GM w) h) 0 [(0, .ref (gB (GM w) + 1)), (1, .int a1)] [] (m_X9_lineOf a1 h) := by
  unfold m_X9_lineOf
  refine s_aload_n hG dX9_lineOf_0 0 rfl rfl ?_
  refine s_getS hG hE dX9_lineOf_1 fl_X9_62 rfl kM_1 fM_9_17 (nzM kM_14) ?_
  refine s_iload_n hG dX9_lineOf_4 1 rfl rfl ?_
  refine s_ck (fun q1 => ?_)
  refine s_iald hG hE dX9_lineOf_5 kM_14 q1 ?_
  refine s_i2l hG dX9_lineOf_6 ?_
  refine s_aload_n hG dX9_lineOf_7 0 rfl rfl ?_
  refine s_getS hG hE dX9_lineOf_8 fl_X9_68 rfl kM_1 fM_9_19 (nzM kM_16) ?_
  refine s_iload_n hG dX9_lineOf_11 1 rfl rfl ?_
  refine s_iald hG hE dX9_lineOf_12 kM_16 q1 ?_
  refine s_i2l hG dX9_lineOf_13 ?_
  refine s_lmul hG dX9_lineOf_14 ?_
  exact s_lret hG hT dX9_lineOf_15

theorem c_X9_lineOf (w : WT) (l : Launch) (a1 : Int32) (h : Hp) : ∀ v h', m_X9_lineOf a1 h = some (v, h') → MetM l (GM w) yX9_lineOf cX9_lineOf 2 (some .long) 1 [.ref (gB (GM w) + 1), .int a1] h (inL v) h' :=
  met_of (by decide) (lokM w) (Nat.le_of_ble_eq_true rfl) (fun x hx hG hE hR hT => s_X9_lineOf w hx hG hE hR hT a1 h)
theorem fl_X9_96 : FL RX9 96 9 28 := ⟨by decide, by decide, gw_at 1095 (by decide +kernel) (by decide +kernel), rfl⟩
theorem vv_X9_269 : VV RX9 269 yX9_lineOf cX9_lineOf 2 (some .long) 1 := ⟨⟨gw_at 1399 (by decide +kernel) (by decide +kernel), gw_at 1402 (by decide +kernel) (by decide +kernel), gw_at 96 (by decide +kernel) (by decide +kernel), by decide +kernel, by decide⟩, gw_at 1401 (by decide +kernel) (by decide +kernel), gw_at 63 (by decide +kernel) (by decide +kernel)⟩
def m_X9_paidOf_L288 (a5 : Int64) (a7 : Int64) (t0 : Int64) (h : Hp) : Option (Int64 × Hp) := some (t0 + (a7 * a5), h)
set_option maxRecDepth 20000 in
set_option maxHeartbeats 4000000 in
theorem s_X9_paidOf_L288 (w : WT) {x : CT} {l : Launch} (hx : xl x = l) (hG : Gd x cX9_paidOf 15 RX9) (hE : Ge x (GM w)) (hR : Rm x 10) (hT : Rt x (some .long)) (a5 : Int64) (a7 : Int64) (t0 : Int64) (h : Hp) : Sn x 15 (gA (GM w)) (0, 0) (ζM x (GM w) inL) (gW (GM w) h) 288 [(5, .long a5), (7, .long a7)] [.long t0] (m_X9_paidOf_L288 a5 a7 t0 h) := by
  unfold m_X9_paidOf_L288
  refine s_lload hG dX9_paidOf_288 1 rfl ?_
  refine s_lload hG dX9_paidOf_290 0 rfl ?_
  refine s_lmul hG dX9_paidOf_292 ?_
  refine s_ladd hG dX9_paidOf_293 ?_
  exact s_lret hG hT dX9_paidOf_294

def m_X9_paidOf_L295 (a1 : Int32) (a7 : Int64) (a9 : Int64) (h : Hp) : Option (Int64 × Hp) := ck (inb a1 6) (some (a9 + ((a7 * ((gi h 13 a1.toNatClampNeg).toInt64)) * ((gi h 16 a1.toNatClampNeg).toInt64)), h))
set_option maxRecDepth 20000 in
set_option maxHeartbeats 4000000 in
theorem s_X9_paidOf_L295 (w : WT) {x : CT} {l : Launch} (hx : xl x = l) (hG : Gd x cX9_paidOf 15 RX9) (hE : Ge x (GM w)) (hR : Rm x 10) (hT : Rt x (some .long)) (a1 : Int32) (a7 : Int64) (a9 : Int64) (h : Hp) : Sn x 15 (gA (GM w)) (0, 0) (ζM x (GM w) inL) (gW (GM w) h) 295 [(0, .ref (gB (GM w) + 1)), (1, .int a1), (7, .long a7), (9, .long a9)] [] (m_X9_paidOf_L295 a1 a7 a9 h) := by
  unfold m_X9_paidOf_L295
  refine s_lload hG dX9_paidOf_295 3 rfl ?_
  refine s_lload hG dX9_paidOf_297 2 rfl ?_
  refine s_aload_n hG dX9_paidOf_299 0 rfl rfl ?_
  refine s_getS hG hE dX9_paidOf_300 fl_X9_59 rfl kM_1 fM_9_16 (nzM kM_13) ?_
  refine s_iload_n hG dX9_paidOf_303 1 rfl rfl ?_
  refine s_ck (fun q1 => ?_)
  refine s_iald hG hE dX9_paidOf_304 kM_13 q1 ?_
  refine s_i2l hG dX9_paidOf_305 ?_
  refine s_lmul hG dX9_paidOf_306 ?_
  refine s_aload_n hG dX9_paidOf_307 0 rfl rfl ?_
  refine s_getS hG hE dX9_paidOf_308 fl_X9_68 rfl kM_1 fM_9_19 (nzM kM_16) ?_
  refine s_iload_n hG dX9_paidOf_311 1 rfl rfl ?_
  refine s_iald hG hE dX9_paidOf_312 kM_16 q1 ?_
  refine s_i2l hG dX9_paidOf_313 ?_
  refine s_lmul hG dX9_paidOf_314 ?_
  refine s_ladd hG dX9_paidOf_315 ?_
  exact s_lret hG hT dX9_paidOf_316

def m_X9_paidOf_L207 (a1 : Int32) (a2 : Int32) (a3 : Int32) (a5 : Int64) (a7 : Int64) (a9 : Int64) (a12 : Int32) (a13 : Int32) (t0 : Int32) (h : Hp) : Option (Int64 × Hp) := ck (isb t0) (hb (si h 1 28 t0) fun h1 => if a12 = 1 then if (gi h1 1 28) = 0 then some (a9 + 0, h1) else some (a9 + (a7 * a5), h1) else if (gi h1 1 28) = 0 then cb (m_X9_knownSide a2 1 h1) fun v5 h6 => cb (m_X9_some a1 4 a2 v5 h6) fun v7 h8 => if v7 = 0 then m_X9_paidOf_L295 a1 a7 a9 h8 else cb (m_X9_isBarred a1 a2 1 h8) fun v10 h11 => if v10 = 0 then if a3 = 2 then if a13 = 0 then some (a9 + 0, h11) else m_X9_paidOf_L288 a5 a7 a9 h11 else m_X9_paidOf_L288 a5 a7 a9 h11 else m_X9_paidOf_L295 a1 a7 a9 h11 else some (a9, h1))
set_option maxRecDepth 20000 in
set_option maxHeartbeats 4000000 in
theorem s_X9_paidOf_L207 (w : WT) {x : CT} {l : Launch} (hx : xl x = l) (hG : Gd x cX9_paidOf 15 RX9) (hE : Ge x (GM w)) (hR : Rm x 10) (hT : Rt x (some .long)) (a1 : Int32) (a2 : Int32) (a3 : Int32) (a5 : Int64) (a7 : Int64) (a9 : Int64) (a12 : Int32) (a13 : Int32) (t0 : Int32) (h : Hp) : Sn x 15 (gA (GM w)) (0, 0) (ζM x (GM w) inL) (gW (GM w) h) 207 [(0, .ref (gB (GM w) + 1)), (1, .int a1), (2, .int a2), (3, .int a3), (5, .long a5), (7, .long a7), (9, .long a9), (12, .int a12), (13, .int a13)] [.int t0, .ref (gB (GM w) + 1)] (m_X9_paidOf_L207 a1 a2 a3 a5 a7 a9 a12 a13 t0 h) := by
  unfold m_X9_paidOf_L207
  refine s_ck (fun q2 => ?_)
  refine s_putZ hG hE dX9_paidOf_207 fl_X9_96 rfl rfl (isb_cases q2) kM_1 (fun h1 => ?_)
  refine s_iload hG dX9_paidOf_210 7 rfl ?_
  refine s_iconst hG dX9_paidOf_212 ic_1 ?_
  refine s_icmp_ne hG dX9_paidOf_213 (tgt := 236) (by decide) (fun q3 => ?_) (fun q3 => ?_)
  · refine s_lload hG dX9_paidOf_216 6 rfl ?_
    refine s_aload_n hG dX9_paidOf_218 0 rfl rfl ?_
    refine s_getI hG hE dX9_paidOf_219 fl_X9_96 rfl kM_1 ?_
    refine s_if_eq hG dX9_paidOf_222 (tgt := 233) (by decide) (fun q15 => ?_) (fun q15 => ?_)
    · refine s_lconst hG dX9_paidOf_233 lc_0 ?_
      refine s_ladd hG dX9_paidOf_234 ?_
      exact s_lret hG hT dX9_paidOf_235
    · refine s_lload hG dX9_paidOf_225 5 rfl ?_
      refine s_lload hG dX9_paidOf_227 4 rfl ?_
      refine s_lmul hG dX9_paidOf_229 ?_
      refine s_goto (tgt := 234) hG dX9_paidOf_230 (by decide) ?_
      refine s_ladd hG dX9_paidOf_234 ?_
      exact s_lret hG hT dX9_paidOf_235
  · refine s_aload_n hG dX9_paidOf_236 0 rfl rfl ?_
    refine s_getI hG hE dX9_paidOf_237 fl_X9_96 rfl kM_1 ?_
    refine s_if_eq hG dX9_paidOf_240 (tgt := 246) (by decide) (fun q4 => ?_) (fun q4 => ?_)
    · refine s_aload_n hG dX9_paidOf_246 0 rfl rfl ?_
      refine s_iload_n hG dX9_paidOf_247 1 rfl rfl ?_
      refine s_iconst hG dX9_paidOf_248 ic_4 ?_
      refine s_iload_n hG dX9_paidOf_249 2 rfl rfl ?_
      refine s_aload_n hG dX9_paidOf_250 0 rfl rfl ?_
      refine s_iload_n hG dX9_paidOf_251 2 rfl rfl ?_
      refine s_iconst hG dX9_paidOf_252 ic_1 ?_
      refine s_callV (a := 1) (c := 9) (inj := inI) (As := [.int a2, .int 1]) (st := [.int a2, .int 4, .int a1, .ref (gB (GM w) + 1)]) rfl hG hE dX9_paidOf_253 hR (by decide) vv_X9_241 (by decide) rfl kM_1 rfl (Nat.le_of_ble_eq_true rfl) rfl (fun zv zh zq => c_X9_knownSide w (xl x) a2 1 h1 zv zh zq) (fun v5 h6 => ?_)
      refine s_callV (a := 1) (c := 9) (inj := inI) (As := [.int a1, .int 4, .int a2, .int v5]) (st := []) rfl hG hE dX9_paidOf_256 hR (by decide) vv_X9_244 (by decide) rfl kM_1 rfl (Nat.le_of_ble_eq_true rfl) rfl (fun zv zh zq => c_X9_some w (xl x) a1 4 a2 v5 h6 zv zh zq) (fun v7 h8 => ?_)
      refine s_if_eq hG dX9_paidOf_259 (tgt := 295) (by decide) (fun q9 => ?_) (fun q9 => ?_)
      · refine s_lv [0, 1, 5, 6] rfl ?_
        exact s_X9_paidOf_L295 w hx hG hE hR hT a1 a7 a9 h8
      · refine s_aload_n hG dX9_paidOf_262 0 rfl rfl ?_
        refine s_iload_n hG dX9_paidOf_263 1 rfl rfl ?_
        refine s_iload_n hG dX9_paidOf_264 2 rfl rfl ?_
        refine s_iconst hG dX9_paidOf_265 ic_1 ?_
        refine s_callV (a := 1) (c := 9) (inj := inI) (As := [.int a1, .int a2, .int 1]) (st := []) rfl hG hE dX9_paidOf_266 hR (by decide) vv_X9_248 (by decide) rfl kM_1 rfl (Nat.le_of_ble_eq_true rfl) rfl (fun zv zh zq => c_X9_isBarred w (xl x) a1 a2 1 h8 zv zh zq) (fun v10 h11 => ?_)
        refine s_if_ne hG dX9_paidOf_269 (tgt := 295) (by decide) (fun q12 => ?_) (fun q12 => ?_)
        · refine s_lload hG dX9_paidOf_272 6 rfl ?_
          refine s_iload_n hG dX9_paidOf_274 3 rfl rfl ?_
          refine s_iconst hG dX9_paidOf_275 ic_2 ?_
          refine s_icmp_ne hG dX9_paidOf_276 (tgt := 288) (by decide) (fun q13 => ?_) (fun q13 => ?_)
          · refine s_iload hG dX9_paidOf_279 8 rfl ?_
            refine s_if_ne hG dX9_paidOf_281 (tgt := 288) (by decide) (fun q14 => ?_) (fun q14 => ?_)
            · refine s_lconst hG dX9_paidOf_284 lc_0 ?_
              refine s_goto (tgt := 293) hG dX9_paidOf_285 (by decide) ?_
              refine s_ladd hG dX9_paidOf_293 ?_
              exact s_lret hG hT dX9_paidOf_294
            · refine s_lv [4, 5] rfl ?_
              exact s_X9_paidOf_L288 w hx hG hE hR hT a5 a7 a9 h11
          · refine s_lv [4, 5] rfl ?_
            exact s_X9_paidOf_L288 w hx hG hE hR hT a5 a7 a9 h11
        · refine s_lv [0, 1, 5, 6] rfl ?_
          exact s_X9_paidOf_L295 w hx hG hE hR hT a1 a7 a9 h11
    · refine s_lload hG dX9_paidOf_243 6 rfl ?_
      exact s_lret hG hT dX9_paidOf_245

def m_X9_paidOf_L184 (a1 : Int32) (a2 : Int32) (a3 : Int32) (a5 : Int64) (a7 : Int64) (a9 : Int64) (a12 : Int32) (a13 : Int32) (t0 : Int32) (h : Hp) : Option (Int64 × Hp) := if a3 = 2 then m_X9_paidOf_L207 a1 a2 a3 a5 a7 a9 a12 a13 t0 h else if a3 = 1 then m_X9_paidOf_L207 a1 a2 a3 a5 a7 a9 a12 a13 1 h else m_X9_paidOf_L207 a1 a2 a3 a5 a7 a9 a12 a13 0 h
set_option maxRecDepth 20000 in
set_option maxHeartbeats 4000000 in
theorem s_X9_paidOf_L184 (w : WT) {x : CT} {l : Launch} (hx : xl x = l) (hG : Gd x cX9_paidOf 15 RX9) (hE : Ge x (GM w)) (hR : Rm x 10) (hT : Rt x (some .long)) (a1 : Int32) (a2 : Int32) (a3 : Int32) (a5 : Int64) (a7 : Int64) (a9 : Int64) (a12 : Int32) (a13 : Int32) (t0 : Int32) (h : Hp) : Sn x 15 (gA (GM w)) (0, 0) (ζM x (GM w) inL) (gW (GM w) h) 184 [(0, .ref (gB (GM w) + 1)), (1, .int a1), (2, .int a2), (3, .int a3), (5, .long a5), (7, .long a7), (9, .long a9), (12, .int a12), (13, .int a13)] [.int t0] (m_X9_paidOf_L184 a1 a2 a3 a5 a7 a9 a12 a13 t0 h) := by
  unfold m_X9_paidOf_L184
  refine s_istore (lv' := [(14, .int t0), (0, .ref (gB (GM w) + 1)), (1, .int a1), (2, .int a2), (3, .int a3), (5, .long a5), (7, .long a7), (9, .long a9), (12, .int a12), (13, .int a13)]) hG dX9_paidOf_184 (by decide) rfl ?_
  refine s_aload_n hG dX9_paidOf_186 1 rfl rfl ?_
  refine s_iload_n hG dX9_paidOf_187 4 rfl rfl ?_
  refine s_iconst hG dX9_paidOf_188 ic_2 ?_
  refine s_icmp_ne hG dX9_paidOf_189 (tgt := 197) (by decide) (fun q1 => ?_) (fun q1 => ?_)
  · refine s_iload hG dX9_paidOf_192 0 rfl ?_
    refine s_goto (tgt := 207) hG dX9_paidOf_194 (by decide) ?_
    refine s_lv [1, 2, 3, 4, 5, 6, 7, 8, 9] rfl ?_
    exact s_X9_paidOf_L207 w hx hG hE hR hT a1 a2 a3 a5 a7 a9 a12 a13 t0 h
  · refine s_iload_n hG dX9_paidOf_197 4 rfl rfl ?_
    refine s_iconst hG dX9_paidOf_198 ic_1 ?_
    refine s_icmp_ne hG dX9_paidOf_199 (tgt := 206) (by decide) (fun q2 => ?_) (fun q2 => ?_)
    · refine s_iconst hG dX9_paidOf_202 ic_1 ?_
      refine s_goto (tgt := 207) hG dX9_paidOf_203 (by decide) ?_
      refine s_lv [1, 2, 3, 4, 5, 6, 7, 8, 9] rfl ?_
      exact s_X9_paidOf_L207 w hx hG hE hR hT a1 a2 a3 a5 a7 a9 a12 a13 1 h
    · refine s_iconst hG dX9_paidOf_206 ic_0 ?_
      refine s_lv [1, 2, 3, 4, 5, 6, 7, 8, 9] rfl ?_
      exact s_X9_paidOf_L207 w hx hG hE hR hT a1 a2 a3 a5 a7 a9 a12 a13 0 h

def m_X9_paidOf_L179 (a1 : Int32) (a2 : Int32) (a3 : Int32) (a5 : Int64) (a7 : Int64) (a9 : Int64) (a12 : Int32) (a13 : Int32) (h : Hp) : Option (Int64 × Hp) := m_X9_paidOf_L184 a1 a2 a3 a5 a7 a9 a12 a13 1 h
set_option maxRecDepth 20000 in
set_option maxHeartbeats 4000000 in
theorem s_X9_paidOf_L179 (w : WT) {x : CT} {l : Launch} (hx : xl x = l) (hG : Gd x cX9_paidOf 15 RX9) (hE : Ge x (GM w)) (hR : Rm x 10) (hT : Rt x (some .long)) (a1 : Int32) (a2 : Int32) (a3 : Int32) (a5 : Int64) (a7 : Int64) (a9 : Int64) (a12 : Int32) (a13 : Int32) (h : Hp) : Sn x 15 (gA (GM w)) (0, 0) (ζM x (GM w) inL) (gW (GM w) h) 179 [(0, .ref (gB (GM w) + 1)), (1, .int a1), (2, .int a2), (3, .int a3), (5, .long a5), (7, .long a7), (9, .long a9), (12, .int a12), (13, .int a13)] [] (m_X9_paidOf_L179 a1 a2 a3 a5 a7 a9 a12 a13 h) := by
  unfold m_X9_paidOf_L179
  refine s_iconst hG dX9_paidOf_179 ic_1 ?_
  refine s_goto (tgt := 184) hG dX9_paidOf_180 (by decide) ?_
  exact s_X9_paidOf_L184 w hx hG hE hR hT a1 a2 a3 a5 a7 a9 a12 a13 1 h

def m_X9_paidOf_L144 (a1 : Int32) (a2 : Int32) (a3 : Int32) (a5 : Int64) (a7 : Int64) (a9 : Int64) (a11 : Int32) (a12 : Int32) (t0 : Int32) (h : Hp) : Option (Int64 × Hp) := if a12 = 1 then m_X9_paidOf_L184 a1 a2 a3 a5 a7 a9 a12 t0 t0 h else if a11 = 4 then m_X9_paidOf_L179 a1 a2 a3 a5 a7 a9 a12 t0 h else cb (m_X9_get a2 9 h) fun v3 h4 => cb (m_X9_get a2 3 h4) fun v5 h6 => if v5 < v3 then m_X9_paidOf_L184 a1 a2 a3 a5 a7 a9 a12 t0 0 h6 else m_X9_paidOf_L179 a1 a2 a3 a5 a7 a9 a12 t0 h6
set_option maxRecDepth 20000 in
set_option maxHeartbeats 4000000 in
theorem s_X9_paidOf_L144 (w : WT) {x : CT} {l : Launch} (hx : xl x = l) (hG : Gd x cX9_paidOf 15 RX9) (hE : Ge x (GM w)) (hR : Rm x 10) (hT : Rt x (some .long)) (a1 : Int32) (a2 : Int32) (a3 : Int32) (a5 : Int64) (a7 : Int64) (a9 : Int64) (a11 : Int32) (a12 : Int32) (t0 : Int32) (h : Hp) : Sn x 15 (gA (GM w)) (0, 0) (ζM x (GM w) inL) (gW (GM w) h) 144 [(0, .ref (gB (GM w) + 1)), (1, .int a1), (2, .int a2), (3, .int a3), (5, .long a5), (7, .long a7), (9, .long a9), (11, .int a11), (12, .int a12)] [.int t0] (m_X9_paidOf_L144 a1 a2 a3 a5 a7 a9 a11 a12 t0 h) := by
  unfold m_X9_paidOf_L144
  refine s_istore (lv' := [(13, .int t0), (0, .ref (gB (GM w) + 1)), (1, .int a1), (2, .int a2), (3, .int a3), (5, .long a5), (7, .long a7), (9, .long a9), (11, .int a11), (12, .int a12)]) hG dX9_paidOf_144 (by decide) rfl ?_
  refine s_iload hG dX9_paidOf_146 9 rfl ?_
  refine s_iconst hG dX9_paidOf_148 ic_1 ?_
  refine s_icmp_ne hG dX9_paidOf_149 (tgt := 157) (by decide) (fun q1 => ?_) (fun q1 => ?_)
  · refine s_iload hG dX9_paidOf_152 0 rfl ?_
    refine s_goto (tgt := 184) hG dX9_paidOf_154 (by decide) ?_
    refine s_lv [1, 2, 3, 4, 5, 6, 7, 9, 0] rfl ?_
    exact s_X9_paidOf_L184 w hx hG hE hR hT a1 a2 a3 a5 a7 a9 a12 t0 t0 h
  · refine s_iload hG dX9_paidOf_157 8 rfl ?_
    refine s_iconst hG dX9_paidOf_159 ic_4 ?_
    refine s_icmp_eq hG dX9_paidOf_160 (tgt := 179) (by decide) (fun q2 => ?_) (fun q2 => ?_)
    · refine s_lv [1, 2, 3, 4, 5, 6, 7, 9, 0] rfl ?_
      exact s_X9_paidOf_L179 w hx hG hE hR hT a1 a2 a3 a5 a7 a9 a12 t0 h
    · refine s_aload_n hG dX9_paidOf_163 1 rfl rfl ?_
      refine s_iload_n hG dX9_paidOf_164 3 rfl rfl ?_
      refine s_bipush hG dX9_paidOf_165 bc_9 ?_
      refine s_callV (a := 1) (c := 9) (inj := inI) (As := [.int a2, .int 9]) (st := []) rfl hG hE dX9_paidOf_167 hR (by decide) vv_X9_148 (by decide) rfl kM_1 rfl (Nat.le_of_ble_eq_true rfl) rfl (fun zv zh zq => c_X9_get w (xl x) a2 9 h zv zh zq) (fun v3 h4 => ?_)
      refine s_aload_n hG dX9_paidOf_170 1 rfl rfl ?_
      refine s_iload_n hG dX9_paidOf_171 3 rfl rfl ?_
      refine s_iconst hG dX9_paidOf_172 ic_3 ?_
      refine s_callV (a := 1) (c := 9) (inj := inI) (As := [.int a2, .int 3]) (st := [.int v3]) rfl hG hE dX9_paidOf_173 hR (by decide) vv_X9_148 (by decide) rfl kM_1 rfl (Nat.le_of_ble_eq_true rfl) rfl (fun zv zh zq => c_X9_get w (xl x) a2 3 h4 zv zh zq) (fun v5 h6 => ?_)
      refine s_icmp_gt hG dX9_paidOf_176 (tgt := 183) (by decide) (fun q7 => ?_) (fun q7 => ?_)
      · refine s_iconst hG dX9_paidOf_183 ic_0 ?_
        refine s_lv [1, 2, 3, 4, 5, 6, 7, 9, 0] rfl ?_
        exact s_X9_paidOf_L184 w hx hG hE hR hT a1 a2 a3 a5 a7 a9 a12 t0 0 h6
      · refine s_lv [1, 2, 3, 4, 5, 6, 7, 9, 0] rfl ?_
        exact s_X9_paidOf_L179 w hx hG hE hR hT a1 a2 a3 a5 a7 a9 a12 t0 h6

def m_X9_paidOf_L70 (a1 : Int32) (a2 : Int32) (a3 : Int32) (a4 : Int32) (a5 : Int64) (a7 : Int64) (a9 : Int64) (h : Hp) : Option (Int64 × Hp) := cb (m_X9_oathBy a1 a2 a4 h) fun v1 h2 => ck (inb v1 48) (vb (gi h2 10 v1.toNatClampNeg) fun v4 => cb (m_X9_whoOf a1 a2 v4 h2) fun v5 h6 => if v5 = 2 then ck (inb a1 6) (some (a9 + ((a7 * ((gi h6 15 a1.toNatClampNeg).toInt64)) * ((gi h6 14 a1.toNatClampNeg).toInt64)), h6)) else cb (m_X9_get a2 9 h6) fun v8 h9 => cb (m_X9_get a2 1 h9) fun v10 h11 => if v8 < v10 then m_X9_paidOf_L144 a1 a2 a3 a5 a7 a9 v4 v5 0 h11 else m_X9_paidOf_L144 a1 a2 a3 a5 a7 a9 v4 v5 1 h11)
set_option maxRecDepth 20000 in
set_option maxHeartbeats 4000000 in
theorem s_X9_paidOf_L70 (w : WT) {x : CT} {l : Launch} (hx : xl x = l) (hG : Gd x cX9_paidOf 15 RX9) (hE : Ge x (GM w)) (hR : Rm x 10) (hT : Rt x (some .long)) (a1 : Int32) (a2 : Int32) (a3 : Int32) (a4 : Int32) (a5 : Int64) (a7 : Int64) (a9 : Int64) (h : Hp) : Sn x 15 (gA (GM w)) (0, 0) (ζM x (GM w) inL) (gW (GM w) h) 70 [(0, .ref (gB (GM w) + 1)), (1, .int a1), (2, .int a2), (3, .int a3), (4, .int a4), (5, .long a5), (7, .long a7), (9, .long a9)] [] (m_X9_paidOf_L70 a1 a2 a3 a4 a5 a7 a9 h) := by
  unfold m_X9_paidOf_L70
  refine s_aload_n hG dX9_paidOf_70 0 rfl rfl ?_
  refine s_getS hG hE dX9_paidOf_71 fl_X9_50 rfl kM_1 fM_9_13 (nzM kM_10) ?_
  refine s_aload_n hG dX9_paidOf_74 0 rfl rfl ?_
  refine s_iload_n hG dX9_paidOf_75 1 rfl rfl ?_
  refine s_iload_n hG dX9_paidOf_76 2 rfl rfl ?_
  refine s_iload hG dX9_paidOf_77 4 rfl ?_
  refine s_callV (a := 1) (c := 9) (inj := inI) (As := [.int a1, .int a2, .int a4]) (st := [.ref (gB (GM w) + 10)]) rfl hG hE dX9_paidOf_79 hR (by decide) vv_X9_266 (by decide) rfl kM_1 rfl (Nat.le_of_ble_eq_true rfl) rfl (fun zv zh zq => c_X9_oathBy w (xl x) a1 a2 a4 h zv zh zq) (fun v1 h2 => ?_)
  refine s_ck (fun q3 => ?_)
  refine s_iald hG hE dX9_paidOf_82 kM_10 q3 ?_
  refine s_vI (fun v4 => ?_)
  refine s_istore (lv' := [(11, .int v4), (0, .ref (gB (GM w) + 1)), (1, .int a1), (2, .int a2), (3, .int a3), (4, .int a4), (5, .long a5), (7, .long a7), (9, .long a9)]) hG dX9_paidOf_83 (by decide) rfl ?_
  refine s_aload_n hG dX9_paidOf_85 1 rfl rfl ?_
  refine s_iload_n hG dX9_paidOf_86 2 rfl rfl ?_
  refine s_iload_n hG dX9_paidOf_87 3 rfl rfl ?_
  refine s_iload hG dX9_paidOf_88 0 rfl ?_
  refine s_callV (a := 1) (c := 9) (inj := inI) (As := [.int a1, .int a2, .int v4]) (st := []) rfl hG hE dX9_paidOf_90 hR (by decide) vv_X9_254 (by decide) rfl kM_1 rfl (Nat.le_of_ble_eq_true rfl) rfl (fun zv zh zq => c_X9_whoOf w (xl x) a1 a2 v4 h2 zv zh zq) (fun v5 h6 => ?_)
  refine s_istore (lv' := [(12, .int v5), (11, .int v4), (0, .ref (gB (GM w) + 1)), (1, .int a1), (2, .int a2), (3, .int a3), (4, .int a4), (5, .long a5), (7, .long a7), (9, .long a9)]) hG dX9_paidOf_93 (by decide) rfl ?_
  refine s_iload hG dX9_paidOf_95 0 rfl ?_
  refine s_iconst hG dX9_paidOf_97 ic_2 ?_
  refine s_icmp_ne hG dX9_paidOf_98 (tgt := 123) (by decide) (fun q7 => ?_) (fun q7 => ?_)
  · refine s_lload hG dX9_paidOf_101 9 rfl ?_
    refine s_lload hG dX9_paidOf_103 8 rfl ?_
    refine s_aload_n hG dX9_paidOf_105 2 rfl rfl ?_
    refine s_getS hG hE dX9_paidOf_106 fl_X9_65 rfl kM_1 fM_9_18 (nzM kM_15) ?_
    refine s_iload_n hG dX9_paidOf_109 3 rfl rfl ?_
    refine s_ck (fun q13 => ?_)
    refine s_iald hG hE dX9_paidOf_110 kM_15 q13 ?_
    refine s_i2l hG dX9_paidOf_111 ?_
    refine s_lmul hG dX9_paidOf_112 ?_
    refine s_aload_n hG dX9_paidOf_113 2 rfl rfl ?_
    refine s_getS hG hE dX9_paidOf_114 fl_X9_62 rfl kM_1 fM_9_17 (nzM kM_14) ?_
    refine s_iload_n hG dX9_paidOf_117 3 rfl rfl ?_
    refine s_iald hG hE dX9_paidOf_118 kM_14 q13 ?_
    refine s_i2l hG dX9_paidOf_119 ?_
    refine s_lmul hG dX9_paidOf_120 ?_
    refine s_ladd hG dX9_paidOf_121 ?_
    exact s_lret hG hT dX9_paidOf_122
  · refine s_aload_n hG dX9_paidOf_123 2 rfl rfl ?_
    refine s_iload_n hG dX9_paidOf_124 4 rfl rfl ?_
    refine s_bipush hG dX9_paidOf_125 bc_9 ?_
    refine s_callV (a := 1) (c := 9) (inj := inI) (As := [.int a2, .int 9]) (st := []) rfl hG hE dX9_paidOf_127 hR (by decide) vv_X9_148 (by decide) rfl kM_1 rfl (Nat.le_of_ble_eq_true rfl) rfl (fun zv zh zq => c_X9_get w (xl x) a2 9 h6 zv zh zq) (fun v8 h9 => ?_)
    refine s_aload_n hG dX9_paidOf_130 2 rfl rfl ?_
    refine s_iload_n hG dX9_paidOf_131 4 rfl rfl ?_
    refine s_iconst hG dX9_paidOf_132 ic_1 ?_
    refine s_callV (a := 1) (c := 9) (inj := inI) (As := [.int a2, .int 1]) (st := [.int v8]) rfl hG hE dX9_paidOf_133 hR (by decide) vv_X9_148 (by decide) rfl kM_1 rfl (Nat.le_of_ble_eq_true rfl) rfl (fun zv zh zq => c_X9_get w (xl x) a2 1 h9 zv zh zq) (fun v10 h11 => ?_)
    refine s_icmp_lt hG dX9_paidOf_136 (tgt := 143) (by decide) (fun q12 => ?_) (fun q12 => ?_)
    · refine s_iconst hG dX9_paidOf_143 ic_0 ?_
      refine s_lv [2, 3, 4, 5, 7, 8, 9, 1, 0] rfl ?_
      exact s_X9_paidOf_L144 w hx hG hE hR hT a1 a2 a3 a5 a7 a9 v4 v5 0 h11
    · refine s_iconst hG dX9_paidOf_139 ic_1 ?_
      refine s_goto (tgt := 144) hG dX9_paidOf_140 (by decide) ?_
      refine s_lv [2, 3, 4, 5, 7, 8, 9, 1, 0] rfl ?_
      exact s_X9_paidOf_L144 w hx hG hE hR hT a1 a2 a3 a5 a7 a9 v4 v5 1 h11

def m_X9_paidOf (a1 : Int32) (a2 : Int32) (a3 : Int32) (h : Hp) : Option (Int64 × Hp) := cb (m_X9_comesTo a1 a2 h) fun v1 h2 => cb (m_X9_lineOf a1 h2) fun v3 h4 => cb (m_X9_openOf a2 h4) fun v5 h6 => cb (m_X9_get a2 3 h6) fun v7 h8 => vb (v7.toInt64 * v3) fun v9 => hb (si h8 1 28 0) fun h10 => if v1 = 2 then some (v9 + (v5.toInt64 * v3), h10) else if v1 = 3 then m_X9_paidOf_L70 a1 a2 a3 v1 v3 v5.toInt64 v9 h10 else if v1 = 4 then m_X9_paidOf_L70 a1 a2 a3 v1 v3 v5.toInt64 v9 h10 else some (v9, h10)
set_option maxRecDepth 20000 in
set_option maxHeartbeats 4000000 in
theorem s_X9_paidOf (w : WT) {x : CT} {l : Launch} (hx : xl x = l) (hG : Gd x cX9_paidOf 15 RX9) (hE : Ge x (GM w)) (hR : Rm x 10) (hT : Rt x (some .long)) (a1 : Int32) (a2 : Int32) (a3 : Int32) (h : Hp) : Sn x 15 (gA (GM w)) (0, 0) (ζM x (GM w) inL) (gW (GM w) h) 0 [(0, .ref (gB (GM w) + 1)), (1, .int a1), (2, .int a2), (3, .int a3)] [] (m_X9_paidOf a1 a2 a3 h) := by
  unfold m_X9_paidOf
  refine s_aload_n hG dX9_paidOf_0 0 rfl rfl ?_
  refine s_iload_n hG dX9_paidOf_1 1 rfl rfl ?_
  refine s_iload_n hG dX9_paidOf_2 2 rfl rfl ?_
  refine s_callV (a := 1) (c := 9) (inj := inI) (As := [.int a1, .int a2]) (st := []) rfl hG hE dX9_paidOf_3 hR (by decide) vv_X9_263 (by decide) rfl kM_1 rfl (Nat.le_of_ble_eq_true rfl) rfl (fun zv zh zq => c_X9_comesTo w (xl x) a1 a2 h zv zh zq) (fun v1 h2 => ?_)
  refine s_istore (lv' := [(4, .int v1), (0, .ref (gB (GM w) + 1)), (1, .int a1), (2, .int a2), (3, .int a3)]) hG dX9_paidOf_6 (by decide) rfl ?_
  refine s_aload_n hG dX9_paidOf_8 1 rfl rfl ?_
  refine s_iload_n hG dX9_paidOf_9 2 rfl rfl ?_
  refine s_callV (a := 1) (c := 9) (inj := inL) (As := [.int a1]) (st := []) rfl hG hE dX9_paidOf_10 hR (by decide) vv_X9_269 (by decide) rfl kM_1 rfl (Nat.le_of_ble_eq_true rfl) rfl (fun zv zh zq => c_X9_lineOf w (xl x) a1 h2 zv zh zq) (fun v3 h4 => ?_)
  refine s_lstore (lv' := [(5, .long v3), (4, .int v1), (0, .ref (gB (GM w) + 1)), (1, .int a1), (2, .int a2), (3, .int a3)]) hG dX9_paidOf_13 (by decide) rfl ?_
  refine s_aload_n hG dX9_paidOf_15 2 rfl rfl ?_
  refine s_iload_n hG dX9_paidOf_16 4 rfl rfl ?_
  refine s_callV (a := 1) (c := 9) (inj := inI) (As := [.int a2]) (st := []) rfl hG hE dX9_paidOf_17 hR (by decide) vv_X9_232 (by decide) rfl kM_1 rfl (Nat.le_of_ble_eq_true rfl) rfl (fun zv zh zq => c_X9_openOf w (xl x) a2 h4 zv zh zq) (fun v5 h6 => ?_)
  refine s_i2l hG dX9_paidOf_20 ?_
  refine s_lstore (lv' := [(7, .long v5.toInt64), (5, .long v3), (4, .int v1), (0, .ref (gB (GM w) + 1)), (1, .int a1), (2, .int a2), (3, .int a3)]) hG dX9_paidOf_21 (by decide) rfl ?_
  refine s_aload_n hG dX9_paidOf_23 3 rfl rfl ?_
  refine s_iload_n hG dX9_paidOf_24 5 rfl rfl ?_
  refine s_iconst hG dX9_paidOf_25 ic_3 ?_
  refine s_callV (a := 1) (c := 9) (inj := inI) (As := [.int a2, .int 3]) (st := []) rfl hG hE dX9_paidOf_26 hR (by decide) vv_X9_148 (by decide) rfl kM_1 rfl (Nat.le_of_ble_eq_true rfl) rfl (fun zv zh zq => c_X9_get w (xl x) a2 3 h6 zv zh zq) (fun v7 h8 => ?_)
  refine s_i2l hG dX9_paidOf_29 ?_
  refine s_lload hG dX9_paidOf_30 1 rfl ?_
  refine s_lmul hG dX9_paidOf_32 ?_
  refine s_vL (fun v9 => ?_)
  refine s_lstore (lv' := [(9, .long v9), (7, .long v5.toInt64), (5, .long v3), (4, .int v1), (0, .ref (gB (GM w) + 1)), (1, .int a1), (2, .int a2), (3, .int a3)]) hG dX9_paidOf_33 (by decide) rfl ?_
  refine s_aload_n hG dX9_paidOf_35 4 rfl rfl ?_
  refine s_iconst hG dX9_paidOf_36 ic_0 ?_
  refine s_putZ hG hE dX9_paidOf_37 fl_X9_96 rfl rfl (by decide) kM_1 (fun h10 => ?_)
  refine s_iload hG dX9_paidOf_40 3 rfl ?_
  refine s_iconst hG dX9_paidOf_42 ic_2 ?_
  refine s_icmp_ne hG dX9_paidOf_43 (tgt := 55) (by decide) (fun q11 => ?_) (fun q11 => ?_)
  · refine s_lload hG dX9_paidOf_46 0 rfl ?_
    refine s_lload hG dX9_paidOf_48 1 rfl ?_
    refine s_lload hG dX9_paidOf_50 2 rfl ?_
    refine s_lmul hG dX9_paidOf_52 ?_
    refine s_ladd hG dX9_paidOf_53 ?_
    exact s_lret hG hT dX9_paidOf_54
  · refine s_iload hG dX9_paidOf_55 3 rfl ?_
    refine s_iconst hG dX9_paidOf_57 ic_3 ?_
    refine s_icmp_eq hG dX9_paidOf_58 (tgt := 70) (by decide) (fun q12 => ?_) (fun q12 => ?_)
    · refine s_lv [4, 5, 6, 7, 3, 2, 1, 0] rfl ?_
      exact s_X9_paidOf_L70 w hx hG hE hR hT a1 a2 a3 v1 v3 v5.toInt64 v9 h10
    · refine s_iload hG dX9_paidOf_61 3 rfl ?_
      refine s_iconst hG dX9_paidOf_63 ic_4 ?_
      refine s_icmp_eq hG dX9_paidOf_64 (tgt := 70) (by decide) (fun q13 => ?_) (fun q13 => ?_)
      · refine s_lv [4, 5, 6, 7, 3, 2, 1, 0] rfl ?_
        exact s_X9_paidOf_L70 w hx hG hE hR hT a1 a2 a3 v1 v3 v5.toInt64 v9 h10
      · refine s_lload hG dX9_paidOf_67 0 rfl ?_
        exact s_lret hG hT dX9_paidOf_69

theorem c_X9_paidOf (w : WT) (l : Launch) (a1 : Int32) (a2 : Int32) (a3 : Int32) (h : Hp) : ∀ v h', m_X9_paidOf a1 a2 a3 h = some (v, h') → MetM l (GM w) yX9_paidOf cX9_paidOf 15 (some .long) 10 [.ref (gB (GM w) + 1), .int a1, .int a2, .int a3] h (inL v) h' :=
  met_of (by decide) (lokM w) (Nat.le_of_ble_eq_true rfl) (fun x hx hG hE hR hT => s_X9_paidOf w hx hG hE hR hT a1 a2 a3 h)
def m_X9_divisor_L17 : Nat → Int64 → Int64 → Hp → Option (Int64 × Hp)
  | 0, _, _, _ => none
  | n + 1, a5, a7, h => if a7 = 0 then some (a5, h) else ck (decide (¬ a7 = 0)) (vb (a5 - a5 / a7 * a7) fun v3 => m_X9_divisor_L17 n a7 v3 h)
set_option maxRecDepth 20000 in
set_option maxHeartbeats 4000000 in
theorem s_X9_divisor_L17 (w : WT) {x : CT} {l : Launch} (hx : xl x = l) (hG : Gd x cX9_divisor 11 RX9) (hE : Ge x (GM w)) (hR : Rm x 1) (hT : Rt x (some .long)) : ∀ (n : Nat) (a5 : Int64) (a7 : Int64) (h : Hp), Sn x 11 (gA (GM w)) (0, 0) (ζM x (GM w) inL) (gW (GM w) h) 17 [(5, .long a5), (7, .long a7)] [] (m_X9_divisor_L17 n a5 a7 h) := by
  intro n
  induction n with
  | zero => intro a5 a7 h; exact s_none
  | succ n ih =>
    intro a5 a7 h
    rw [m_X9_divisor_L17]
    refine s_lload hG dX9_divisor_17 1 rfl ?_
    refine s_lconst hG dX9_divisor_19 lc_0 ?_
    refine s_lcmp_eq hG dX9_divisor_20 dX9_divisor_21 (tgt := 42) (by decide) (fun q1 => ?_) (fun q1 => ?_)
    · refine s_lload hG dX9_divisor_42 0 rfl ?_
      exact s_lret hG hT dX9_divisor_44
    · refine s_lload hG dX9_divisor_24 0 rfl ?_
      refine s_lload hG dX9_divisor_26 1 rfl ?_
      refine s_ck (fun q2 => ?_)
      refine s_lrem hG dX9_divisor_28 (of_decide_eq_true q2) ?_
      refine s_vL (fun v3 => ?_)
      refine s_lstore (lv' := [(9, .long v3), (5, .long a5), (7, .long a7)]) hG dX9_divisor_29 (by decide) rfl ?_
      refine s_lload hG dX9_divisor_31 2 rfl ?_
      refine s_lstore (lv' := [(5, .long a7), (9, .long v3), (7, .long a7)]) hG dX9_divisor_33 (by decide) rfl ?_
      refine s_lload hG dX9_divisor_35 1 rfl ?_
      refine s_lstore (lv' := [(7, .long v3), (5, .long a7), (9, .long v3)]) hG dX9_divisor_37 (by decide) rfl ?_
      refine s_goto (tgt := 17) hG dX9_divisor_39 (by decide) ?_
      refine s_lv [1, 0] rfl ?_
      exact ih a7 v3 h

def m_X9_divisor_L12 (a3 : Int64) (t0 : Int64) (h : Hp) : Option (Int64 × Hp) := m_X9_divisor_L17 FU t0 a3 h
set_option maxRecDepth 20000 in
set_option maxHeartbeats 4000000 in
theorem s_X9_divisor_L12 (w : WT) {x : CT} {l : Launch} (hx : xl x = l) (hG : Gd x cX9_divisor 11 RX9) (hE : Ge x (GM w)) (hR : Rm x 1) (hT : Rt x (some .long)) (a3 : Int64) (t0 : Int64) (h : Hp) : Sn x 11 (gA (GM w)) (0, 0) (ζM x (GM w) inL) (gW (GM w) h) 12 [(3, .long a3)] [.long t0] (m_X9_divisor_L12 a3 t0 h) := by
  unfold m_X9_divisor_L12
  refine s_lstore (lv' := [(5, .long t0), (3, .long a3)]) hG dX9_divisor_12 (by decide) rfl ?_
  refine s_lload_n hG dX9_divisor_14 1 rfl rfl ?_
  refine s_lstore (lv' := [(7, .long a3), (5, .long t0), (3, .long a3)]) hG dX9_divisor_15 (by decide) rfl ?_
  refine s_lv [1, 0] rfl ?_
  exact s_X9_divisor_L17 w hx hG hE hR hT FU t0 a3 h

def m_X9_divisor (a1 : Int64) (a3 : Int64) (h : Hp) : Option (Int64 × Hp) := if 0 ≤ a1 then m_X9_divisor_L12 a3 a1 h else m_X9_divisor_L12 a3 (-a1) h
set_option maxRecDepth 20000 in
set_option maxHeartbeats 4000000 in
theorem s_X9_divisor (w : WT) {x : CT} {l : Launch} (hx : xl x = l) (hG : Gd x cX9_divisor 11 RX9) (hE : Ge x (GM w)) (hR : Rm x 1) (hT : Rt x (some .long)) (a1 : Int64) (a3 : Int64) (h : Hp) : Sn x 11 (gA (GM w)) (0, 0) (ζM x (GM w) inL) (gW (GM w) h) 0 [(0, .ref (gB (GM w) + 1)), (1, .long a1), (3, .long a3)] [] (m_X9_divisor a1 a3 h) := by
  unfold m_X9_divisor
  refine s_lload_n hG dX9_divisor_0 1 rfl rfl ?_
  refine s_lconst hG dX9_divisor_1 lc_0 ?_
  refine s_lcmp_ge hG dX9_divisor_2 dX9_divisor_3 (tgt := 11) (by decide) (fun q1 => ?_) (fun q1 => ?_)
  · refine s_lload_n hG dX9_divisor_11 1 rfl rfl ?_
    refine s_lv [2] rfl ?_
    exact s_X9_divisor_L12 w hx hG hE hR hT a3 a1 h
  · refine s_lload_n hG dX9_divisor_6 1 rfl rfl ?_
    refine s_lneg hG dX9_divisor_7 ?_
    refine s_goto (tgt := 12) hG dX9_divisor_8 (by decide) ?_
    refine s_lv [2] rfl ?_
    exact s_X9_divisor_L12 w hx hG hE hR hT a3 (-a1) h

theorem c_X9_divisor (w : WT) (l : Launch) (a1 : Int64) (a3 : Int64) (h : Hp) : ∀ v h', m_X9_divisor a1 a3 h = some (v, h') → MetM l (GM w) yX9_divisor cX9_divisor 11 (some .long) 1 [.ref (gB (GM w) + 1), .long a1, .long a3] h (inL v) h' :=
  met_of (by decide) (lokM w) (Nat.le_of_ble_eq_true rfl) (fun x hx hG hE hR hT => s_X9_divisor w hx hG hE hR hT a1 a3 h)
theorem vv_X9_273 : VV RX9 273 yX9_divisor cX9_divisor 11 (some .long) 2 := ⟨⟨gw_at 1407 (by decide +kernel) (by decide +kernel), gw_at 1410 (by decide +kernel) (by decide +kernel), gw_at 96 (by decide +kernel) (by decide +kernel), by decide +kernel, by decide⟩, gw_at 1409 (by decide +kernel) (by decide +kernel), gw_at 65 (by decide +kernel) (by decide +kernel)⟩
def m_X9_lowest (a1 : Int64) (a3 : Int64) (a5 : Int32) (h : Hp) : Option (Int64 × Hp) := cb (m_X9_divisor a1 a3 h) fun v1 h2 => if a5 = 0 then ck (decide (¬ v1 = 0)) (some (a1 / v1, h2)) else ck (decide (¬ v1 = 0)) (some (a3 / v1, h2))
set_option maxRecDepth 20000 in
set_option maxHeartbeats 4000000 in
theorem s_X9_lowest (w : WT) {x : CT} {l : Launch} (hx : xl x = l) (hG : Gd x cX9_lowest 8 RX9) (hE : Ge x (GM w)) (hR : Rm x 2) (hT : Rt x (some .long)) (a1 : Int64) (a3 : Int64) (a5 : Int32) (h : Hp) : Sn x 8 (gA (GM w)) (0, 0) (ζM x (GM w) inL) (gW (GM w) h) 0 [(0, .ref (gB (GM w) + 1)), (1, .long a1), (3, .long a3), (5, .int a5)] [] (m_X9_lowest a1 a3 a5 h) := by
  unfold m_X9_lowest
  refine s_aload_n hG dX9_lowest_0 0 rfl rfl ?_
  refine s_lload_n hG dX9_lowest_1 1 rfl rfl ?_
  refine s_lload_n hG dX9_lowest_2 2 rfl rfl ?_
  refine s_callV (a := 1) (c := 9) (inj := inL) (As := [.long a1, .long a3]) (st := []) rfl hG hE dX9_lowest_3 hR (by decide) vv_X9_273 (by decide) rfl kM_1 rfl (Nat.le_of_ble_eq_true rfl) rfl (fun zv zh zq => c_X9_divisor w (xl x) a1 a3 h zv zh zq) (fun v1 h2 => ?_)
  refine s_lstore (lv' := [(6, .long v1), (0, .ref (gB (GM w) + 1)), (1, .long a1), (3, .long a3), (5, .int a5)]) hG dX9_lowest_6 (by decide) rfl ?_
  refine s_iload hG dX9_lowest_8 4 rfl ?_
  refine s_if_ne hG dX9_lowest_10 (tgt := 20) (by decide) (fun q3 => ?_) (fun q3 => ?_)
  · refine s_lload_n hG dX9_lowest_13 2 rfl rfl ?_
    refine s_lload hG dX9_lowest_14 0 rfl ?_
    refine s_ck (fun q5 => ?_)
    refine s_ldiv hG dX9_lowest_16 (of_decide_eq_true q5) ?_
    refine s_goto (tgt := 24) hG dX9_lowest_17 (by decide) ?_
    exact s_lret hG hT dX9_lowest_24
  · refine s_lload_n hG dX9_lowest_20 3 rfl rfl ?_
    refine s_lload hG dX9_lowest_21 0 rfl ?_
    refine s_ck (fun q4 => ?_)
    refine s_ldiv hG dX9_lowest_23 (of_decide_eq_true q4) ?_
    exact s_lret hG hT dX9_lowest_24

theorem c_X9_lowest (w : WT) (l : Launch) (a1 : Int64) (a3 : Int64) (a5 : Int32) (h : Hp) : ∀ v h', m_X9_lowest a1 a3 a5 h = some (v, h') → MetM l (GM w) yX9_lowest cX9_lowest 8 (some .long) 2 [.ref (gB (GM w) + 1), .long a1, .long a3, .int a5] h (inL v) h' :=
  met_of (by decide) (lokM w) (Nat.le_of_ble_eq_true rfl) (fun x hx hG hE hR hT => s_X9_lowest w hx hG hE hR hT a1 a3 a5 h)
theorem vv_X9_279 : VV RX9 279 yX9_paidOf cX9_paidOf 15 (some .long) 3 := ⟨⟨gw_at 1395 (by decide +kernel) (by decide +kernel), gw_at 1398 (by decide +kernel) (by decide +kernel), gw_at 96 (by decide +kernel) (by decide +kernel), by decide +kernel, by decide⟩, gw_at 1397 (by decide +kernel) (by decide +kernel), gw_at 62 (by decide +kernel) (by decide +kernel)⟩
theorem vv_X9_283 : VV RX9 283 yX9_lowest cX9_lowest 8 (some .long) 3 := ⟨⟨gw_at 1403 (by decide +kernel) (by decide +kernel), gw_at 1406 (by decide +kernel) (by decide +kernel), gw_at 96 (by decide +kernel) (by decide +kernel), by decide +kernel, by decide⟩, gw_at 1405 (by decide +kernel) (by decide +kernel), gw_at 64 (by decide +kernel) (by decide +kernel)⟩
theorem wd_1394 : Jvm.Cond.constantLong RX9 277 (-9223372036854775808) ∈ GW := gw_at 1394 (by decide +kernel) (by decide +kernel)
def m_X9_paid_L39 (a1 : Int32) (a3 : Int32) (t0 : Int32) (t1 : Int32) (t2 : Int32) (h : Hp) : Option (Int64 × Hp) := cb (m_X9_paidOf t2 t1 t0 h) fun v1 h2 => cb (m_X9_lawFor a1 h2) fun v3 h4 => cb (m_X9_lineOf v3 h4) fun v5 h6 => cb (m_X9_lowest v1 v5 a3 h6) fun v7 h8 => some (v7, h8)
set_option maxRecDepth 20000 in
set_option maxHeartbeats 4000000 in
theorem s_X9_paid_L39 (w : WT) {x : CT} {l : Launch} (hx : xl x = l) (hG : Gd x cX9_paid 4 RX9) (hE : Ge x (GM w)) (hR : Rm x 11) (hT : Rt x (some .long)) (a1 : Int32) (a3 : Int32) (t0 : Int32) (t1 : Int32) (t2 : Int32) (h : Hp) : Sn x 4 (gA (GM w)) (0, 0) (ζM x (GM w) inL) (gW (GM w) h) 39 [(0, .ref (gB (GM w) + 1)), (1, .int a1), (3, .int a3)] [.int t0, .int t1, .int t2, .ref (gB (GM w) + 1), .ref (gB (GM w) + 1)] (m_X9_paid_L39 a1 a3 t0 t1 t2 h) := by
  unfold m_X9_paid_L39
  refine s_callV (a := 1) (c := 9) (inj := inL) (As := [.int t2, .int t1, .int t0]) (st := [.ref (gB (GM w) + 1)]) rfl hG hE dX9_paid_39 hR (by decide) vv_X9_279 (by decide) rfl kM_1 rfl (Nat.le_of_ble_eq_true rfl) rfl (fun zv zh zq => c_X9_paidOf w (xl x) t2 t1 t0 h zv zh zq) (fun v1 h2 => ?_)
  refine s_aload_n hG dX9_paid_42 0 rfl rfl ?_
  refine s_aload_n hG dX9_paid_43 0 rfl rfl ?_
  refine s_iload_n hG dX9_paid_44 1 rfl rfl ?_
  refine s_callV (a := 1) (c := 9) (inj := inI) (As := [.int a1]) (st := [.ref (gB (GM w) + 1), .long v1, .ref (gB (GM w) + 1)]) rfl hG hE dX9_paid_45 hR (by decide) vv_X9_260 (by decide) rfl kM_1 rfl (Nat.le_of_ble_eq_true rfl) rfl (fun zv zh zq => c_X9_lawFor w (xl x) a1 h2 zv zh zq) (fun v3 h4 => ?_)
  refine s_callV (a := 1) (c := 9) (inj := inL) (As := [.int v3]) (st := [.long v1, .ref (gB (GM w) + 1)]) rfl hG hE dX9_paid_48 hR (by decide) vv_X9_269 (by decide) rfl kM_1 rfl (Nat.le_of_ble_eq_true rfl) rfl (fun zv zh zq => c_X9_lineOf w (xl x) v3 h4 zv zh zq) (fun v5 h6 => ?_)
  refine s_iload_n hG dX9_paid_51 2 rfl rfl ?_
  refine s_callV (a := 1) (c := 9) (inj := inL) (As := [.long v1, .long v5, .int a3]) (st := []) rfl hG hE dX9_paid_52 hR (by decide) vv_X9_283 (by decide) rfl kM_1 rfl (Nat.le_of_ble_eq_true rfl) rfl (fun zv zh zq => c_X9_lowest w (xl x) v1 v5 a3 h6 zv zh zq) (fun v7 h8 => ?_)
  exact s_lret hG hT dX9_paid_55

def m_X9_paid (a1 : Int32) (a2 : Int32) (a3 : Int32) (h : Hp) : Option (Int64 × Hp) := cb (m_X9_isClaim a1 h) fun v1 h2 => if v1 = 0 then some ((-9223372036854775808), h2) else cb (m_X9_in a3 0 1 h2) fun v4 h5 => if v4 = 0 then some ((-9223372036854775808), h5) else cb (m_X9_lawFor a1 h5) fun v7 h8 => if a2 = 0 then m_X9_paid_L39 a1 a3 0 a1 v7 h8 else m_X9_paid_L39 a1 a3 1 a1 v7 h8
set_option maxRecDepth 20000 in
set_option maxHeartbeats 4000000 in
theorem s_X9_paid (w : WT) {x : CT} {l : Launch} (hx : xl x = l) (hG : Gd x cX9_paid 4 RX9) (hE : Ge x (GM w)) (hR : Rm x 11) (hT : Rt x (some .long)) (a1 : Int32) (a2 : Int32) (a3 : Int32) (h : Hp) : Sn x 4 (gA (GM w)) (0, 0) (ζM x (GM w) inL) (gW (GM w) h) 0 [(0, .ref (gB (GM w) + 1)), (1, .int a1), (2, .int a2), (3, .int a3)] [] (m_X9_paid a1 a2 a3 h) := by
  unfold m_X9_paid
  refine s_aload_n hG dX9_paid_0 0 rfl rfl ?_
  refine s_iload_n hG dX9_paid_1 1 rfl rfl ?_
  refine s_callV (a := 1) (c := 9) (inj := inI) (As := [.int a1]) (st := []) rfl hG hE dX9_paid_2 hR (by decide) vv_X9_163 (by decide) rfl kM_1 rfl (Nat.le_of_ble_eq_true rfl) rfl (fun zv zh zq => c_X9_isClaim w (xl x) a1 h zv zh zq) (fun v1 h2 => ?_)
  refine s_if_eq hG dX9_paid_5 (tgt := 18) (by decide) (fun q3 => ?_) (fun q3 => ?_)
  · refine s_ldc2 hG dX9_paid_18 wd_1394 ?_
    exact s_lret hG hT dX9_paid_21
  · refine s_aload_n hG dX9_paid_8 0 rfl rfl ?_
    refine s_iload_n hG dX9_paid_9 3 rfl rfl ?_
    refine s_iconst hG dX9_paid_10 ic_0 ?_
    refine s_iconst hG dX9_paid_11 ic_1 ?_
    refine s_callV (a := 1) (c := 9) (inj := inI) (As := [.int a3, .int 0, .int 1]) (st := []) rfl hG hE dX9_paid_12 hR (by decide) vv_X9_144 (by decide) rfl kM_1 rfl (Nat.le_of_ble_eq_true rfl) rfl (fun zv zh zq => c_X9_in w (xl x) a3 0 1 h2 zv zh zq) (fun v4 h5 => ?_)
    refine s_if_ne hG dX9_paid_15 (tgt := 22) (by decide) (fun q6 => ?_) (fun q6 => ?_)
    · refine s_ldc2 hG dX9_paid_18 wd_1394 ?_
      exact s_lret hG hT dX9_paid_21
    · refine s_aload_n hG dX9_paid_22 0 rfl rfl ?_
      refine s_aload_n hG dX9_paid_23 0 rfl rfl ?_
      refine s_aload_n hG dX9_paid_24 0 rfl rfl ?_
      refine s_iload_n hG dX9_paid_25 1 rfl rfl ?_
      refine s_callV (a := 1) (c := 9) (inj := inI) (As := [.int a1]) (st := [.ref (gB (GM w) + 1), .ref (gB (GM w) + 1)]) rfl hG hE dX9_paid_26 hR (by decide) vv_X9_260 (by decide) rfl kM_1 rfl (Nat.le_of_ble_eq_true rfl) rfl (fun zv zh zq => c_X9_lawFor w (xl x) a1 h5 zv zh zq) (fun v7 h8 => ?_)
      refine s_iload_n hG dX9_paid_29 1 rfl rfl ?_
      refine s_iload_n hG dX9_paid_30 2 rfl rfl ?_
      refine s_if_eq hG dX9_paid_31 (tgt := 38) (by decide) (fun q9 => ?_) (fun q9 => ?_)
      · refine s_iconst hG dX9_paid_38 ic_0 ?_
        refine s_lv [0, 1, 3] rfl ?_
        exact s_X9_paid_L39 w hx hG hE hR hT a1 a3 0 a1 v7 h8
      · refine s_iconst hG dX9_paid_34 ic_1 ?_
        refine s_goto (tgt := 39) hG dX9_paid_35 (by decide) ?_
        refine s_lv [0, 1, 3] rfl ?_
        exact s_X9_paid_L39 w hx hG hE hR hT a1 a3 1 a1 v7 h8

theorem c_X9_paid (w : WT) (l : Launch) (a1 : Int32) (a2 : Int32) (a3 : Int32) (h : Hp) : ∀ v h', m_X9_paid a1 a2 a3 h = some (v, h') → MetM l (GM w) yX9_paid cX9_paid 4 (some .long) 11 [.ref (gB (GM w) + 1), .int a1, .int a2, .int a3] h (inL v) h' :=
  met_of (by decide) (lokM w) (Nat.le_of_ble_eq_true rfl) (fun x hx hG hE hR hT => s_X9_paid w hx hG hE hR hT a1 a2 a3 h)
def m_X9_all_L49 : Nat → Int32 → Int32 → Int32 → Int64 → Int32 → Int32 → Hp → Option (Int64 × Hp)
  | 0, _, _, _, _, _, _, _ => none
  | n + 1, a1, a2, a3, a4, a6, a7, h => if (gi h 1 1) ≤ a7 then ck (inb a1 5) (cb (m_X9_lineOf (gi h 5 a1.toNatClampNeg) h) fun v3 h4 => cb (m_X9_lowest a4 v3 a3 h4) fun v5 h6 => some (v5, h6)) else cb (m_X9_get a7 0 h) fun v7 h8 => if v7 = a1 then ck (inb a1 5) (cb (m_X9_paidOf (gi h8 5 a1.toNatClampNeg) a7 ((a2 >>> (a6 &&& 31)) &&& 1) h8) fun v11 h12 => vb (a4 + v11) fun v13 => vb (a6 + 1) fun v14 => vb (a7 + 1) fun v15 => m_X9_all_L49 n a1 a2 a3 v13 v14 v15 h12) else vb (a7 + 1) fun v16 => m_X9_all_L49 n a1 a2 a3 a4 a6 v16 h8
set_option maxRecDepth 20000 in
set_option maxHeartbeats 4000000 in
theorem s_X9_all_L49 (w : WT) {x : CT} {l : Launch} (hx : xl x = l) (hG : Gd x cX9_all 8 RX9) (hE : Ge x (GM w)) (hR : Rm x 11) (hT : Rt x (some .long)) : ∀ (n : Nat) (a1 : Int32) (a2 : Int32) (a3 : Int32) (a4 : Int64) (a6 : Int32) (a7 : Int32) (h : Hp), Sn x 8 (gA (GM w)) (0, 0) (ζM x (GM w) inL) (gW (GM w) h) 49 [(0, .ref (gB (GM w) + 1)), (1, .int a1), (2, .int a2), (3, .int a3), (4, .long a4), (6, .int a6), (7, .int a7)] [] (m_X9_all_L49 n a1 a2 a3 a4 a6 a7 h) := by
  intro n
  induction n with
  | zero => intro a1 a2 a3 a4 a6 a7 h; exact s_none
  | succ n ih =>
    intro a1 a2 a3 a4 a6 a7 h
    rw [m_X9_all_L49]
    refine s_iload hG dX9_all_49 6 rfl ?_
    refine s_aload_n hG dX9_all_51 0 rfl rfl ?_
    refine s_getI hG hE dX9_all_52 fl_X9_13 rfl kM_1 ?_
    refine s_icmp_ge hG dX9_all_55 (tgt := 104) (by decide) (fun q1 => ?_) (fun q1 => ?_)
    · refine s_aload_n hG dX9_all_104 0 rfl rfl ?_
      refine s_lload hG dX9_all_105 4 rfl ?_
      refine s_aload_n hG dX9_all_107 0 rfl rfl ?_
      refine s_aload_n hG dX9_all_108 0 rfl rfl ?_
      refine s_getS hG hE dX9_all_109 fl_X9_26 rfl kM_1 fM_9_5 (nzM kM_5) ?_
      refine s_iload_n hG dX9_all_112 1 rfl rfl ?_
      refine s_ck (fun q2 => ?_)
      refine s_iald hG hE dX9_all_113 kM_5 q2 ?_
      refine s_callV (a := 1) (c := 9) (inj := inL) (As := [.int (gi h 5 a1.toNatClampNeg)]) (st := [.long a4, .ref (gB (GM w) + 1)]) rfl hG hE dX9_all_114 hR (by decide) vv_X9_269 (by decide) rfl kM_1 rfl (Nat.le_of_ble_eq_true rfl) rfl (fun zv zh zq => c_X9_lineOf w (xl x) (gi h 5 a1.toNatClampNeg) h zv zh zq) (fun v3 h4 => ?_)
      refine s_iload_n hG dX9_all_117 3 rfl rfl ?_
      refine s_callV (a := 1) (c := 9) (inj := inL) (As := [.long a4, .long v3, .int a3]) (st := []) rfl hG hE dX9_all_118 hR (by decide) vv_X9_283 (by decide) rfl kM_1 rfl (Nat.le_of_ble_eq_true rfl) rfl (fun zv zh zq => c_X9_lowest w (xl x) a4 v3 a3 h4 zv zh zq) (fun v5 h6 => ?_)
      exact s_lret hG hT dX9_all_121
    · refine s_aload_n hG dX9_all_58 0 rfl rfl ?_
      refine s_iload hG dX9_all_59 6 rfl ?_
      refine s_iconst hG dX9_all_61 ic_0 ?_
      refine s_callV (a := 1) (c := 9) (inj := inI) (As := [.int a7, .int 0]) (st := []) rfl hG hE dX9_all_62 hR (by decide) vv_X9_148 (by decide) rfl kM_1 rfl (Nat.le_of_ble_eq_true rfl) rfl (fun zv zh zq => c_X9_get w (xl x) a7 0 h zv zh zq) (fun v7 h8 => ?_)
      refine s_iload_n hG dX9_all_65 1 rfl rfl ?_
      refine s_icmp_eq hG dX9_all_66 (tgt := 72) (by decide) (fun q9 => ?_) (fun q9 => ?_)
      · refine s_lload hG dX9_all_72 4 rfl ?_
        refine s_aload_n hG dX9_all_74 0 rfl rfl ?_
        refine s_aload_n hG dX9_all_75 0 rfl rfl ?_
        refine s_getS hG hE dX9_all_76 fl_X9_26 rfl kM_1 fM_9_5 (nzM kM_5) ?_
        refine s_iload_n hG dX9_all_79 1 rfl rfl ?_
        refine s_ck (fun q10 => ?_)
        refine s_iald hG hE dX9_all_80 kM_5 q10 ?_
        refine s_iload hG dX9_all_81 6 rfl ?_
        refine s_iload_n hG dX9_all_83 2 rfl rfl ?_
        refine s_iload hG dX9_all_84 5 rfl ?_
        refine s_ishr hG dX9_all_86 ?_
        refine s_iconst hG dX9_all_87 ic_1 ?_
        refine s_iand hG dX9_all_88 ?_
        refine s_callV (a := 1) (c := 9) (inj := inL) (As := [.int (gi h8 5 a1.toNatClampNeg), .int a7, .int ((a2 >>> (a6 &&& 31)) &&& 1)]) (st := [.long a4]) rfl hG hE dX9_all_89 hR (by decide) vv_X9_279 (by decide) rfl kM_1 rfl (Nat.le_of_ble_eq_true rfl) rfl (fun zv zh zq => c_X9_paidOf w (xl x) (gi h8 5 a1.toNatClampNeg) a7 ((a2 >>> (a6 &&& 31)) &&& 1) h8 zv zh zq) (fun v11 h12 => ?_)
        refine s_ladd hG dX9_all_92 ?_
        refine s_vL (fun v13 => ?_)
        refine s_lstore (lv' := [(4, .long v13), (0, .ref (gB (GM w) + 1)), (1, .int a1), (2, .int a2), (3, .int a3), (6, .int a6), (7, .int a7)]) hG dX9_all_93 (by decide) rfl ?_
        refine s_iinc hG dX9_all_95 5 rfl ic_1 (by decide) (fun v14 => [(6, .int v14), (4, .long v13), (0, .ref (gB (GM w) + 1)), (1, .int a1), (2, .int a2), (3, .int a3), (7, .int a7)]) (fun _ => rfl) (fun v14 => ?_)
        refine s_iinc hG dX9_all_98 6 rfl ic_1 (by decide) (fun v15 => [(7, .int v15), (6, .int v14), (4, .long v13), (0, .ref (gB (GM w) + 1)), (1, .int a1), (2, .int a2), (3, .int a3)]) (fun _ => rfl) (fun v15 => ?_)
        refine s_goto (tgt := 49) hG dX9_all_101 (by decide) ?_
        refine s_lv [3, 4, 5, 6, 2, 1, 0] rfl ?_
        exact ih a1 a2 a3 v13 v14 v15 h12
      · refine s_goto (tgt := 98) hG dX9_all_69 (by decide) ?_
        refine s_iinc hG dX9_all_98 6 rfl ic_1 (by decide) (fun v16 => [(7, .int v16), (0, .ref (gB (GM w) + 1)), (1, .int a1), (2, .int a2), (3, .int a3), (4, .long a4), (6, .int a6)]) (fun _ => rfl) (fun v16 => ?_)
        refine s_goto (tgt := 49) hG dX9_all_101 (by decide) ?_
        refine s_lv [1, 2, 3, 4, 5, 6, 0] rfl ?_
        exact ih a1 a2 a3 a4 a6 v16 h8

def m_X9_all (a1 : Int32) (a2 : Int32) (a3 : Int32) (h : Hp) : Option (Int64 × Hp) := cb (m_X9_isSuit a1 h) fun v1 h2 => if v1 = 0 then some ((-9223372036854775808), h2) else cb (m_X9_manyOf a1 h2) fun v4 h5 => cb (m_X9_in a2 0 ((1 <<< (v4 &&& 31)) - 1) h5) fun v6 h7 => if v6 = 0 then some ((-9223372036854775808), h7) else cb (m_X9_in a3 0 1 h7) fun v9 h10 => if v9 = 0 then some ((-9223372036854775808), h10) else m_X9_all_L49 FU a1 a2 a3 0 0 0 h10
set_option maxRecDepth 20000 in
set_option maxHeartbeats 4000000 in
theorem s_X9_all (w : WT) {x : CT} {l : Launch} (hx : xl x = l) (hG : Gd x cX9_all 8 RX9) (hE : Ge x (GM w)) (hR : Rm x 11) (hT : Rt x (some .long)) (a1 : Int32) (a2 : Int32) (a3 : Int32) (h : Hp) : Sn x 8 (gA (GM w)) (0, 0) (ζM x (GM w) inL) (gW (GM w) h) 0 [(0, .ref (gB (GM w) + 1)), (1, .int a1), (2, .int a2), (3, .int a3)] [] (m_X9_all a1 a2 a3 h) := by
  unfold m_X9_all
  refine s_aload_n hG dX9_all_0 0 rfl rfl ?_
  refine s_iload_n hG dX9_all_1 1 rfl rfl ?_
  refine s_callV (a := 1) (c := 9) (inj := inI) (As := [.int a1]) (st := []) rfl hG hE dX9_all_2 hR (by decide) vv_X9_156 (by decide) rfl kM_1 rfl (Nat.le_of_ble_eq_true rfl) rfl (fun zv zh zq => c_X9_isSuit w (xl x) a1 h zv zh zq) (fun v1 h2 => ?_)
  refine s_if_eq hG dX9_all_5 (tgt := 36) (by decide) (fun q3 => ?_) (fun q3 => ?_)
  · refine s_ldc2 hG dX9_all_36 wd_1394 ?_
    exact s_lret hG hT dX9_all_39
  · refine s_aload_n hG dX9_all_8 0 rfl rfl ?_
    refine s_iload_n hG dX9_all_9 2 rfl rfl ?_
    refine s_iconst hG dX9_all_10 ic_0 ?_
    refine s_iconst hG dX9_all_11 ic_1 ?_
    refine s_aload_n hG dX9_all_12 0 rfl rfl ?_
    refine s_iload_n hG dX9_all_13 1 rfl rfl ?_
    refine s_callV (a := 1) (c := 9) (inj := inI) (As := [.int a1]) (st := [.int 1, .int 0, .int a2, .ref (gB (GM w) + 1)]) rfl hG hE dX9_all_14 hR (by decide) vv_X9_159 (by decide) rfl kM_1 rfl (Nat.le_of_ble_eq_true rfl) rfl (fun zv zh zq => c_X9_manyOf w (xl x) a1 h2 zv zh zq) (fun v4 h5 => ?_)
    refine s_ishl hG dX9_all_17 ?_
    refine s_iconst hG dX9_all_18 ic_1 ?_
    refine s_isub hG dX9_all_19 ?_
    refine s_callV (a := 1) (c := 9) (inj := inI) (As := [.int a2, .int 0, .int ((1 <<< (v4 &&& 31)) - 1)]) (st := []) rfl hG hE dX9_all_20 hR (by decide) vv_X9_144 (by decide) rfl kM_1 rfl (Nat.le_of_ble_eq_true rfl) rfl (fun zv zh zq => c_X9_in w (xl x) a2 0 ((1 <<< (v4 &&& 31)) - 1) h5 zv zh zq) (fun v6 h7 => ?_)
    refine s_if_eq hG dX9_all_23 (tgt := 36) (by decide) (fun q8 => ?_) (fun q8 => ?_)
    · refine s_ldc2 hG dX9_all_36 wd_1394 ?_
      exact s_lret hG hT dX9_all_39
    · refine s_aload_n hG dX9_all_26 0 rfl rfl ?_
      refine s_iload_n hG dX9_all_27 3 rfl rfl ?_
      refine s_iconst hG dX9_all_28 ic_0 ?_
      refine s_iconst hG dX9_all_29 ic_1 ?_
      refine s_callV (a := 1) (c := 9) (inj := inI) (As := [.int a3, .int 0, .int 1]) (st := []) rfl hG hE dX9_all_30 hR (by decide) vv_X9_144 (by decide) rfl kM_1 rfl (Nat.le_of_ble_eq_true rfl) rfl (fun zv zh zq => c_X9_in w (xl x) a3 0 1 h7 zv zh zq) (fun v9 h10 => ?_)
      refine s_if_ne hG dX9_all_33 (tgt := 40) (by decide) (fun q11 => ?_) (fun q11 => ?_)
      · refine s_ldc2 hG dX9_all_36 wd_1394 ?_
        exact s_lret hG hT dX9_all_39
      · refine s_lconst hG dX9_all_40 lc_0 ?_
        refine s_lstore (lv' := [(4, .long 0), (0, .ref (gB (GM w) + 1)), (1, .int a1), (2, .int a2), (3, .int a3)]) hG dX9_all_41 (by decide) rfl ?_
        refine s_iconst hG dX9_all_43 ic_0 ?_
        refine s_istore (lv' := [(6, .int 0), (4, .long 0), (0, .ref (gB (GM w) + 1)), (1, .int a1), (2, .int a2), (3, .int a3)]) hG dX9_all_44 (by decide) rfl ?_
        refine s_iconst hG dX9_all_46 ic_0 ?_
        refine s_istore (lv' := [(7, .int 0), (6, .int 0), (4, .long 0), (0, .ref (gB (GM w) + 1)), (1, .int a1), (2, .int a2), (3, .int a3)]) hG dX9_all_47 (by decide) rfl ?_
        refine s_lv [3, 4, 5, 6, 2, 1, 0] rfl ?_
        exact s_X9_all_L49 w hx hG hE hR hT FU a1 a2 a3 0 0 0 h10

theorem c_X9_all (w : WT) (l : Launch) (a1 : Int32) (a2 : Int32) (a3 : Int32) (h : Hp) : ∀ v h', m_X9_all a1 a2 a3 h = some (v, h') → MetM l (GM w) yX9_all cX9_all 8 (some .long) 11 [.ref (gB (GM w) + 1), .int a1, .int a2, .int a3] h (inL v) h' :=
  met_of (by decide) (lokM w) (Nat.le_of_ble_eq_true rfl) (fun x hx hG hE hR hT => s_X9_all w hx hG hE hR hT a1 a2 a3 h)
def m_X9_trulyPaid_L38 (k5 : Int32 → Int32 → Int64 → Int32 → Hp → Option (Int64 × Hp)) (a1 : Int32) (a2 : Int32) (a5 : Int32) (t0 : Int64) (t1 : Int64) (h : Hp) : Option (Int64 × Hp) := vb (t1 + t0) fun v1 => vb (a5 + 1) fun v2 => k5 a1 a2 v1 v2 h
set_option maxRecDepth 20000 in
set_option maxHeartbeats 4000000 in
theorem s_X9_trulyPaid_L38 (w : WT) {x : CT} {l : Launch} (hx : xl x = l) (hG : Gd x cX9_trulyPaid 6 RX9) (hE : Ge x (GM w)) (hR : Rm x 11) (hT : Rt x (some .long)) (k5 : Int32 → Int32 → Int64 → Int32 → Hp → Option (Int64 × Hp)) (hk5 : ∀ (a1 : Int32) (a2 : Int32) (a3 : Int64) (a5 : Int32) (h : Hp), Sn x 6 (gA (GM w)) (0, 0) (ζM x (GM w) inL) (gW (GM w) h) 5 [(0, .ref (gB (GM w) + 1)), (1, .int a1), (2, .int a2), (3, .long a3), (5, .int a5)] [] (k5 a1 a2 a3 a5 h)) (a1 : Int32) (a2 : Int32) (a5 : Int32) (t0 : Int64) (t1 : Int64) (h : Hp) : Sn x 6 (gA (GM w)) (0, 0) (ζM x (GM w) inL) (gW (GM w) h) 38 [(0, .ref (gB (GM w) + 1)), (1, .int a1), (2, .int a2), (5, .int a5)] [.long t0, .long t1] (m_X9_trulyPaid_L38 k5 a1 a2 a5 t0 t1 h) := by
  unfold m_X9_trulyPaid_L38
  refine s_ladd hG dX9_trulyPaid_38 ?_
  refine s_vL (fun v1 => ?_)
  refine s_lstore_n (lv' := [(3, .long v1), (0, .ref (gB (GM w) + 1)), (1, .int a1), (2, .int a2), (5, .int a5)]) hG dX9_trulyPaid_39 rfl (by decide) rfl ?_
  refine s_iinc hG dX9_trulyPaid_40 4 rfl ic_1 (by decide) (fun v2 => [(5, .int v2), (3, .long v1), (0, .ref (gB (GM w) + 1)), (1, .int a1), (2, .int a2)]) (fun _ => rfl) (fun v2 => ?_)
  refine s_goto (tgt := 5) hG dX9_trulyPaid_43 (by decide) ?_
  refine s_lv [2, 3, 4, 1, 0] rfl ?_
  exact hk5 a1 a2 v1 v2 h

def m_X9_trulyPaid_L5 : Nat → Int32 → Int32 → Int64 → Int32 → Hp → Option (Int64 × Hp)
  | 0, _, _, _, _, _ => none
  | n + 1, a1, a2, a3, a5, h => if (gi h 1 1) ≤ a5 then some (a3, h) else cb (m_X9_get a5 0 h) fun v2 h3 => if v2 = a2 then cb (m_X9_paidOf a1 a5 2 h3) fun v5 h6 => m_X9_trulyPaid_L38 (m_X9_trulyPaid_L5 n) a1 a2 a5 v5 a3 h6 else m_X9_trulyPaid_L38 (m_X9_trulyPaid_L5 n) a1 a2 a5 0 a3 h3
set_option maxRecDepth 20000 in
set_option maxHeartbeats 4000000 in
theorem s_X9_trulyPaid_L5 (w : WT) {x : CT} {l : Launch} (hx : xl x = l) (hG : Gd x cX9_trulyPaid 6 RX9) (hE : Ge x (GM w)) (hR : Rm x 11) (hT : Rt x (some .long)) : ∀ (n : Nat) (a1 : Int32) (a2 : Int32) (a3 : Int64) (a5 : Int32) (h : Hp), Sn x 6 (gA (GM w)) (0, 0) (ζM x (GM w) inL) (gW (GM w) h) 5 [(0, .ref (gB (GM w) + 1)), (1, .int a1), (2, .int a2), (3, .long a3), (5, .int a5)] [] (m_X9_trulyPaid_L5 n a1 a2 a3 a5 h) := by
  intro n
  induction n with
  | zero => intro a1 a2 a3 a5 h; exact s_none
  | succ n ih =>
    intro a1 a2 a3 a5 h
    rw [m_X9_trulyPaid_L5]
    refine s_iload hG dX9_trulyPaid_5 4 rfl ?_
    refine s_aload_n hG dX9_trulyPaid_7 0 rfl rfl ?_
    refine s_getI hG hE dX9_trulyPaid_8 fl_X9_13 rfl kM_1 ?_
    refine s_icmp_ge hG dX9_trulyPaid_11 (tgt := 46) (by decide) (fun q1 => ?_) (fun q1 => ?_)
    · refine s_lload_n hG dX9_trulyPaid_46 3 rfl rfl ?_
      exact s_lret hG hT dX9_trulyPaid_47
    · refine s_lload_n hG dX9_trulyPaid_14 3 rfl rfl ?_
      refine s_aload_n hG dX9_trulyPaid_15 0 rfl rfl ?_
      refine s_iload hG dX9_trulyPaid_16 4 rfl ?_
      refine s_iconst hG dX9_trulyPaid_18 ic_0 ?_
      refine s_callV (a := 1) (c := 9) (inj := inI) (As := [.int a5, .int 0]) (st := [.long a3]) rfl hG hE dX9_trulyPaid_19 hR (by decide) vv_X9_148 (by decide) rfl kM_1 rfl (Nat.le_of_ble_eq_true rfl) rfl (fun zv zh zq => c_X9_get w (xl x) a5 0 h zv zh zq) (fun v2 h3 => ?_)
      refine s_iload_n hG dX9_trulyPaid_22 2 rfl rfl ?_
      refine s_icmp_ne hG dX9_trulyPaid_23 (tgt := 37) (by decide) (fun q4 => ?_) (fun q4 => ?_)
      · refine s_aload_n hG dX9_trulyPaid_26 0 rfl rfl ?_
        refine s_iload_n hG dX9_trulyPaid_27 1 rfl rfl ?_
        refine s_iload hG dX9_trulyPaid_28 4 rfl ?_
        refine s_iconst hG dX9_trulyPaid_30 ic_2 ?_
        refine s_callV (a := 1) (c := 9) (inj := inL) (As := [.int a1, .int a5, .int 2]) (st := [.long a3]) rfl hG hE dX9_trulyPaid_31 hR (by decide) vv_X9_279 (by decide) rfl kM_1 rfl (Nat.le_of_ble_eq_true rfl) rfl (fun zv zh zq => c_X9_paidOf w (xl x) a1 a5 2 h3 zv zh zq) (fun v5 h6 => ?_)
        refine s_goto (tgt := 38) hG dX9_trulyPaid_34 (by decide) ?_
        refine s_lv [0, 1, 2, 4] rfl ?_
        exact s_X9_trulyPaid_L38 w hx hG hE hR hT (m_X9_trulyPaid_L5 n) ih a1 a2 a5 v5 a3 h6
      · refine s_lconst hG dX9_trulyPaid_37 lc_0 ?_
        refine s_lv [0, 1, 2, 4] rfl ?_
        exact s_X9_trulyPaid_L38 w hx hG hE hR hT (m_X9_trulyPaid_L5 n) ih a1 a2 a5 0 a3 h3

def m_X9_trulyPaid (a1 : Int32) (a2 : Int32) (h : Hp) : Option (Int64 × Hp) := m_X9_trulyPaid_L5 FU a1 a2 0 0 h
set_option maxRecDepth 20000 in
set_option maxHeartbeats 4000000 in
theorem s_X9_trulyPaid (w : WT) {x : CT} {l : Launch} (hx : xl x = l) (hG : Gd x cX9_trulyPaid 6 RX9) (hE : Ge x (GM w)) (hR : Rm x 11) (hT : Rt x (some .long)) (a1 : Int32) (a2 : Int32) (h : Hp) : Sn x 6 (gA (GM w)) (0, 0) (ζM x (GM w) inL) (gW (GM w) h) 0 [(0, .ref (gB (GM w) + 1)), (1, .int a1), (2, .int a2)] [] (m_X9_trulyPaid a1 a2 h) := by
  unfold m_X9_trulyPaid
  refine s_lconst hG dX9_trulyPaid_0 lc_0 ?_
  refine s_lstore_n (lv' := [(3, .long 0), (0, .ref (gB (GM w) + 1)), (1, .int a1), (2, .int a2)]) hG dX9_trulyPaid_1 rfl (by decide) rfl ?_
  refine s_iconst hG dX9_trulyPaid_2 ic_0 ?_
  refine s_istore (lv' := [(5, .int 0), (3, .long 0), (0, .ref (gB (GM w) + 1)), (1, .int a1), (2, .int a2)]) hG dX9_trulyPaid_3 (by decide) rfl ?_
  refine s_lv [2, 3, 4, 1, 0] rfl ?_
  exact s_X9_trulyPaid_L5 w hx hG hE hR hT FU a1 a2 0 0 h

theorem c_X9_trulyPaid (w : WT) (l : Launch) (a1 : Int32) (a2 : Int32) (h : Hp) : ∀ v h', m_X9_trulyPaid a1 a2 h = some (v, h') → MetM l (GM w) yX9_trulyPaid cX9_trulyPaid 6 (some .long) 11 [.ref (gB (GM w) + 1), .int a1, .int a2] h (inL v) h' :=
  met_of (by decide) (lokM w) (Nat.le_of_ble_eq_true rfl) (fun x hx hG hE hR hT => s_X9_trulyPaid w hx hG hE hR hT a1 a2 h)
theorem vv_X9_287 : VV RX9 287 yX9_trulyPaid cX9_trulyPaid 6 (some .long) 2 := ⟨⟨gw_at 1419 (by decide +kernel) (by decide +kernel), gw_at 1422 (by decide +kernel) (by decide +kernel), gw_at 96 (by decide +kernel) (by decide +kernel), by decide +kernel, by decide⟩, gw_at 1421 (by decide +kernel) (by decide +kernel), gw_at 66 (by decide +kernel) (by decide +kernel)⟩
def m_X9_ends_L120 (k46 : Int32 → Int32 → Int32 → Int32 → Int64 → Int32 → Hp → Option (Int64 × Hp)) (a1 : Int32) (a2 : Int32) (a3 : Int32) (a4 : Int32) (a7 : Int32) (a8 : Int64) (a10 : Int64) (t0 : Int32) (t1 : Int32) (t2 : Int64) (h : Hp) : Option (Int64 × Hp) := if t1 = t0 then vb (t2 + a8) fun v4 => vb (a7 + 1) fun v5 => k46 a1 a2 a3 a4 v4 v5 h else vb (t2 + a10) fun v2 => vb (a7 + 1) fun v3 => k46 a1 a2 a3 a4 v2 v3 h
set_option maxRecDepth 20000 in
set_option maxHeartbeats 4000000 in
theorem s_X9_ends_L120 (w : WT) {x : CT} {l : Launch} (hx : xl x = l) (hG : Gd x cX9_ends 12 RX9) (hE : Ge x (GM w)) (hR : Rm x 12) (hT : Rt x (some .long)) (k46 : Int32 → Int32 → Int32 → Int32 → Int64 → Int32 → Hp → Option (Int64 × Hp)) (hk46 : ∀ (a1 : Int32) (a2 : Int32) (a3 : Int32) (a4 : Int32) (a5 : Int64) (a7 : Int32) (h : Hp), Sn x 12 (gA (GM w)) (0, 0) (ζM x (GM w) inL) (gW (GM w) h) 46 [(0, .ref (gB (GM w) + 1)), (1, .int a1), (2, .int a2), (3, .int a3), (4, .int a4), (5, .long a5), (7, .int a7)] [] (k46 a1 a2 a3 a4 a5 a7 h)) (a1 : Int32) (a2 : Int32) (a3 : Int32) (a4 : Int32) (a7 : Int32) (a8 : Int64) (a10 : Int64) (t0 : Int32) (t1 : Int32) (t2 : Int64) (h : Hp) : Sn x 12 (gA (GM w)) (0, 0) (ζM x (GM w) inL) (gW (GM w) h) 120 [(0, .ref (gB (GM w) + 1)), (1, .int a1), (2, .int a2), (3, .int a3), (4, .int a4), (7, .int a7), (8, .long a8), (10, .long a10)] [.int t0, .int t1, .long t2] (m_X9_ends_L120 k46 a1 a2 a3 a4 a7 a8 a10 t0 t1 t2 h) := by
  unfold m_X9_ends_L120
  refine s_icmp_ne hG dX9_ends_120 (tgt := 128) (by decide) (fun q1 => ?_) (fun q1 => ?_)
  · refine s_lload hG dX9_ends_123 6 rfl ?_
    refine s_goto (tgt := 130) hG dX9_ends_125 (by decide) ?_
    refine s_ladd hG dX9_ends_130 ?_
    refine s_vL (fun v4 => ?_)
    refine s_lstore (lv' := [(5, .long v4), (0, .ref (gB (GM w) + 1)), (1, .int a1), (2, .int a2), (3, .int a3), (4, .int a4), (7, .int a7), (8, .long a8), (10, .long a10)]) hG dX9_ends_131 (by decide) rfl ?_
    refine s_iinc hG dX9_ends_133 6 rfl ic_1 (by decide) (fun v5 => [(7, .int v5), (5, .long v4), (0, .ref (gB (GM w) + 1)), (1, .int a1), (2, .int a2), (3, .int a3), (4, .int a4), (8, .long a8), (10, .long a10)]) (fun _ => rfl) (fun v5 => ?_)
    refine s_goto (tgt := 46) hG dX9_ends_136 (by decide) ?_
    refine s_lv [2, 3, 4, 5, 6, 1, 0] rfl ?_
    exact hk46 a1 a2 a3 a4 v4 v5 h
  · refine s_lload hG dX9_ends_128 7 rfl ?_
    refine s_ladd hG dX9_ends_130 ?_
    refine s_vL (fun v2 => ?_)
    refine s_lstore (lv' := [(5, .long v2), (0, .ref (gB (GM w) + 1)), (1, .int a1), (2, .int a2), (3, .int a3), (4, .int a4), (7, .int a7), (8, .long a8), (10, .long a10)]) hG dX9_ends_131 (by decide) rfl ?_
    refine s_iinc hG dX9_ends_133 6 rfl ic_1 (by decide) (fun v3 => [(7, .int v3), (5, .long v2), (0, .ref (gB (GM w) + 1)), (1, .int a1), (2, .int a2), (3, .int a3), (4, .int a4), (8, .long a8), (10, .long a10)]) (fun _ => rfl) (fun v3 => ?_)
    refine s_goto (tgt := 46) hG dX9_ends_136 (by decide) ?_
    refine s_lv [2, 3, 4, 5, 6, 1, 0] rfl ?_
    exact hk46 a1 a2 a3 a4 v2 v3 h

def m_X9_ends_L111 (k46 : Int32 → Int32 → Int32 → Int32 → Int64 → Int32 → Hp → Option (Int64 × Hp)) (a1 : Int32) (a2 : Int32) (a3 : Int32) (a4 : Int32) (a7 : Int32) (a8 : Int64) (a10 : Int64) (t0 : Int32) (t1 : Int64) (h : Hp) : Option (Int64 × Hp) := if a2 = 0 then m_X9_ends_L120 k46 a1 a2 a3 a4 a7 a8 a10 1 t0 t1 h else m_X9_ends_L120 k46 a1 a2 a3 a4 a7 a8 a10 0 t0 t1 h
set_option maxRecDepth 20000 in
set_option maxHeartbeats 4000000 in
theorem s_X9_ends_L111 (w : WT) {x : CT} {l : Launch} (hx : xl x = l) (hG : Gd x cX9_ends 12 RX9) (hE : Ge x (GM w)) (hR : Rm x 12) (hT : Rt x (some .long)) (k46 : Int32 → Int32 → Int32 → Int32 → Int64 → Int32 → Hp → Option (Int64 × Hp)) (hk46 : ∀ (a1 : Int32) (a2 : Int32) (a3 : Int32) (a4 : Int32) (a5 : Int64) (a7 : Int32) (h : Hp), Sn x 12 (gA (GM w)) (0, 0) (ζM x (GM w) inL) (gW (GM w) h) 46 [(0, .ref (gB (GM w) + 1)), (1, .int a1), (2, .int a2), (3, .int a3), (4, .int a4), (5, .long a5), (7, .int a7)] [] (k46 a1 a2 a3 a4 a5 a7 h)) (a1 : Int32) (a2 : Int32) (a3 : Int32) (a4 : Int32) (a7 : Int32) (a8 : Int64) (a10 : Int64) (t0 : Int32) (t1 : Int64) (h : Hp) : Sn x 12 (gA (GM w)) (0, 0) (ζM x (GM w) inL) (gW (GM w) h) 111 [(0, .ref (gB (GM w) + 1)), (1, .int a1), (2, .int a2), (3, .int a3), (4, .int a4), (7, .int a7), (8, .long a8), (10, .long a10)] [.int t0, .long t1] (m_X9_ends_L111 k46 a1 a2 a3 a4 a7 a8 a10 t0 t1 h) := by
  unfold m_X9_ends_L111
  refine s_iload_n hG dX9_ends_111 2 rfl rfl ?_
  refine s_if_ne hG dX9_ends_112 (tgt := 119) (by decide) (fun q1 => ?_) (fun q1 => ?_)
  · refine s_iconst hG dX9_ends_115 ic_1 ?_
    refine s_goto (tgt := 120) hG dX9_ends_116 (by decide) ?_
    exact s_X9_ends_L120 w hx hG hE hR hT k46 hk46 a1 a2 a3 a4 a7 a8 a10 1 t0 t1 h
  · refine s_iconst hG dX9_ends_119 ic_0 ?_
    exact s_X9_ends_L120 w hx hG hE hR hT k46 hk46 a1 a2 a3 a4 a7 a8 a10 0 t0 t1 h

def m_X9_ends_L157 (a3 : Int32) (a4 : Int32) (t0 : Int64) (h : Hp) : Option (Int64 × Hp) := cb (m_X9_lineOf a4 h) fun v1 h2 => cb (m_X9_lowest t0 v1 a3 h2) fun v3 h4 => some (v3, h4)
set_option maxRecDepth 20000 in
set_option maxHeartbeats 4000000 in
theorem s_X9_ends_L157 (w : WT) {x : CT} {l : Launch} (hx : xl x = l) (hG : Gd x cX9_ends 12 RX9) (hE : Ge x (GM w)) (hR : Rm x 12) (hT : Rt x (some .long)) (a3 : Int32) (a4 : Int32) (t0 : Int64) (h : Hp) : Sn x 12 (gA (GM w)) (0, 0) (ζM x (GM w) inL) (gW (GM w) h) 157 [(0, .ref (gB (GM w) + 1)), (3, .int a3), (4, .int a4)] [.long t0, .ref (gB (GM w) + 1)] (m_X9_ends_L157 a3 a4 t0 h) := by
  unfold m_X9_ends_L157
  refine s_aload_n hG dX9_ends_157 0 rfl rfl ?_
  refine s_iload hG dX9_ends_158 2 rfl ?_
  refine s_callV (a := 1) (c := 9) (inj := inL) (As := [.int a4]) (st := [.long t0, .ref (gB (GM w) + 1)]) rfl hG hE dX9_ends_160 hR (by decide) vv_X9_269 (by decide) rfl kM_1 rfl (Nat.le_of_ble_eq_true rfl) rfl (fun zv zh zq => c_X9_lineOf w (xl x) a4 h zv zh zq) (fun v1 h2 => ?_)
  refine s_iload_n hG dX9_ends_163 1 rfl rfl ?_
  refine s_callV (a := 1) (c := 9) (inj := inL) (As := [.long t0, .long v1, .int a3]) (st := []) rfl hG hE dX9_ends_164 hR (by decide) vv_X9_283 (by decide) rfl kM_1 rfl (Nat.le_of_ble_eq_true rfl) rfl (fun zv zh zq => c_X9_lowest w (xl x) t0 v1 a3 h2 zv zh zq) (fun v3 h4 => ?_)
  exact s_lret hG hT dX9_ends_167

def m_X9_ends_L139 (a1 : Int32) (a2 : Int32) (a3 : Int32) (a4 : Int32) (a5 : Int64) (h : Hp) : Option (Int64 × Hp) := if a2 = 2 then cb (m_X9_trulyPaid a4 a1 h) fun v2 h3 => m_X9_ends_L157 a3 a4 v2 h3 else m_X9_ends_L157 a3 a4 a5 h
set_option maxRecDepth 20000 in
set_option maxHeartbeats 4000000 in
theorem s_X9_ends_L139 (w : WT) {x : CT} {l : Launch} (hx : xl x = l) (hG : Gd x cX9_ends 12 RX9) (hE : Ge x (GM w)) (hR : Rm x 12) (hT : Rt x (some .long)) (a1 : Int32) (a2 : Int32) (a3 : Int32) (a4 : Int32) (a5 : Int64) (h : Hp) : Sn x 12 (gA (GM w)) (0, 0) (ζM x (GM w) inL) (gW (GM w) h) 139 [(0, .ref (gB (GM w) + 1)), (1, .int a1), (2, .int a2), (3, .int a3), (4, .int a4), (5, .long a5)] [] (m_X9_ends_L139 a1 a2 a3 a4 a5 h) := by
  unfold m_X9_ends_L139
  refine s_aload_n hG dX9_ends_139 0 rfl rfl ?_
  refine s_iload_n hG dX9_ends_140 2 rfl rfl ?_
  refine s_iconst hG dX9_ends_141 ic_2 ?_
  refine s_icmp_ne hG dX9_ends_142 (tgt := 155) (by decide) (fun q1 => ?_) (fun q1 => ?_)
  · refine s_aload_n hG dX9_ends_145 0 rfl rfl ?_
    refine s_iload hG dX9_ends_146 4 rfl ?_
    refine s_iload_n hG dX9_ends_148 1 rfl rfl ?_
    refine s_callV (a := 1) (c := 9) (inj := inL) (As := [.int a4, .int a1]) (st := [.ref (gB (GM w) + 1)]) rfl hG hE dX9_ends_149 hR (by decide) vv_X9_287 (by decide) rfl kM_1 rfl (Nat.le_of_ble_eq_true rfl) rfl (fun zv zh zq => c_X9_trulyPaid w (xl x) a4 a1 h zv zh zq) (fun v2 h3 => ?_)
    refine s_goto (tgt := 157) hG dX9_ends_152 (by decide) ?_
    refine s_lv [0, 3, 4] rfl ?_
    exact s_X9_ends_L157 w hx hG hE hR hT a3 a4 v2 h3
  · refine s_lload hG dX9_ends_155 5 rfl ?_
    refine s_lv [0, 3, 4] rfl ?_
    exact s_X9_ends_L157 w hx hG hE hR hT a3 a4 a5 h

def m_X9_ends_L46 : Nat → Int32 → Int32 → Int32 → Int32 → Int64 → Int32 → Hp → Option (Int64 × Hp)
  | 0, _, _, _, _, _, _, _ => none
  | n + 1, a1, a2, a3, a4, a5, a7, h => if (gi h 1 1) ≤ a7 then m_X9_ends_L139 a1 a2 a3 a4 a5 h else if 2 ≤ a2 then m_X9_ends_L139 a1 a2 a3 a4 a5 h else cb (m_X9_get a7 0 h) fun v3 h4 => if v3 = a1 then cb (m_X9_paidOf a4 a7 0 h4) fun v6 h7 => cb (m_X9_paidOf a4 a7 1 h7) fun v8 h9 => if v8 ≤ v6 then m_X9_ends_L111 (m_X9_ends_L46 n) a1 a2 a3 a4 a7 v6 v8 0 a5 h9 else m_X9_ends_L111 (m_X9_ends_L46 n) a1 a2 a3 a4 a7 v6 v8 1 a5 h9 else vb (a7 + 1) fun v11 => m_X9_ends_L46 n a1 a2 a3 a4 a5 v11 h4
set_option maxRecDepth 20000 in
set_option maxHeartbeats 4000000 in
theorem s_X9_ends_L46 (w : WT) {x : CT} {l : Launch} (hx : xl x = l) (hG : Gd x cX9_ends 12 RX9) (hE : Ge x (GM w)) (hR : Rm x 12) (hT : Rt x (some .long)) : ∀ (n : Nat) (a1 : Int32) (a2 : Int32) (a3 : Int32) (a4 : Int32) (a5 : Int64) (a7 : Int32) (h : Hp), Sn x 12 (gA (GM w)) (0, 0) (ζM x (GM w) inL) (gW (GM w) h) 46 [(0, .ref (gB (GM w) + 1)), (1, .int a1), (2, .int a2), (3, .int a3), (4, .int a4), (5, .long a5), (7, .int a7)] [] (m_X9_ends_L46 n a1 a2 a3 a4 a5 a7 h) := by
  intro n
  induction n with
  | zero => intro a1 a2 a3 a4 a5 a7 h; exact s_none
  | succ n ih =>
    intro a1 a2 a3 a4 a5 a7 h
    rw [m_X9_ends_L46]
    refine s_iload hG dX9_ends_46 6 rfl ?_
    refine s_aload_n hG dX9_ends_48 0 rfl rfl ?_
    refine s_getI hG hE dX9_ends_49 fl_X9_13 rfl kM_1 ?_
    refine s_icmp_ge hG dX9_ends_52 (tgt := 139) (by decide) (fun q1 => ?_) (fun q1 => ?_)
    · refine s_lv [0, 1, 2, 3, 4, 5] rfl ?_
      exact s_X9_ends_L139 w hx hG hE hR hT a1 a2 a3 a4 a5 h
    · refine s_iload_n hG dX9_ends_55 2 rfl rfl ?_
      refine s_iconst hG dX9_ends_56 ic_2 ?_
      refine s_icmp_ge hG dX9_ends_57 (tgt := 139) (by decide) (fun q2 => ?_) (fun q2 => ?_)
      · refine s_lv [0, 1, 2, 3, 4, 5] rfl ?_
        exact s_X9_ends_L139 w hx hG hE hR hT a1 a2 a3 a4 a5 h
      · refine s_aload_n hG dX9_ends_60 0 rfl rfl ?_
        refine s_iload hG dX9_ends_61 6 rfl ?_
        refine s_iconst hG dX9_ends_63 ic_0 ?_
        refine s_callV (a := 1) (c := 9) (inj := inI) (As := [.int a7, .int 0]) (st := []) rfl hG hE dX9_ends_64 hR (by decide) vv_X9_148 (by decide) rfl kM_1 rfl (Nat.le_of_ble_eq_true rfl) rfl (fun zv zh zq => c_X9_get w (xl x) a7 0 h zv zh zq) (fun v3 h4 => ?_)
        refine s_iload_n hG dX9_ends_67 1 rfl rfl ?_
        refine s_icmp_eq hG dX9_ends_68 (tgt := 74) (by decide) (fun q5 => ?_) (fun q5 => ?_)
        · refine s_aload_n hG dX9_ends_74 0 rfl rfl ?_
          refine s_iload hG dX9_ends_75 4 rfl ?_
          refine s_iload hG dX9_ends_77 6 rfl ?_
          refine s_iconst hG dX9_ends_79 ic_0 ?_
          refine s_callV (a := 1) (c := 9) (inj := inL) (As := [.int a4, .int a7, .int 0]) (st := []) rfl hG hE dX9_ends_80 hR (by decide) vv_X9_279 (by decide) rfl kM_1 rfl (Nat.le_of_ble_eq_true rfl) rfl (fun zv zh zq => c_X9_paidOf w (xl x) a4 a7 0 h4 zv zh zq) (fun v6 h7 => ?_)
          refine s_lstore (lv' := [(8, .long v6), (0, .ref (gB (GM w) + 1)), (1, .int a1), (2, .int a2), (3, .int a3), (4, .int a4), (5, .long a5), (7, .int a7)]) hG dX9_ends_83 (by decide) rfl ?_
          refine s_aload_n hG dX9_ends_85 1 rfl rfl ?_
          refine s_iload hG dX9_ends_86 5 rfl ?_
          refine s_iload hG dX9_ends_88 7 rfl ?_
          refine s_iconst hG dX9_ends_90 ic_1 ?_
          refine s_callV (a := 1) (c := 9) (inj := inL) (As := [.int a4, .int a7, .int 1]) (st := []) rfl hG hE dX9_ends_91 hR (by decide) vv_X9_279 (by decide) rfl kM_1 rfl (Nat.le_of_ble_eq_true rfl) rfl (fun zv zh zq => c_X9_paidOf w (xl x) a4 a7 1 h7 zv zh zq) (fun v8 h9 => ?_)
          refine s_lstore (lv' := [(10, .long v8), (8, .long v6), (0, .ref (gB (GM w) + 1)), (1, .int a1), (2, .int a2), (3, .int a3), (4, .int a4), (5, .long a5), (7, .int a7)]) hG dX9_ends_94 (by decide) rfl ?_
          refine s_lload hG dX9_ends_96 7 rfl ?_
          refine s_lload hG dX9_ends_98 1 rfl ?_
          refine s_lload hG dX9_ends_100 0 rfl ?_
          refine s_lcmp_ge hG dX9_ends_102 dX9_ends_103 (tgt := 110) (by decide) (fun q10 => ?_) (fun q10 => ?_)
          · refine s_iconst hG dX9_ends_110 ic_0 ?_
            refine s_lv [2, 3, 4, 5, 6, 8, 1, 0] rfl ?_
            exact s_X9_ends_L111 w hx hG hE hR hT (m_X9_ends_L46 n) ih a1 a2 a3 a4 a7 v6 v8 0 a5 h9
          · refine s_iconst hG dX9_ends_106 ic_1 ?_
            refine s_goto (tgt := 111) hG dX9_ends_107 (by decide) ?_
            refine s_lv [2, 3, 4, 5, 6, 8, 1, 0] rfl ?_
            exact s_X9_ends_L111 w hx hG hE hR hT (m_X9_ends_L46 n) ih a1 a2 a3 a4 a7 v6 v8 1 a5 h9
        · refine s_goto (tgt := 133) hG dX9_ends_71 (by decide) ?_
          refine s_iinc hG dX9_ends_133 6 rfl ic_1 (by decide) (fun v11 => [(7, .int v11), (0, .ref (gB (GM w) + 1)), (1, .int a1), (2, .int a2), (3, .int a3), (4, .int a4), (5, .long a5)]) (fun _ => rfl) (fun v11 => ?_)
          refine s_goto (tgt := 46) hG dX9_ends_136 (by decide) ?_
          refine s_lv [1, 2, 3, 4, 5, 6, 0] rfl ?_
          exact ih a1 a2 a3 a4 a5 v11 h4

def m_X9_ends (a1 : Int32) (a2 : Int32) (a3 : Int32) (h : Hp) : Option (Int64 × Hp) := cb (m_X9_isSuit a1 h) fun v1 h2 => if v1 = 0 then some ((-9223372036854775808), h2) else cb (m_X9_in a2 0 2 h2) fun v4 h5 => if v4 = 0 then some ((-9223372036854775808), h5) else cb (m_X9_in a3 0 1 h5) fun v7 h8 => if v7 = 0 then some ((-9223372036854775808), h8) else ck (inb a1 5) (vb (gi h8 5 a1.toNatClampNeg) fun v11 => m_X9_ends_L46 FU a1 a2 a3 v11 0 0 h8)
set_option maxRecDepth 20000 in
set_option maxHeartbeats 4000000 in
theorem s_X9_ends (w : WT) {x : CT} {l : Launch} (hx : xl x = l) (hG : Gd x cX9_ends 12 RX9) (hE : Ge x (GM w)) (hR : Rm x 12) (hT : Rt x (some .long)) (a1 : Int32) (a2 : Int32) (a3 : Int32) (h : Hp) : Sn x 12 (gA (GM w)) (0, 0) (ζM x (GM w) inL) (gW (GM w) h) 0 [(0, .ref (gB (GM w) + 1)), (1, .int a1), (2, .int a2), (3, .int a3)] [] (m_X9_ends a1 a2 a3 h) := by
  unfold m_X9_ends
  refine s_aload_n hG dX9_ends_0 0 rfl rfl ?_
  refine s_iload_n hG dX9_ends_1 1 rfl rfl ?_
  refine s_callV (a := 1) (c := 9) (inj := inI) (As := [.int a1]) (st := []) rfl hG hE dX9_ends_2 hR (by decide) vv_X9_156 (by decide) rfl kM_1 rfl (Nat.le_of_ble_eq_true rfl) rfl (fun zv zh zq => c_X9_isSuit w (xl x) a1 h zv zh zq) (fun v1 h2 => ?_)
  refine s_if_eq hG dX9_ends_5 (tgt := 28) (by decide) (fun q3 => ?_) (fun q3 => ?_)
  · refine s_ldc2 hG dX9_ends_28 wd_1394 ?_
    exact s_lret hG hT dX9_ends_31
  · refine s_aload_n hG dX9_ends_8 0 rfl rfl ?_
    refine s_iload_n hG dX9_ends_9 2 rfl rfl ?_
    refine s_iconst hG dX9_ends_10 ic_0 ?_
    refine s_iconst hG dX9_ends_11 ic_2 ?_
    refine s_callV (a := 1) (c := 9) (inj := inI) (As := [.int a2, .int 0, .int 2]) (st := []) rfl hG hE dX9_ends_12 hR (by decide) vv_X9_144 (by decide) rfl kM_1 rfl (Nat.le_of_ble_eq_true rfl) rfl (fun zv zh zq => c_X9_in w (xl x) a2 0 2 h2 zv zh zq) (fun v4 h5 => ?_)
    refine s_if_eq hG dX9_ends_15 (tgt := 28) (by decide) (fun q6 => ?_) (fun q6 => ?_)
    · refine s_ldc2 hG dX9_ends_28 wd_1394 ?_
      exact s_lret hG hT dX9_ends_31
    · refine s_aload_n hG dX9_ends_18 0 rfl rfl ?_
      refine s_iload_n hG dX9_ends_19 3 rfl rfl ?_
      refine s_iconst hG dX9_ends_20 ic_0 ?_
      refine s_iconst hG dX9_ends_21 ic_1 ?_
      refine s_callV (a := 1) (c := 9) (inj := inI) (As := [.int a3, .int 0, .int 1]) (st := []) rfl hG hE dX9_ends_22 hR (by decide) vv_X9_144 (by decide) rfl kM_1 rfl (Nat.le_of_ble_eq_true rfl) rfl (fun zv zh zq => c_X9_in w (xl x) a3 0 1 h5 zv zh zq) (fun v7 h8 => ?_)
      refine s_if_ne hG dX9_ends_25 (tgt := 32) (by decide) (fun q9 => ?_) (fun q9 => ?_)
      · refine s_ldc2 hG dX9_ends_28 wd_1394 ?_
        exact s_lret hG hT dX9_ends_31
      · refine s_aload_n hG dX9_ends_32 0 rfl rfl ?_
        refine s_getS hG hE dX9_ends_33 fl_X9_26 rfl kM_1 fM_9_5 (nzM kM_5) ?_
        refine s_iload_n hG dX9_ends_36 1 rfl rfl ?_
        refine s_ck (fun q10 => ?_)
        refine s_iald hG hE dX9_ends_37 kM_5 q10 ?_
        refine s_vI (fun v11 => ?_)
        refine s_istore (lv' := [(4, .int v11), (0, .ref (gB (GM w) + 1)), (1, .int a1), (2, .int a2), (3, .int a3)]) hG dX9_ends_38 (by decide) rfl ?_
        refine s_lconst hG dX9_ends_40 lc_0 ?_
        refine s_lstore (lv' := [(5, .long 0), (4, .int v11), (0, .ref (gB (GM w) + 1)), (1, .int a1), (2, .int a2), (3, .int a3)]) hG dX9_ends_41 (by decide) rfl ?_
        refine s_iconst hG dX9_ends_43 ic_0 ?_
        refine s_istore (lv' := [(7, .int 0), (5, .long 0), (4, .int v11), (0, .ref (gB (GM w) + 1)), (1, .int a1), (2, .int a2), (3, .int a3)]) hG dX9_ends_44 (by decide) rfl ?_
        refine s_lv [3, 4, 5, 6, 2, 1, 0] rfl ?_
        exact s_X9_ends_L46 w hx hG hE hR hT FU a1 a2 a3 v11 0 0 h8

theorem c_X9_ends (w : WT) (l : Launch) (a1 : Int32) (a2 : Int32) (a3 : Int32) (h : Hp) : ∀ v h', m_X9_ends a1 a2 a3 h = some (v, h') → MetM l (GM w) yX9_ends cX9_ends 12 (some .long) 12 [.ref (gB (GM w) + 1), .int a1, .int a2, .int a3] h (inL v) h' :=
  met_of (by decide) (lokM w) (Nat.le_of_ble_eq_true rfl) (fun x hx hG hE hR hT => s_X9_ends w hx hG hE hR hT a1 a2 a3 h)
def m_X9_truly_L77 (k17 : Int32 → Int32 → Int32 → Int32 → Hp → Option (Int32 × Hp)) (a1 : Int32) (a3 : Int32) (a4 : Int32) (t0 : Int32) (t1 : Int32) (h : Hp) : Option (Int32 × Hp) := vb (t1 ||| t0) fun v1 => vb (a3 + 1) fun v2 => vb (a4 + 1) fun v3 => k17 a1 v1 v2 v3 h
set_option maxRecDepth 20000 in
set_option maxHeartbeats 4000000 in
theorem s_X9_truly_L77 (w : WT) {x : CT} {l : Launch} (hx : xl x = l) (hG : Gd x cX9_truly 7 RX9) (hE : Ge x (GM w)) (hR : Rm x 11) (hT : Rt x (some .int)) (k17 : Int32 → Int32 → Int32 → Int32 → Hp → Option (Int32 × Hp)) (hk17 : ∀ (a1 : Int32) (a2 : Int32) (a3 : Int32) (a4 : Int32) (h : Hp), Sn x 7 (gA (GM w)) (0, 0) (ζM x (GM w) inI) (gW (GM w) h) 17 [(0, .ref (gB (GM w) + 1)), (1, .int a1), (2, .int a2), (3, .int a3), (4, .int a4)] [] (k17 a1 a2 a3 a4 h)) (a1 : Int32) (a3 : Int32) (a4 : Int32) (t0 : Int32) (t1 : Int32) (h : Hp) : Sn x 7 (gA (GM w)) (0, 0) (ζM x (GM w) inI) (gW (GM w) h) 77 [(0, .ref (gB (GM w) + 1)), (1, .int a1), (3, .int a3), (4, .int a4)] [.int t0, .int t1] (m_X9_truly_L77 k17 a1 a3 a4 t0 t1 h) := by
  unfold m_X9_truly_L77
  refine s_ior hG dX9_truly_77 ?_
  refine s_vI (fun v1 => ?_)
  refine s_istore_n (lv' := [(2, .int v1), (0, .ref (gB (GM w) + 1)), (1, .int a1), (3, .int a3), (4, .int a4)]) hG dX9_truly_78 rfl (by decide) rfl ?_
  refine s_iinc hG dX9_truly_79 3 rfl ic_1 (by decide) (fun v2 => [(3, .int v2), (2, .int v1), (0, .ref (gB (GM w) + 1)), (1, .int a1), (4, .int a4)]) (fun _ => rfl) (fun v2 => ?_)
  refine s_iinc hG dX9_truly_82 4 rfl ic_1 (by decide) (fun v3 => [(4, .int v3), (3, .int v2), (2, .int v1), (0, .ref (gB (GM w) + 1)), (1, .int a1)]) (fun _ => rfl) (fun v3 => ?_)
  refine s_goto (tgt := 17) hG dX9_truly_85 (by decide) ?_
  refine s_lv [3, 4, 2, 1, 0] rfl ?_
  exact hk17 a1 v1 v2 v3 h

def m_X9_truly_L76 (k17 : Int32 → Int32 → Int32 → Int32 → Hp → Option (Int32 × Hp)) (a1 : Int32) (a3 : Int32) (a4 : Int32) (t0 : Int32) (h : Hp) : Option (Int32 × Hp) := m_X9_truly_L77 k17 a1 a3 a4 0 t0 h
set_option maxRecDepth 20000 in
set_option maxHeartbeats 4000000 in
theorem s_X9_truly_L76 (w : WT) {x : CT} {l : Launch} (hx : xl x = l) (hG : Gd x cX9_truly 7 RX9) (hE : Ge x (GM w)) (hR : Rm x 11) (hT : Rt x (some .int)) (k17 : Int32 → Int32 → Int32 → Int32 → Hp → Option (Int32 × Hp)) (hk17 : ∀ (a1 : Int32) (a2 : Int32) (a3 : Int32) (a4 : Int32) (h : Hp), Sn x 7 (gA (GM w)) (0, 0) (ζM x (GM w) inI) (gW (GM w) h) 17 [(0, .ref (gB (GM w) + 1)), (1, .int a1), (2, .int a2), (3, .int a3), (4, .int a4)] [] (k17 a1 a2 a3 a4 h)) (a1 : Int32) (a3 : Int32) (a4 : Int32) (t0 : Int32) (h : Hp) : Sn x 7 (gA (GM w)) (0, 0) (ζM x (GM w) inI) (gW (GM w) h) 76 [(0, .ref (gB (GM w) + 1)), (1, .int a1), (3, .int a3), (4, .int a4)] [.int t0] (m_X9_truly_L76 k17 a1 a3 a4 t0 h) := by
  unfold m_X9_truly_L76
  refine s_iconst hG dX9_truly_76 ic_0 ?_
  exact s_X9_truly_L77 w hx hG hE hR hT k17 hk17 a1 a3 a4 0 t0 h

def m_X9_truly_L17 : Nat → Int32 → Int32 → Int32 → Int32 → Hp → Option (Int32 × Hp)
  | 0, _, _, _, _, _ => none
  | n + 1, a1, a2, a3, a4, h => if (gi h 1 1) ≤ a4 then some (a2, h) else cb (m_X9_get a4 0 h) fun v2 h3 => if v2 = a1 then ck (inb a1 5) (cb (m_X9_paidOf (gi h3 5 a1.toNatClampNeg) a4 2 h3) fun v6 h7 => if (gi h7 1 28) = 0 then m_X9_truly_L76 (m_X9_truly_L17 n) a1 a3 a4 a2 h7 else if v6 < 0 then m_X9_truly_L76 (m_X9_truly_L17 n) a1 a3 a4 a2 h7 else m_X9_truly_L77 (m_X9_truly_L17 n) a1 a3 a4 (1 <<< (a3 &&& 31)) a2 h7) else vb (a4 + 1) fun v10 => m_X9_truly_L17 n a1 a2 a3 v10 h3
set_option maxRecDepth 20000 in
set_option maxHeartbeats 4000000 in
theorem s_X9_truly_L17 (w : WT) {x : CT} {l : Launch} (hx : xl x = l) (hG : Gd x cX9_truly 7 RX9) (hE : Ge x (GM w)) (hR : Rm x 11) (hT : Rt x (some .int)) : ∀ (n : Nat) (a1 : Int32) (a2 : Int32) (a3 : Int32) (a4 : Int32) (h : Hp), Sn x 7 (gA (GM w)) (0, 0) (ζM x (GM w) inI) (gW (GM w) h) 17 [(0, .ref (gB (GM w) + 1)), (1, .int a1), (2, .int a2), (3, .int a3), (4, .int a4)] [] (m_X9_truly_L17 n a1 a2 a3 a4 h) := by
  intro n
  induction n with
  | zero => intro a1 a2 a3 a4 h; exact s_none
  | succ n ih =>
    intro a1 a2 a3 a4 h
    rw [m_X9_truly_L17]
    refine s_iload hG dX9_truly_17 4 rfl ?_
    refine s_aload_n hG dX9_truly_19 0 rfl rfl ?_
    refine s_getI hG hE dX9_truly_20 fl_X9_13 rfl kM_1 ?_
    refine s_icmp_ge hG dX9_truly_23 (tgt := 88) (by decide) (fun q1 => ?_) (fun q1 => ?_)
    · refine s_iload_n hG dX9_truly_88 2 rfl rfl ?_
      exact s_iret hG hT dX9_truly_89
    · refine s_aload_n hG dX9_truly_26 0 rfl rfl ?_
      refine s_iload hG dX9_truly_27 4 rfl ?_
      refine s_iconst hG dX9_truly_29 ic_0 ?_
      refine s_callV (a := 1) (c := 9) (inj := inI) (As := [.int a4, .int 0]) (st := []) rfl hG hE dX9_truly_30 hR (by decide) vv_X9_148 (by decide) rfl kM_1 rfl (Nat.le_of_ble_eq_true rfl) rfl (fun zv zh zq => c_X9_get w (xl x) a4 0 h zv zh zq) (fun v2 h3 => ?_)
      refine s_iload_n hG dX9_truly_33 1 rfl rfl ?_
      refine s_icmp_eq hG dX9_truly_34 (tgt := 40) (by decide) (fun q4 => ?_) (fun q4 => ?_)
      · refine s_aload_n hG dX9_truly_40 0 rfl rfl ?_
        refine s_aload_n hG dX9_truly_41 0 rfl rfl ?_
        refine s_getS hG hE dX9_truly_42 fl_X9_26 rfl kM_1 fM_9_5 (nzM kM_5) ?_
        refine s_iload_n hG dX9_truly_45 1 rfl rfl ?_
        refine s_ck (fun q5 => ?_)
        refine s_iald hG hE dX9_truly_46 kM_5 q5 ?_
        refine s_iload hG dX9_truly_47 4 rfl ?_
        refine s_iconst hG dX9_truly_49 ic_2 ?_
        refine s_callV (a := 1) (c := 9) (inj := inL) (As := [.int (gi h3 5 a1.toNatClampNeg), .int a4, .int 2]) (st := []) rfl hG hE dX9_truly_50 hR (by decide) vv_X9_279 (by decide) rfl kM_1 rfl (Nat.le_of_ble_eq_true rfl) rfl (fun zv zh zq => c_X9_paidOf w (xl x) (gi h3 5 a1.toNatClampNeg) a4 2 h3 zv zh zq) (fun v6 h7 => ?_)
        refine s_lstore (lv' := [(5, .long v6), (0, .ref (gB (GM w) + 1)), (1, .int a1), (2, .int a2), (3, .int a3), (4, .int a4)]) hG dX9_truly_53 (by decide) rfl ?_
        refine s_iload_n hG dX9_truly_55 3 rfl rfl ?_
        refine s_aload_n hG dX9_truly_56 1 rfl rfl ?_
        refine s_getI hG hE dX9_truly_57 fl_X9_96 rfl kM_1 ?_
        refine s_if_eq hG dX9_truly_60 (tgt := 76) (by decide) (fun q8 => ?_) (fun q8 => ?_)
        · refine s_lv [1, 2, 4, 5] rfl ?_
          exact s_X9_truly_L76 w hx hG hE hR hT (m_X9_truly_L17 n) ih a1 a3 a4 a2 h7
        · refine s_lload hG dX9_truly_63 0 rfl ?_
          refine s_lconst hG dX9_truly_65 lc_0 ?_
          refine s_lcmp_lt hG dX9_truly_66 dX9_truly_67 (tgt := 76) (by decide) (fun q9 => ?_) (fun q9 => ?_)
          · refine s_lv [1, 2, 4, 5] rfl ?_
            exact s_X9_truly_L76 w hx hG hE hR hT (m_X9_truly_L17 n) ih a1 a3 a4 a2 h7
          · refine s_iconst hG dX9_truly_70 ic_1 ?_
            refine s_iload_n hG dX9_truly_71 4 rfl rfl ?_
            refine s_ishl hG dX9_truly_72 ?_
            refine s_goto (tgt := 77) hG dX9_truly_73 (by decide) ?_
            refine s_lv [1, 2, 4, 5] rfl ?_
            exact s_X9_truly_L77 w hx hG hE hR hT (m_X9_truly_L17 n) ih a1 a3 a4 (1 <<< (a3 &&& 31)) a2 h7
      · refine s_goto (tgt := 82) hG dX9_truly_37 (by decide) ?_
        refine s_iinc hG dX9_truly_82 4 rfl ic_1 (by decide) (fun v10 => [(4, .int v10), (0, .ref (gB (GM w) + 1)), (1, .int a1), (2, .int a2), (3, .int a3)]) (fun _ => rfl) (fun v10 => ?_)
        refine s_goto (tgt := 17) hG dX9_truly_85 (by decide) ?_
        refine s_lv [1, 2, 3, 4, 0] rfl ?_
        exact ih a1 a2 a3 v10 h3

def m_X9_truly (a1 : Int32) (h : Hp) : Option (Int32 × Hp) := cb (m_X9_isSuit a1 h) fun v1 h2 => if v1 = 0 then some ((-1), h2) else m_X9_truly_L17 FU a1 0 0 0 h2
set_option maxRecDepth 20000 in
set_option maxHeartbeats 4000000 in
theorem s_X9_truly (w : WT) {x : CT} {l : Launch} (hx : xl x = l) (hG : Gd x cX9_truly 7 RX9) (hE : Ge x (GM w)) (hR : Rm x 11) (hT : Rt x (some .int)) (a1 : Int32) (h : Hp) : Sn x 7 (gA (GM w)) (0, 0) (ζM x (GM w) inI) (gW (GM w) h) 0 [(0, .ref (gB (GM w) + 1)), (1, .int a1)] [] (m_X9_truly a1 h) := by
  unfold m_X9_truly
  refine s_aload_n hG dX9_truly_0 0 rfl rfl ?_
  refine s_iload_n hG dX9_truly_1 1 rfl rfl ?_
  refine s_callV (a := 1) (c := 9) (inj := inI) (As := [.int a1]) (st := []) rfl hG hE dX9_truly_2 hR (by decide) vv_X9_156 (by decide) rfl kM_1 rfl (Nat.le_of_ble_eq_true rfl) rfl (fun zv zh zq => c_X9_isSuit w (xl x) a1 h zv zh zq) (fun v1 h2 => ?_)
  refine s_if_ne hG dX9_truly_5 (tgt := 10) (by decide) (fun q3 => ?_) (fun q3 => ?_)
  · refine s_iconst hG dX9_truly_8 ic_m1 ?_
    exact s_iret hG hT dX9_truly_9
  · refine s_iconst hG dX9_truly_10 ic_0 ?_
    refine s_istore_n (lv' := [(2, .int 0), (0, .ref (gB (GM w) + 1)), (1, .int a1)]) hG dX9_truly_11 rfl (by decide) rfl ?_
    refine s_iconst hG dX9_truly_12 ic_0 ?_
    refine s_istore_n (lv' := [(3, .int 0), (2, .int 0), (0, .ref (gB (GM w) + 1)), (1, .int a1)]) hG dX9_truly_13 rfl (by decide) rfl ?_
    refine s_iconst hG dX9_truly_14 ic_0 ?_
    refine s_istore (lv' := [(4, .int 0), (3, .int 0), (2, .int 0), (0, .ref (gB (GM w) + 1)), (1, .int a1)]) hG dX9_truly_15 (by decide) rfl ?_
    refine s_lv [3, 4, 2, 1, 0] rfl ?_
    exact s_X9_truly_L17 w hx hG hE hR hT FU a1 0 0 0 h2

theorem c_X9_truly (w : WT) (l : Launch) (a1 : Int32) (h : Hp) : ∀ v h', m_X9_truly a1 h = some (v, h') → MetM l (GM w) yX9_truly cX9_truly 7 (some .int) 11 [.ref (gB (GM w) + 1), .int a1] h (inI v) h' :=
  met_of (by decide) (lokM w) (Nat.le_of_ble_eq_true rfl) (fun x hx hG hE hR hT => s_X9_truly w hx hG hE hR hT a1 h)
def m_X9_rolled_L67 (k25 : Int32 → Int32 → Int32 → Int32 → Hp → Option (Int32 × Hp)) (a1 : Int32) (a2 : Int32) (a4 : Int32) (t0 : Int32) (t1 : Int32) (h : Hp) : Option (Int32 × Hp) := vb (t1 + t0) fun v1 => vb (a4 + 1) fun v2 => k25 a1 a2 v1 v2 h
set_option maxRecDepth 20000 in
set_option maxHeartbeats 4000000 in
theorem s_X9_rolled_L67 (w : WT) {x : CT} {l : Launch} (hx : xl x = l) (hG : Gd x cX9_rolled 5 RX9) (hE : Ge x (GM w)) (hR : Rm x 10) (hT : Rt x (some .int)) (k25 : Int32 → Int32 → Int32 → Int32 → Hp → Option (Int32 × Hp)) (hk25 : ∀ (a1 : Int32) (a2 : Int32) (a3 : Int32) (a4 : Int32) (h : Hp), Sn x 5 (gA (GM w)) (0, 0) (ζM x (GM w) inI) (gW (GM w) h) 25 [(0, .ref (gB (GM w) + 1)), (1, .int a1), (2, .int a2), (3, .int a3), (4, .int a4)] [] (k25 a1 a2 a3 a4 h)) (a1 : Int32) (a2 : Int32) (a4 : Int32) (t0 : Int32) (t1 : Int32) (h : Hp) : Sn x 5 (gA (GM w)) (0, 0) (ζM x (GM w) inI) (gW (GM w) h) 67 [(0, .ref (gB (GM w) + 1)), (1, .int a1), (2, .int a2), (4, .int a4)] [.int t0, .int t1] (m_X9_rolled_L67 k25 a1 a2 a4 t0 t1 h) := by
  unfold m_X9_rolled_L67
  refine s_iadd hG dX9_rolled_67 ?_
  refine s_vI (fun v1 => ?_)
  refine s_istore_n (lv' := [(3, .int v1), (0, .ref (gB (GM w) + 1)), (1, .int a1), (2, .int a2), (4, .int a4)]) hG dX9_rolled_68 rfl (by decide) rfl ?_
  refine s_iinc hG dX9_rolled_69 4 rfl ic_1 (by decide) (fun v2 => [(4, .int v2), (3, .int v1), (0, .ref (gB (GM w) + 1)), (1, .int a1), (2, .int a2)]) (fun _ => rfl) (fun v2 => ?_)
  refine s_goto (tgt := 25) hG dX9_rolled_72 (by decide) ?_
  refine s_lv [2, 3, 4, 1, 0] rfl ?_
  exact hk25 a1 a2 v1 v2 h

def m_X9_rolled_L66 (k25 : Int32 → Int32 → Int32 → Int32 → Hp → Option (Int32 × Hp)) (a1 : Int32) (a2 : Int32) (a4 : Int32) (t0 : Int32) (h : Hp) : Option (Int32 × Hp) := m_X9_rolled_L67 k25 a1 a2 a4 0 t0 h
set_option maxRecDepth 20000 in
set_option maxHeartbeats 4000000 in
theorem s_X9_rolled_L66 (w : WT) {x : CT} {l : Launch} (hx : xl x = l) (hG : Gd x cX9_rolled 5 RX9) (hE : Ge x (GM w)) (hR : Rm x 10) (hT : Rt x (some .int)) (k25 : Int32 → Int32 → Int32 → Int32 → Hp → Option (Int32 × Hp)) (hk25 : ∀ (a1 : Int32) (a2 : Int32) (a3 : Int32) (a4 : Int32) (h : Hp), Sn x 5 (gA (GM w)) (0, 0) (ζM x (GM w) inI) (gW (GM w) h) 25 [(0, .ref (gB (GM w) + 1)), (1, .int a1), (2, .int a2), (3, .int a3), (4, .int a4)] [] (k25 a1 a2 a3 a4 h)) (a1 : Int32) (a2 : Int32) (a4 : Int32) (t0 : Int32) (h : Hp) : Sn x 5 (gA (GM w)) (0, 0) (ζM x (GM w) inI) (gW (GM w) h) 66 [(0, .ref (gB (GM w) + 1)), (1, .int a1), (2, .int a2), (4, .int a4)] [.int t0] (m_X9_rolled_L66 k25 a1 a2 a4 t0 h) := by
  unfold m_X9_rolled_L66
  refine s_iconst hG dX9_rolled_66 ic_0 ?_
  exact s_X9_rolled_L67 w hx hG hE hR hT k25 hk25 a1 a2 a4 0 t0 h

def m_X9_rolled_L25 : Nat → Int32 → Int32 → Int32 → Int32 → Hp → Option (Int32 × Hp)
  | 0, _, _, _, _, _ => none
  | n + 1, a1, a2, a3, a4, h => if (gi h 1 1) ≤ a4 then if a2 = 1 then some (a3, h) else if a3 = 0 then some ((-5), h) else ck (inb a1 5) (cb (m_X9_onto (gi h 5 a1.toNatClampNeg) a1 h) fun v5 h6 => some (v5, h6)) else cb (m_X9_get a4 0 h) fun v7 h8 => if v7 = a1 then ck (inb a1 5) (cb (m_X9_comesTo (gi h8 5 a1.toNatClampNeg) a4 h8) fun v11 h12 => if v11 = 4 then m_X9_rolled_L67 (m_X9_rolled_L25 n) a1 a2 a4 1 a3 h12 else m_X9_rolled_L66 (m_X9_rolled_L25 n) a1 a2 a4 a3 h12) else m_X9_rolled_L66 (m_X9_rolled_L25 n) a1 a2 a4 a3 h8
set_option maxRecDepth 20000 in
set_option maxHeartbeats 4000000 in
theorem s_X9_rolled_L25 (w : WT) {x : CT} {l : Launch} (hx : xl x = l) (hG : Gd x cX9_rolled 5 RX9) (hE : Ge x (GM w)) (hR : Rm x 10) (hT : Rt x (some .int)) : ∀ (n : Nat) (a1 : Int32) (a2 : Int32) (a3 : Int32) (a4 : Int32) (h : Hp), Sn x 5 (gA (GM w)) (0, 0) (ζM x (GM w) inI) (gW (GM w) h) 25 [(0, .ref (gB (GM w) + 1)), (1, .int a1), (2, .int a2), (3, .int a3), (4, .int a4)] [] (m_X9_rolled_L25 n a1 a2 a3 a4 h) := by
  intro n
  induction n with
  | zero => intro a1 a2 a3 a4 h; exact s_none
  | succ n ih =>
    intro a1 a2 a3 a4 h
    rw [m_X9_rolled_L25]
    refine s_iload hG dX9_rolled_25 4 rfl ?_
    refine s_aload_n hG dX9_rolled_27 0 rfl rfl ?_
    refine s_getI hG hE dX9_rolled_28 fl_X9_13 rfl kM_1 ?_
    refine s_icmp_ge hG dX9_rolled_31 (tgt := 75) (by decide) (fun q1 => ?_) (fun q1 => ?_)
    · refine s_iload_n hG dX9_rolled_75 2 rfl rfl ?_
      refine s_iconst hG dX9_rolled_76 ic_1 ?_
      refine s_icmp_ne hG dX9_rolled_77 (tgt := 84) (by decide) (fun q2 => ?_) (fun q2 => ?_)
      · refine s_iload_n hG dX9_rolled_80 3 rfl rfl ?_
        refine s_goto (tgt := 104) hG dX9_rolled_81 (by decide) ?_
        exact s_iret hG hT dX9_rolled_104
      · refine s_iload_n hG dX9_rolled_84 3 rfl rfl ?_
        refine s_if_ne hG dX9_rolled_85 (tgt := 93) (by decide) (fun q3 => ?_) (fun q3 => ?_)
        · refine s_bipush hG dX9_rolled_88 bc_m5 ?_
          refine s_goto (tgt := 104) hG dX9_rolled_90 (by decide) ?_
          exact s_iret hG hT dX9_rolled_104
        · refine s_aload_n hG dX9_rolled_93 0 rfl rfl ?_
          refine s_aload_n hG dX9_rolled_94 0 rfl rfl ?_
          refine s_getS hG hE dX9_rolled_95 fl_X9_26 rfl kM_1 fM_9_5 (nzM kM_5) ?_
          refine s_iload_n hG dX9_rolled_98 1 rfl rfl ?_
          refine s_ck (fun q4 => ?_)
          refine s_iald hG hE dX9_rolled_99 kM_5 q4 ?_
          refine s_iload_n hG dX9_rolled_100 1 rfl rfl ?_
          refine s_callV (a := 1) (c := 9) (inj := inI) (As := [.int (gi h 5 a1.toNatClampNeg), .int a1]) (st := []) rfl hG hE dX9_rolled_101 hR (by decide) vv_X9_257 (by decide) rfl kM_1 rfl (Nat.le_of_ble_eq_true rfl) rfl (fun zv zh zq => c_X9_onto w (xl x) (gi h 5 a1.toNatClampNeg) a1 h zv zh zq) (fun v5 h6 => ?_)
          exact s_iret hG hT dX9_rolled_104
    · refine s_iload_n hG dX9_rolled_34 3 rfl rfl ?_
      refine s_aload_n hG dX9_rolled_35 0 rfl rfl ?_
      refine s_iload hG dX9_rolled_36 4 rfl ?_
      refine s_iconst hG dX9_rolled_38 ic_0 ?_
      refine s_callV (a := 1) (c := 9) (inj := inI) (As := [.int a4, .int 0]) (st := [.int a3]) rfl hG hE dX9_rolled_39 hR (by decide) vv_X9_148 (by decide) rfl kM_1 rfl (Nat.le_of_ble_eq_true rfl) rfl (fun zv zh zq => c_X9_get w (xl x) a4 0 h zv zh zq) (fun v7 h8 => ?_)
      refine s_iload_n hG dX9_rolled_42 1 rfl rfl ?_
      refine s_icmp_ne hG dX9_rolled_43 (tgt := 66) (by decide) (fun q9 => ?_) (fun q9 => ?_)
      · refine s_aload_n hG dX9_rolled_46 0 rfl rfl ?_
        refine s_aload_n hG dX9_rolled_47 0 rfl rfl ?_
        refine s_getS hG hE dX9_rolled_48 fl_X9_26 rfl kM_1 fM_9_5 (nzM kM_5) ?_
        refine s_iload_n hG dX9_rolled_51 1 rfl rfl ?_
        refine s_ck (fun q10 => ?_)
        refine s_iald hG hE dX9_rolled_52 kM_5 q10 ?_
        refine s_iload hG dX9_rolled_53 4 rfl ?_
        refine s_callV (a := 1) (c := 9) (inj := inI) (As := [.int (gi h8 5 a1.toNatClampNeg), .int a4]) (st := [.int a3]) rfl hG hE dX9_rolled_55 hR (by decide) vv_X9_263 (by decide) rfl kM_1 rfl (Nat.le_of_ble_eq_true rfl) rfl (fun zv zh zq => c_X9_comesTo w (xl x) (gi h8 5 a1.toNatClampNeg) a4 h8 zv zh zq) (fun v11 h12 => ?_)
        refine s_iconst hG dX9_rolled_58 ic_4 ?_
        refine s_icmp_ne hG dX9_rolled_59 (tgt := 66) (by decide) (fun q13 => ?_) (fun q13 => ?_)
        · refine s_iconst hG dX9_rolled_62 ic_1 ?_
          refine s_goto (tgt := 67) hG dX9_rolled_63 (by decide) ?_
          refine s_lv [0, 1, 2, 4] rfl ?_
          exact s_X9_rolled_L67 w hx hG hE hR hT (m_X9_rolled_L25 n) ih a1 a2 a4 1 a3 h12
        · refine s_lv [0, 1, 2, 4] rfl ?_
          exact s_X9_rolled_L66 w hx hG hE hR hT (m_X9_rolled_L25 n) ih a1 a2 a4 a3 h12
      · refine s_lv [0, 1, 2, 4] rfl ?_
        exact s_X9_rolled_L66 w hx hG hE hR hT (m_X9_rolled_L25 n) ih a1 a2 a4 a3 h8

def m_X9_rolled (a1 : Int32) (a2 : Int32) (h : Hp) : Option (Int32 × Hp) := cb (m_X9_isSuit a1 h) fun v1 h2 => if v1 = 0 then some ((-1), h2) else cb (m_X9_in a2 0 1 h2) fun v4 h5 => if v4 = 0 then some ((-1), h5) else m_X9_rolled_L25 FU a1 a2 0 0 h5
set_option maxRecDepth 20000 in
set_option maxHeartbeats 4000000 in
theorem s_X9_rolled (w : WT) {x : CT} {l : Launch} (hx : xl x = l) (hG : Gd x cX9_rolled 5 RX9) (hE : Ge x (GM w)) (hR : Rm x 10) (hT : Rt x (some .int)) (a1 : Int32) (a2 : Int32) (h : Hp) : Sn x 5 (gA (GM w)) (0, 0) (ζM x (GM w) inI) (gW (GM w) h) 0 [(0, .ref (gB (GM w) + 1)), (1, .int a1), (2, .int a2)] [] (m_X9_rolled a1 a2 h) := by
  unfold m_X9_rolled
  refine s_aload_n hG dX9_rolled_0 0 rfl rfl ?_
  refine s_iload_n hG dX9_rolled_1 1 rfl rfl ?_
  refine s_callV (a := 1) (c := 9) (inj := inI) (As := [.int a1]) (st := []) rfl hG hE dX9_rolled_2 hR (by decide) vv_X9_156 (by decide) rfl kM_1 rfl (Nat.le_of_ble_eq_true rfl) rfl (fun zv zh zq => c_X9_isSuit w (xl x) a1 h zv zh zq) (fun v1 h2 => ?_)
  refine s_if_eq hG dX9_rolled_5 (tgt := 18) (by decide) (fun q3 => ?_) (fun q3 => ?_)
  · refine s_iconst hG dX9_rolled_18 ic_m1 ?_
    exact s_iret hG hT dX9_rolled_19
  · refine s_aload_n hG dX9_rolled_8 0 rfl rfl ?_
    refine s_iload_n hG dX9_rolled_9 2 rfl rfl ?_
    refine s_iconst hG dX9_rolled_10 ic_0 ?_
    refine s_iconst hG dX9_rolled_11 ic_1 ?_
    refine s_callV (a := 1) (c := 9) (inj := inI) (As := [.int a2, .int 0, .int 1]) (st := []) rfl hG hE dX9_rolled_12 hR (by decide) vv_X9_144 (by decide) rfl kM_1 rfl (Nat.le_of_ble_eq_true rfl) rfl (fun zv zh zq => c_X9_in w (xl x) a2 0 1 h2 zv zh zq) (fun v4 h5 => ?_)
    refine s_if_ne hG dX9_rolled_15 (tgt := 20) (by decide) (fun q6 => ?_) (fun q6 => ?_)
    · refine s_iconst hG dX9_rolled_18 ic_m1 ?_
      exact s_iret hG hT dX9_rolled_19
    · refine s_iconst hG dX9_rolled_20 ic_0 ?_
      refine s_istore_n (lv' := [(3, .int 0), (0, .ref (gB (GM w) + 1)), (1, .int a1), (2, .int a2)]) hG dX9_rolled_21 rfl (by decide) rfl ?_
      refine s_iconst hG dX9_rolled_22 ic_0 ?_
      refine s_istore (lv' := [(4, .int 0), (3, .int 0), (0, .ref (gB (GM w) + 1)), (1, .int a1), (2, .int a2)]) hG dX9_rolled_23 (by decide) rfl ?_
      refine s_lv [2, 3, 4, 1, 0] rfl ?_
      exact s_X9_rolled_L25 w hx hG hE hR hT FU a1 a2 0 0 h5

theorem c_X9_rolled (w : WT) (l : Launch) (a1 : Int32) (a2 : Int32) (h : Hp) : ∀ v h', m_X9_rolled a1 a2 h = some (v, h') → MetM l (GM w) yX9_rolled cX9_rolled 5 (some .int) 10 [.ref (gB (GM w) + 1), .int a1, .int a2] h (inI v) h' :=
  met_of (by decide) (lokM w) (Nat.le_of_ble_eq_true rfl) (fun x hx hG hE hR hT => s_X9_rolled w hx hG hE hR hT a1 a2 h)
