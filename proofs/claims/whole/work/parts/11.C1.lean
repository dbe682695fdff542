theorem vv_X4_43 : VV RX4 43 yX4_readShare cX4_readShare 4 (some .boolean) 1 := ⟨⟨gw_at 616 (by decide +kernel) (by decide +kernel), gw_at 619 (by decide +kernel) (by decide +kernel), gw_at 88 (by decide +kernel) (by decide +kernel), by decide +kernel, by decide⟩, gw_at 618 (by decide +kernel) (by decide +kernel), gw_at 8 (by decide +kernel) (by decide +kernel)⟩
theorem vv_X4_39 : VV RX4 39 yX4_readWord cX4_readWord 6 (some .int) 0 := ⟨⟨gw_at 544 (by decide +kernel) (by decide +kernel), gw_at 547 (by decide +kernel) (by decide +kernel), gw_at 88 (by decide +kernel) (by decide +kernel), by decide +kernel, by decide⟩, gw_at 546 (by decide +kernel) (by decide +kernel), gw_at 5 (by decide +kernel) (by decide +kernel)⟩
theorem fl_X4_53 : FL RX4 53 3 11 := ⟨by decide, by decide, gw_at 366 (by decide +kernel) (by decide +kernel), rfl⟩
def m_X4_readClause_L30 (a1 : Int32) (h : Hp) : Option (Int32 × Hp) := cb (m_X4_readShare a1 h) fun v1 h2 => ck (isb v1) (some (v1, h2))
set_option maxRecDepth 20000 in
set_option maxHeartbeats 4000000 in
theorem s_X4_readClause_L30 (w : WT) {x : CT} {l : Launch} (hx : xl x = l) (hG : Gd x cX4_readClause 3 RX4) (hE : Ge x (GC w)) (hR : Rm x 88) (hT : Rt x (some .boolean)) (a1 : Int32) (h : Hp) : Sn x 3 (gA (GC w)) (0, 0) (ζM x (GC w) inI) (gW (GC w) h) 30 [(0, .ref (gB (GC w) + 9)), (1, .int a1)] [] (m_X4_readClause_L30 a1 h) := by
  unfold m_X4_readClause_L30
  refine s_aload_n hG dX4_readClause_30 0 rfl rfl ?_
  refine s_iload_n hG dX4_readClause_31 1 rfl rfl ?_
  refine s_callV (a := 9) (c := 4) (inj := inI) (As := [.int a1]) (st := []) rfl hG hE dX4_readClause_32 hR (by decide) vv_X4_43 (by decide) rfl kC_9 rfl (Nat.le_of_ble_eq_true rfl) rfl (fun zv zh zq => c_X4_readShare w (xl x) a1 h zv zh zq) (fun v1 h2 => ?_)
  refine s_ck (fun q3 => ?_)
  exact s_zret hG hT (isb_cases q3) dX4_readClause_35

def m_X4_readClause_L109 (a1 : Int32) (a2 : Int32) (h : Hp) : Option (Int32 × Hp) := ck (kC 3 (gr h 9 3)) (cb (m_X3_beginClause (gr h 9 3) a1 a2 h) fun _ h3 => cb (m_X4_readEitherN 12 0 h3) fun v4 h5 => ck (isb v4) (some (v4, h5)))
set_option maxRecDepth 20000 in
set_option maxHeartbeats 4000000 in
theorem s_X4_readClause_L109 (w : WT) {x : CT} {l : Launch} (hx : xl x = l) (hG : Gd x cX4_readClause 3 RX4) (hE : Ge x (GC w)) (hR : Rm x 88) (hT : Rt x (some .boolean)) (a1 : Int32) (a2 : Int32) (h : Hp) : Sn x 3 (gA (GC w)) (0, 0) (ζM x (GC w) inI) (gW (GC w) h) 109 [(0, .ref (gB (GC w) + 9)), (1, .int a1), (2, .int a2)] [] (m_X4_readClause_L109 a1 a2 h) := by
  unfold m_X4_readClause_L109
  refine s_aload_n hG dX4_readClause_109 0 rfl rfl ?_
  refine s_getR hG hE dX4_readClause_110 fl_X4_19 rfl kC_9 ?_
  refine s_ck (fun q1 => ?_)
  refine s_nn (nzC (kC_of q1)) ?_
  refine s_iload_n hG dX4_readClause_113 1 rfl rfl ?_
  refine s_iload_n hG dX4_readClause_114 2 rfl rfl ?_
  refine s_callV (a := gr h 9 3) (c := 3) (inj := inV) (As := [.int a1, .int a2]) (st := []) rfl hG hE dX4_readClause_115 hR (by decide) vv_X4_46 (by decide) rfl (kC_of q1) rfl (Nat.le_of_ble_eq_true rfl) rfl (fun zv zh zq => c_X3_beginClause w (xl x) (gr h 9 3) (kC_of q1) a1 a2 h zv zh zq) (fun v2 h3 => ?_)
  refine s_aload_n hG dX4_readClause_118 0 rfl rfl ?_
  refine s_iconst hG dX4_readClause_119 ic_0 ?_
  refine s_callV (a := 9) (c := 4) (inj := inI) (As := [.int 0]) (st := []) rfl hG hE dX4_readClause_120 hR (by decide) vv_X4_62 (by decide) rfl kC_9 rfl (Nat.le_of_ble_eq_true rfl) rfl (fun zv zh zq => c_X4_readEitherN w 12 (xl x) 0 h3 zv zh zq) (fun v4 h5 => ?_)
  refine s_ck (fun q6 => ?_)
  exact s_zret hG hT (isb_cases q6) dX4_readClause_123

def m_X4_readClause (h : Hp) : Option (Int32 × Hp) := cb (m_X4_readWord h) fun v1 h2 => if v1 < 0 then some (0, h2) else cb (m_X4_pass 32 h2) fun v4 h5 => if v4 = 0 then some (0, h5) else if v1 = 4 then m_X4_readClause_L30 v1 h5 else if v1 = 5 then m_X4_readClause_L30 v1 h5 else if v1 = 8 then ck (kC 3 (gr h5 9 3)) (cb (m_X3_beginClause (gr h5 9 3) v1 0 h5) fun _ h20 => ck (kC 3 (gr h20 9 3)) (cb (m_X4_readNumber h20) fun v22 h23 => hb (si h23 (gr h20 9 3) 11 v22) fun h24 => ck (kC 3 (gr h24 9 3)) (if (gi h24 (gr h24 9 3) 11) < 0 then some (0, h24) else some (1, h24)))) else if v1 = 2 then cb (m_X4_readOneOf 9 h5) fun v11 h12 => vb (1 + v11) fun v13 => if v13 = 0 then some (0, h12) else cb (m_X4_pass 32 h12) fun v15 h16 => if v15 = 0 then some (0, h16) else m_X4_readClause_L109 v1 v13 h16 else m_X4_readClause_L109 v1 0 h5
set_option maxRecDepth 20000 in
set_option maxHeartbeats 4000000 in
theorem s_X4_readClause (w : WT) {x : CT} {l : Launch} (hx : xl x = l) (hG : Gd x cX4_readClause 3 RX4) (hE : Ge x (GC w)) (hR : Rm x 88) (hT : Rt x (some .boolean)) (h : Hp) : Sn x 3 (gA (GC w)) (0, 0) (ζM x (GC w) inI) (gW (GC w) h) 0 [(0, .ref (gB (GC w) + 9))] [] (m_X4_readClause h) := by
  unfold m_X4_readClause
  refine s_aload_n hG dX4_readClause_0 0 rfl rfl ?_
  refine s_callV (a := 9) (c := 4) (inj := inI) (As := []) (st := []) rfl hG hE dX4_readClause_1 hR (by decide) vv_X4_39 (by decide) rfl kC_9 rfl (Nat.le_of_ble_eq_true rfl) rfl (fun zv zh zq => c_X4_readWord w (xl x) h zv zh zq) (fun v1 h2 => ?_)
  refine s_istore_n (lv' := [(1, .int v1), (0, .ref (gB (GC w) + 9))]) hG dX4_readClause_4 rfl (by decide) rfl ?_
  refine s_iload_n hG dX4_readClause_5 0 rfl rfl ?_
  refine s_if_lt hG dX4_readClause_6 (tgt := 18) (by decide) (fun q3 => ?_) (fun q3 => ?_)
  · refine s_iconst hG dX4_readClause_18 ic_0 ?_
    exact s_zret hG hT (by decide) dX4_readClause_19
  · refine s_aload_n hG dX4_readClause_9 1 rfl rfl ?_
    refine s_bipush hG dX4_readClause_10 bc_32 ?_
    refine s_callV (a := 9) (c := 4) (inj := inI) (As := [.int 32]) (st := []) rfl hG hE dX4_readClause_12 hR (by decide) vv_X4_35 (by decide) rfl kC_9 rfl (Nat.le_of_ble_eq_true rfl) rfl (fun zv zh zq => c_X4_pass w (xl x) 32 h2 zv zh zq) (fun v4 h5 => ?_)
    refine s_if_ne hG dX4_readClause_15 (tgt := 20) (by decide) (fun q6 => ?_) (fun q6 => ?_)
    · refine s_iconst hG dX4_readClause_18 ic_0 ?_
      exact s_zret hG hT (by decide) dX4_readClause_19
    · refine s_iload_n hG dX4_readClause_20 0 rfl rfl ?_
      refine s_iconst hG dX4_readClause_21 ic_4 ?_
      refine s_icmp_eq hG dX4_readClause_22 (tgt := 30) (by decide) (fun q7 => ?_) (fun q7 => ?_)
      · refine s_lv [1, 0] rfl ?_
        exact s_X4_readClause_L30 w hx hG hE hR hT v1 h5
      · refine s_iload_n hG dX4_readClause_25 0 rfl rfl ?_
        refine s_iconst hG dX4_readClause_26 ic_5 ?_
        refine s_icmp_ne hG dX4_readClause_27 (tgt := 36) (by decide) (fun q8 => ?_) (fun q8 => ?_)
        · refine s_lv [1, 0] rfl ?_
          exact s_X4_readClause_L30 w hx hG hE hR hT v1 h5
        · refine s_iload_n hG dX4_readClause_36 0 rfl rfl ?_
          refine s_bipush hG dX4_readClause_37 bc_8 ?_
          refine s_icmp_ne hG dX4_readClause_39 (tgt := 78) (by decide) (fun q9 => ?_) (fun q9 => ?_)
          · refine s_aload_n hG dX4_readClause_42 1 rfl rfl ?_
            refine s_getR hG hE dX4_readClause_43 fl_X4_19 rfl kC_9 ?_
            refine s_ck (fun q18 => ?_)
            refine s_nn (nzC (kC_of q18)) ?_
            refine s_iload_n hG dX4_readClause_46 0 rfl rfl ?_
            refine s_iconst hG dX4_readClause_47 ic_0 ?_
            refine s_callV (a := gr h5 9 3) (c := 3) (inj := inV) (As := [.int v1, .int 0]) (st := []) rfl hG hE dX4_readClause_48 hR (by decide) vv_X4_46 (by decide) rfl (kC_of q18) rfl (Nat.le_of_ble_eq_true rfl) rfl (fun zv zh zq => c_X3_beginClause w (xl x) (gr h5 9 3) (kC_of q18) v1 0 h5 zv zh zq) (fun v19 h20 => ?_)
            refine s_aload_n hG dX4_readClause_51 1 rfl rfl ?_
            refine s_getR hG hE dX4_readClause_52 fl_X4_19 rfl kC_9 ?_
            refine s_ck (fun q21 => ?_)
            refine s_nn (nzC (kC_of q21)) ?_
            refine s_aload_n hG dX4_readClause_55 1 rfl rfl ?_
            refine s_callV (a := 9) (c := 4) (inj := inI) (As := []) (st := [.ref (gB (GC w) + (gr h20 9 3))]) rfl hG hE dX4_readClause_56 hR (by decide) vv_X4_50 (by decide) rfl kC_9 rfl (Nat.le_of_ble_eq_true rfl) rfl (fun zv zh zq => c_X4_readNumber w (xl x) h20 zv zh zq) (fun v22 h23 => ?_)
            refine s_putI hG hE dX4_readClause_59 fl_X4_53 rfl rfl (kC_of q21) (fun h24 => ?_)
            refine s_aload_n hG dX4_readClause_62 1 rfl rfl ?_
            refine s_getR hG hE dX4_readClause_63 fl_X4_19 rfl kC_9 ?_
            refine s_ck (fun q25 => ?_)
            refine s_nn (nzC (kC_of q25)) ?_
            refine s_getI hG hE dX4_readClause_66 fl_X4_53 rfl (kC_of q25) ?_
            refine s_if_lt hG dX4_readClause_69 (tgt := 76) (by decide) (fun q26 => ?_) (fun q26 => ?_)
            · refine s_iconst hG dX4_readClause_76 ic_0 ?_
              exact s_zret hG hT (by decide) dX4_readClause_77
            · refine s_iconst hG dX4_readClause_72 ic_1 ?_
              refine s_goto (tgt := 77) hG dX4_readClause_73 (by decide) ?_
              exact s_zret hG hT (by decide) dX4_readClause_77
          · refine s_iconst hG dX4_readClause_78 ic_0 ?_
            refine s_istore_n (lv' := [(2, .int 0), (1, .int v1), (0, .ref (gB (GC w) + 9))]) hG dX4_readClause_79 rfl (by decide) rfl ?_
            refine s_iload_n hG dX4_readClause_80 1 rfl rfl ?_
            refine s_iconst hG dX4_readClause_81 ic_2 ?_
            refine s_icmp_ne hG dX4_readClause_82 (tgt := 109) (by decide) (fun q10 => ?_) (fun q10 => ?_)
            · refine s_iconst hG dX4_readClause_85 ic_1 ?_
              refine s_aload_n hG dX4_readClause_86 2 rfl rfl ?_
              refine s_ldcK hG hE 9 (by decide) rfl dX4_readClause_87 ?_
              refine s_callV (a := 9) (c := 4) (inj := inI) (As := [.ref (gK (GC w) 9)]) (st := [.int 1]) rfl hG hE dX4_readClause_89 hR (by decide) vv_X4_58 (by decide) rfl kC_9 rfl (Nat.le_of_ble_eq_true rfl) rfl (fun zv zh zq => c_X4_readOneOf w (xl x) 9 ((by decide)) h5 zv zh zq) (fun v11 h12 => ?_)
              refine s_iadd hG dX4_readClause_92 ?_
              refine s_vI (fun v13 => ?_)
              refine s_istore_n (lv' := [(2, .int v13), (1, .int v1), (0, .ref (gB (GC w) + 9))]) hG dX4_readClause_93 rfl (by decide) rfl ?_
              refine s_iload_n hG dX4_readClause_94 0 rfl rfl ?_
              refine s_if_eq hG dX4_readClause_95 (tgt := 107) (by decide) (fun q14 => ?_) (fun q14 => ?_)
              · refine s_iconst hG dX4_readClause_107 ic_0 ?_
                exact s_zret hG hT (by decide) dX4_readClause_108
              · refine s_aload_n hG dX4_readClause_98 2 rfl rfl ?_
                refine s_bipush hG dX4_readClause_99 bc_32 ?_
                refine s_callV (a := 9) (c := 4) (inj := inI) (As := [.int 32]) (st := []) rfl hG hE dX4_readClause_101 hR (by decide) vv_X4_35 (by decide) rfl kC_9 rfl (Nat.le_of_ble_eq_true rfl) rfl (fun zv zh zq => c_X4_pass w (xl x) 32 h12 zv zh zq) (fun v15 h16 => ?_)
                refine s_if_ne hG dX4_readClause_104 (tgt := 109) (by decide) (fun q17 => ?_) (fun q17 => ?_)
                · refine s_iconst hG dX4_readClause_107 ic_0 ?_
                  exact s_zret hG hT (by decide) dX4_readClause_108
                · refine s_lv [2, 1, 0] rfl ?_
                  exact s_X4_readClause_L109 w hx hG hE hR hT v1 v13 h16
            · refine s_lv [2, 1, 0] rfl ?_
              exact s_X4_readClause_L109 w hx hG hE hR hT v1 0 h5

theorem c_X4_readClause (w : WT) (l : Launch) (h : Hp) : ∀ v h', m_X4_readClause h = some (v, h') → MetM l (GC w) yX4_readClause cX4_readClause 3 (some .boolean) 88 [.ref (gB (GC w) + 9)] h (inI v) h' :=
  met_of (by decide) (lokC w) (Nat.le_of_ble_eq_true rfl) (fun x hx hG hE hR hT => s_X4_readClause w hx hG hE hR hT h)
theorem vv_X4_31 : VV RX4 31 yX4_readClause cX4_readClause 3 (some .boolean) 0 := ⟨⟨gw_at 540 (by decide +kernel) (by decide +kernel), gw_at 543 (by decide +kernel) (by decide +kernel), gw_at 88 (by decide +kernel) (by decide +kernel), by decide +kernel, by decide⟩, gw_at 542 (by decide +kernel) (by decide +kernel), gw_at 4 (by decide +kernel) (by decide +kernel)⟩
theorem bc_59 : (Int8.ofInt 59).toInt32 = 59 := by decide
theorem nC_4_3 : SC 9 3 = none := rfl
theorem vv_X4_23 : VV RX4 23 yX3_clear cX3_clear 1 none 0 := ⟨⟨gw_at 536 (by decide +kernel) (by decide +kernel), gw_at 539 (by decide +kernel) (by decide +kernel), gw_at 94 (by decide +kernel) (by decide +kernel), by decide +kernel, by decide⟩, gw_at 537 (by decide +kernel) (by decide +kernel), gw_at 538 (by decide +kernel) (by decide +kernel)⟩
def m_X4_readInto_L19 : Nat → Int32 → Hp → Option (Int32 × Hp)
  | 0, _, _ => none
  | n + 1, a2, h => if 8 < a2 then some (0, h) else cb (m_X4_readClause h) fun v2 h3 => if v2 = 0 then some (0, h3) else if (gi h3 9 2) = (gi h3 9 1) then some (1, h3) else if a2 = 8 then some (0, h3) else cb (m_X4_pass 59 h3) fun v7 h8 => if v7 = 0 then some (0, h8) else vb (a2 + 1) fun v10 => m_X4_readInto_L19 n v10 h8
set_option maxRecDepth 20000 in
set_option maxHeartbeats 4000000 in
theorem s_X4_readInto_L19 (w : WT) {x : CT} {l : Launch} (hx : xl x = l) (hG : Gd x cX4_readInto 3 RX4) (hE : Ge x (GC w)) (hR : Rm x 89) (hT : Rt x (some .boolean)) : ∀ (n : Nat) (a2 : Int32) (h : Hp), Sn x 3 (gA (GC w)) (0, 0) (ζM x (GC w) inI) (gW (GC w) h) 19 [(0, .ref (gB (GC w) + 9)), (2, .int a2)] [] (m_X4_readInto_L19 n a2 h) := by
  intro n
  induction n with
  | zero => intro a2 h; exact s_none
  | succ n ih =>
    intro a2 h
    rw [m_X4_readInto_L19]
    refine s_iload_n hG dX4_readInto_19 1 rfl rfl ?_
    refine s_bipush hG dX4_readInto_20 bc_8 ?_
    refine s_icmp_gt hG dX4_readInto_22 (tgt := 70) (by decide) (fun q1 => ?_) (fun q1 => ?_)
    · refine s_iconst hG dX4_readInto_70 ic_0 ?_
      exact s_zret hG hT (by decide) dX4_readInto_71
    · refine s_aload_n hG dX4_readInto_25 0 rfl rfl ?_
      refine s_callV (a := 9) (c := 4) (inj := inI) (As := []) (st := []) rfl hG hE dX4_readInto_26 hR (by decide) vv_X4_31 (by decide) rfl kC_9 rfl (Nat.le_of_ble_eq_true rfl) rfl (fun zv zh zq => c_X4_readClause w (xl x) h zv zh zq) (fun v2 h3 => ?_)
      refine s_if_ne hG dX4_readInto_29 (tgt := 34) (by decide) (fun q4 => ?_) (fun q4 => ?_)
      · refine s_iconst hG dX4_readInto_32 ic_0 ?_
        exact s_zret hG hT (by decide) dX4_readInto_33
      · refine s_aload_n hG dX4_readInto_34 0 rfl rfl ?_
        refine s_getI hG hE dX4_readInto_35 fl_X4_28 rfl kC_9 ?_
        refine s_aload_n hG dX4_readInto_38 0 rfl rfl ?_
        refine s_getI hG hE dX4_readInto_39 fl_X4_15 rfl kC_9 ?_
        refine s_icmp_ne hG dX4_readInto_42 (tgt := 47) (by decide) (fun q5 => ?_) (fun q5 => ?_)
        · refine s_iconst hG dX4_readInto_45 ic_1 ?_
          exact s_zret hG hT (by decide) dX4_readInto_46
        · refine s_iload_n hG dX4_readInto_47 1 rfl rfl ?_
          refine s_bipush hG dX4_readInto_48 bc_8 ?_
          refine s_icmp_eq hG dX4_readInto_50 (tgt := 62) (by decide) (fun q6 => ?_) (fun q6 => ?_)
          · refine s_iconst hG dX4_readInto_62 ic_0 ?_
            exact s_zret hG hT (by decide) dX4_readInto_63
          · refine s_aload_n hG dX4_readInto_53 0 rfl rfl ?_
            refine s_bipush hG dX4_readInto_54 bc_59 ?_
            refine s_callV (a := 9) (c := 4) (inj := inI) (As := [.int 59]) (st := []) rfl hG hE dX4_readInto_56 hR (by decide) vv_X4_35 (by decide) rfl kC_9 rfl (Nat.le_of_ble_eq_true rfl) rfl (fun zv zh zq => c_X4_pass w (xl x) 59 h3 zv zh zq) (fun v7 h8 => ?_)
            refine s_if_ne hG dX4_readInto_59 (tgt := 64) (by decide) (fun q9 => ?_) (fun q9 => ?_)
            · refine s_iconst hG dX4_readInto_62 ic_0 ?_
              exact s_zret hG hT (by decide) dX4_readInto_63
            · refine s_iinc hG dX4_readInto_64 1 rfl ic_1 (by decide) (fun v10 => [(2, .int v10), (0, .ref (gB (GC w) + 9))]) (fun _ => rfl) (fun v10 => ?_)
              refine s_goto (tgt := 19) hG dX4_readInto_67 (by decide) ?_
              refine s_lv [1, 0] rfl ?_
              exact ih v10 h8

def m_X4_readInto (a1 : Nat) (h : Hp) : Option (Int32 × Hp) := hb (sr h 9 3 a1) fun h1 => ck (kC 3 (gr h1 9 3)) (cb (m_X3_clear (gr h1 9 3) h1) fun _ h4 => hb (si h4 9 2 0) fun h5 => m_X4_readInto_L19 FU 1 h5)
set_option maxRecDepth 20000 in
set_option maxHeartbeats 4000000 in
theorem s_X4_readInto (w : WT) {x : CT} {l : Launch} (hx : xl x = l) (hG : Gd x cX4_readInto 3 RX4) (hE : Ge x (GC w)) (hR : Rm x 89) (hT : Rt x (some .boolean)) (a1 : Nat) (p1 : LC a1 = (4, 0)) (h : Hp) : Sn x 3 (gA (GC w)) (0, 0) (ζM x (GC w) inI) (gW (GC w) h) 0 [(0, .ref (gB (GC w) + 9)), (1, .ref (gB (GC w) + a1))] [] (m_X4_readInto a1 h) := by
  unfold m_X4_readInto
  refine s_aload_n hG dX4_readInto_0 0 rfl rfl ?_
  refine s_aload_n hG dX4_readInto_1 1 rfl rfl ?_
  refine s_putR hG hE dX4_readInto_2 fl_X4_19 rfl rfl kC_9 (nzC p1) nC_4_3 (fun h1 => ?_)
  refine s_aload_n hG dX4_readInto_5 0 rfl rfl ?_
  refine s_getR hG hE dX4_readInto_6 fl_X4_19 rfl kC_9 ?_
  refine s_ck (fun q2 => ?_)
  refine s_nn (nzC (kC_of q2)) ?_
  refine s_callV (a := gr h1 9 3) (c := 3) (inj := inV) (As := []) (st := []) rfl hG hE dX4_readInto_9 hR (by decide) vv_X4_23 (by decide) rfl (kC_of q2) rfl (Nat.le_of_ble_eq_true rfl) rfl (fun zv zh zq => c_X3_clear w (xl x) (gr h1 9 3) (kC_of q2) h1 zv zh zq) (fun v3 h4 => ?_)
  refine s_aload_n hG dX4_readInto_12 0 rfl rfl ?_
  refine s_iconst hG dX4_readInto_13 ic_0 ?_
  refine s_putI hG hE dX4_readInto_14 fl_X4_28 rfl rfl kC_9 (fun h5 => ?_)
  refine s_iconst hG dX4_readInto_17 ic_1 ?_
  refine s_istore_n (lv' := [(2, .int 1), (0, .ref (gB (GC w) + 9)), (1, .ref (gB (GC w) + a1))]) hG dX4_readInto_18 rfl (by decide) rfl ?_
  refine s_lv [1, 0] rfl ?_
  exact s_X4_readInto_L19 w hx hG hE hR hT FU 1 h5

theorem c_X4_readInto (w : WT) (l : Launch) (a1 : Nat) (p1 : LC a1 = (4, 0)) (h : Hp) : ∀ v h', m_X4_readInto a1 h = some (v, h') → MetM l (GC w) yX4_readInto cX4_readInto 3 (some .boolean) 89 [.ref (gB (GC w) + 9), .ref (gB (GC w) + a1)] h (inI v) h' :=
  met_of (by decide) (lokC w) (Nat.le_of_ble_eq_true rfl) (fun x hx hG hE hR hT => s_X4_readInto w hx hG hE hR hT a1 p1 h)
theorem fl_X8_35 : FL RX8 35 8 5 := ⟨by decide, by decide, gw_at 416 (by decide +kernel) (by decide +kernel), rfl⟩
theorem fC_8_5 : SC 1 5 = some 7 := rfl
theorem kC_7 : LC 7 = (24, 6) := rfl
theorem eC_8_5 {i : Int32} (hi : inb i 6 = true) : SC 7 i.toNatClampNeg = some (144 + 6 * i.toNatClampNeg) ∧ LC (144 + 6 * i.toNatClampNeg) = (4, 0) := by
  have h := inb_lt hi
  generalize i.toNatClampNeg = k at h
  exact (show ∀ k, k < 6 → SC 7 k = some (144 + 6 * k) ∧ LC (144 + 6 * k) = (4, 0) by decide +kernel) k h
theorem vv_X8_139 : VV RX8 139 yX4_readInto cX4_readInto 3 (some .boolean) 1 := ⟨⟨gw_at 532 (by decide +kernel) (by decide +kernel), gw_at 535 (by decide +kernel) (by decide +kernel), gw_at 88 (by decide +kernel) (by decide +kernel), by decide +kernel, by decide⟩, gw_at 533 (by decide +kernel) (by decide +kernel), gw_at 534 (by decide +kernel) (by decide +kernel)⟩
theorem bc_m10 : (Int8.ofInt (-10)).toInt32 = (-10) := by decide
theorem fl_X8_143 : FL RX8 143 4 2 := ⟨by decide, by decide, gw_at 131 (by decide +kernel) (by decide +kernel), rfl⟩
def m_X8_law (h : Hp) : Option (Int32 × Hp) := if (gi h 1 13) < 6 then ck (inb (gi h 1 13) 6) (cb (m_X4_readInto (144 + 6 * (gi h 1 13).toNatClampNeg) h) fun v3 h4 => hb (si h4 9 1 0) fun h5 => if v3 = 0 then some ((-10) - (gi h5 9 2), h5) else hb (si h5 1 13 ((gi h5 1 13) + 1)) fun h7 => some ((gi h7 1 13) - 1, h7)) else some ((-4), h)
set_option maxRecDepth 20000 in
set_option maxHeartbeats 4000000 in
theorem s_X8_law (w : WT) {x : CT} {l : Launch} (hx : xl x = l) (hG : Gd x cX8_law 2 RX8) (hE : Ge x (GC w)) (hR : Rm x 90) (hT : Rt x (some .int)) (h : Hp) : Sn x 2 (gA (GC w)) (0, 0) (ζM x (GC w) inI) (gW (GC w) h) 0 [(0, .ref (gB (GC w) + 1))] [] (m_X8_law h) := by
  unfold m_X8_law
  refine s_aload_n hG dX8_law_0 0 rfl rfl ?_
  refine s_getI hG hE dX8_law_1 fl_X8_136 rfl kC_1 ?_
  refine s_bipush hG dX8_law_4 bc_6 ?_
  refine s_icmp_lt hG dX8_law_6 (tgt := 12) (by decide) (fun q1 => ?_) (fun q1 => ?_)
  · refine s_aload_n hG dX8_law_12 0 rfl rfl ?_
    refine s_getS hG hE dX8_law_13 fl_X8_48 rfl kC_1 fC_8_7 (nzC kC_9) ?_
    refine s_aload_n hG dX8_law_16 0 rfl rfl ?_
    refine s_getS hG hE dX8_law_17 fl_X8_35 rfl kC_1 fC_8_5 (nzC kC_7) ?_
    refine s_aload_n hG dX8_law_20 0 rfl rfl ?_
    refine s_getI hG hE dX8_law_21 fl_X8_136 rfl kC_1 ?_
    refine s_ck (fun q2 => ?_)
    refine s_aaldS (j := 1) hG hE dX8_law_24 (by decide) kC_7 q2 ((eC_8_5 q2).1) (nzC ((eC_8_5 q2).2)) ?_
    refine s_callV (a := 9) (c := 4) (inj := inI) (As := [.ref (gB (GC w) + (144 + 6 * (gi h 1 13).toNatClampNeg))]) (st := []) rfl hG hE dX8_law_25 hR (by decide) vv_X8_139 (by decide) rfl kC_9 rfl (Nat.le_of_ble_eq_true rfl) rfl (fun zv zh zq => c_X4_readInto w (xl x) (144 + 6 * (gi h 1 13).toNatClampNeg) ((eC_8_5 q2).2) h zv zh zq) (fun v3 h4 => ?_)
    refine s_istore_n (lv' := [(1, .int v3), (0, .ref (gB (GC w) + 1))]) hG dX8_law_28 rfl (by decide) rfl ?_
    refine s_aload_n hG dX8_law_29 1 rfl rfl ?_
    refine s_getS hG hE dX8_law_30 fl_X8_48 rfl kC_1 fC_8_7 (nzC kC_9) ?_
    refine s_iconst hG dX8_law_33 ic_0 ?_
    refine s_putI hG hE dX8_law_34 fl_X8_129 rfl rfl kC_9 (fun h5 => ?_)
    refine s_iload_n hG dX8_law_37 0 rfl rfl ?_
    refine s_if_ne hG dX8_law_38 (tgt := 52) (by decide) (fun q6 => ?_) (fun q6 => ?_)
    · refine s_bipush hG dX8_law_41 bc_m10 ?_
      refine s_aload_n hG dX8_law_43 1 rfl rfl ?_
      refine s_getS hG hE dX8_law_44 fl_X8_48 rfl kC_1 fC_8_7 (nzC kC_9) ?_
      refine s_getI hG hE dX8_law_47 fl_X8_143 rfl kC_9 ?_
      refine s_isub hG dX8_law_50 ?_
      exact s_iret hG hT dX8_law_51
    · refine s_aload_n hG dX8_law_52 1 rfl rfl ?_
      refine s_dup hG dX8_law_53 rfl ?_
      refine s_getI hG hE dX8_law_54 fl_X8_136 rfl kC_1 ?_
      refine s_iconst hG dX8_law_57 ic_1 ?_
      refine s_iadd hG dX8_law_58 ?_
      refine s_putI hG hE dX8_law_59 fl_X8_136 rfl rfl kC_1 (fun h7 => ?_)
      refine s_aload_n hG dX8_law_62 1 rfl rfl ?_
      refine s_getI hG hE dX8_law_63 fl_X8_136 rfl kC_1 ?_
      refine s_iconst hG dX8_law_66 ic_1 ?_
      refine s_isub hG dX8_law_67 ?_
      exact s_iret hG hT dX8_law_68
  · refine s_bipush hG dX8_law_9 bc_m4 ?_
    exact s_iret hG hT dX8_law_11

theorem c_X8_law (w : WT) (l : Launch) (h : Hp) : ∀ v h', m_X8_law h = some (v, h') → MetM l (GC w) yX8_law cX8_law 2 (some .int) 90 [.ref (gB (GC w) + 1)] h (inI v) h' :=
  met_of (by decide) (lokC w) (Nat.le_of_ble_eq_true rfl) (fun x hx hG hE hR hT => s_X8_law w hx hG hE hR hT h)
theorem fl_X2_39 : FL RX2 39 2 6 := ⟨by decide, by decide, gw_at 264 (by decide +kernel) (by decide +kernel), rfl⟩
theorem iC_2 {a : Nat} (h : LC a = (3, 0)) : a = 11 ∨ a = 50 := by
  have hl : a < 192 := layC_lt (by rw [h]; exact Nat.succ_ne_zero _)
  exact (show ∀ a, a < 192 → LC a = (3, 0) → a = 11 ∨ a = 50 by decide +kernel) a hl h
theorem nC_2_6 {a : Nat} (h : LC a = (3, 0)) : SC a 6 = none := by
  rcases iC_2 h with rfl | rfl <;> rfl
theorem fl_X2_43 : FL RX2 43 2 7 := ⟨by decide, by decide, gw_at 265 (by decide +kernel) (by decide +kernel), rfl⟩
theorem fl_X2_47 : FL RX2 47 2 8 := ⟨by decide, by decide, gw_at 266 (by decide +kernel) (by decide +kernel), rfl⟩
theorem fl_X2_50 : FL RX2 50 2 10 := ⟨by decide, by decide, gw_at 268 (by decide +kernel) (by decide +kernel), rfl⟩
def m_X2_open (a0 : Nat) (a1 : Nat) (a2 : Int32) (a3 : Int32) (h : Hp) : Option (Unit × Hp) := hb (sr h a0 6 a1) fun h1 => hb (si h1 a0 7 a2) fun h2 => hb (si h2 a0 8 a3) fun h3 => hb (si h3 a0 10 0) fun h4 => some ((), h4)
set_option maxRecDepth 20000 in
set_option maxHeartbeats 4000000 in
theorem s_X2_open (w : WT) {x : CT} {l : Launch} (hx : xl x = l) (hG : Gd x cX2_open 4 RX2) (hE : Ge x (GC w)) (hR : Rm x 1) (hT : Rt x none) (a0 : Nat) (p0 : LC a0 = (3, 0)) (a1 : Nat) (p1 : LC a1 = (4, 0)) (a2 : Int32) (a3 : Int32) (h : Hp) : Sn x 4 (gA (GC w)) (0, 0) (ζM x (GC w) inV) (gW (GC w) h) 0 [(0, .ref (gB (GC w) + a0)), (1, .ref (gB (GC w) + a1)), (2, .int a2), (3, .int a3)] [] (m_X2_open a0 a1 a2 a3 h) := by
  unfold m_X2_open
  refine s_aload_n hG dX2_open_0 0 rfl rfl ?_
  refine s_aload_n hG dX2_open_1 1 rfl rfl ?_
  refine s_putR hG hE dX2_open_2 fl_X2_39 rfl rfl p0 (nzC p1) (nC_2_6 p0) (fun h1 => ?_)
  refine s_aload_n hG dX2_open_5 0 rfl rfl ?_
  refine s_iload_n hG dX2_open_6 2 rfl rfl ?_
  refine s_putI hG hE dX2_open_7 fl_X2_43 rfl rfl p0 (fun h2 => ?_)
  refine s_aload_n hG dX2_open_10 0 rfl rfl ?_
  refine s_iload_n hG dX2_open_11 3 rfl rfl ?_
  refine s_putI hG hE dX2_open_12 fl_X2_47 rfl rfl p0 (fun h3 => ?_)
  refine s_aload_n hG dX2_open_15 0 rfl rfl ?_
  refine s_iconst hG dX2_open_16 ic_0 ?_
  refine s_putI hG hE dX2_open_17 fl_X2_50 rfl rfl p0 (fun h4 => ?_)
  exact s_vret hG hT dX2_open_20

theorem c_X2_open (w : WT) (l : Launch) (a0 : Nat) (p0 : LC a0 = (3, 0)) (a1 : Nat) (p1 : LC a1 = (4, 0)) (a2 : Int32) (a3 : Int32) (h : Hp) : ∀ v h', m_X2_open a0 a1 a2 a3 h = some (v, h') → MetM l (GC w) yX2_open cX2_open 4 none 1 [.ref (gB (GC w) + a0), .ref (gB (GC w) + a1), .int a2, .int a3] h (inV v) h' :=
  met_of (by decide) (lokC w) (Nat.le_of_ble_eq_true rfl) (fun x hx hG hE hR hT => s_X2_open w hx hG hE hR hT a0 p0 a1 p1 a2 a3 h)
def m_X0_copy (a0 : Nat) (a1 : Nat) (h : Hp) : Option (Unit × Hp) := hb (si h a0 0 (gi h a1 0)) fun h1 => hb (si h1 a0 1 (gi h1 a1 1)) fun h2 => hb (si h2 a0 2 (gi h2 a1 2)) fun h3 => hb (si h3 a0 3 (gi h3 a1 3)) fun h4 => hb (si h4 a0 4 (gi h4 a1 4)) fun h5 => hb (si h5 a0 5 (gi h5 a1 5)) fun h6 => hb (si h6 a0 6 (gi h6 a1 6)) fun h7 => hb (si h7 a0 7 (gi h7 a1 7)) fun h8 => hb (si h8 a0 8 (gi h8 a1 8)) fun h9 => hb (si h9 a0 9 (gi h9 a1 9)) fun h10 => some ((), h10)
set_option maxRecDepth 20000 in
set_option maxHeartbeats 4000000 in
theorem s_X0_copy (w : WT) {x : CT} {l : Launch} (hx : xl x = l) (hG : Gd x cX0_copy 2 RX0) (hE : Ge x (GC w)) (hR : Rm x 1) (hT : Rt x none) (a0 : Nat) (p0 : LC a0 = (1, 0)) (a1 : Nat) (p1 : LC a1 = (1, 0)) (h : Hp) : Sn x 2 (gA (GC w)) (0, 0) (ζM x (GC w) inV) (gW (GC w) h) 0 [(0, .ref (gB (GC w) + a0)), (1, .ref (gB (GC w) + a1))] [] (m_X0_copy a0 a1 h) := by
  unfold m_X0_copy
  refine s_aload_n hG dX0_copy_0 0 rfl rfl ?_
  refine s_aload_n hG dX0_copy_1 1 rfl rfl ?_
  refine s_getI hG hE dX0_copy_2 fl_X0_9 rfl p1 ?_
  refine s_putI hG hE dX0_copy_5 fl_X0_9 rfl rfl p0 (fun h1 => ?_)
  refine s_aload_n hG dX0_copy_8 0 rfl rfl ?_
  refine s_aload_n hG dX0_copy_9 1 rfl rfl ?_
  refine s_getI hG hE dX0_copy_10 fl_X0_15 rfl p1 ?_
  refine s_putI hG hE dX0_copy_13 fl_X0_15 rfl rfl p0 (fun h2 => ?_)
  refine s_aload_n hG dX0_copy_16 0 rfl rfl ?_
  refine s_aload_n hG dX0_copy_17 1 rfl rfl ?_
  refine s_getI hG hE dX0_copy_18 fl_X0_18 rfl p1 ?_
  refine s_putI hG hE dX0_copy_21 fl_X0_18 rfl rfl p0 (fun h3 => ?_)
  refine s_aload_n hG dX0_copy_24 0 rfl rfl ?_
  refine s_aload_n hG dX0_copy_25 1 rfl rfl ?_
  refine s_getI hG hE dX0_copy_26 fl_X0_21 rfl p1 ?_
  refine s_putI hG hE dX0_copy_29 fl_X0_21 rfl rfl p0 (fun h4 => ?_)
  refine s_aload_n hG dX0_copy_32 0 rfl rfl ?_
  refine s_aload_n hG dX0_copy_33 1 rfl rfl ?_
  refine s_getI hG hE dX0_copy_34 fl_X0_24 rfl p1 ?_
  refine s_putI hG hE dX0_copy_37 fl_X0_24 rfl rfl p0 (fun h5 => ?_)
  refine s_aload_n hG dX0_copy_40 0 rfl rfl ?_
  refine s_aload_n hG dX0_copy_41 1 rfl rfl ?_
  refine s_getI hG hE dX0_copy_42 fl_X0_27 rfl p1 ?_
  refine s_putI hG hE dX0_copy_45 fl_X0_27 rfl rfl p0 (fun h6 => ?_)
  refine s_aload_n hG dX0_copy_48 0 rfl rfl ?_
  refine s_aload_n hG dX0_copy_49 1 rfl rfl ?_
  refine s_getI hG hE dX0_copy_50 fl_X0_30 rfl p1 ?_
  refine s_putI hG hE dX0_copy_53 fl_X0_30 rfl rfl p0 (fun h7 => ?_)
  refine s_aload_n hG dX0_copy_56 0 rfl rfl ?_
  refine s_aload_n hG dX0_copy_57 1 rfl rfl ?_
  refine s_getI hG hE dX0_copy_58 fl_X0_33 rfl p1 ?_
  refine s_putI hG hE dX0_copy_61 fl_X0_33 rfl rfl p0 (fun h8 => ?_)
  refine s_aload_n hG dX0_copy_64 0 rfl rfl ?_
  refine s_aload_n hG dX0_copy_65 1 rfl rfl ?_
  refine s_getI hG hE dX0_copy_66 fl_X0_36 rfl p1 ?_
  refine s_putI hG hE dX0_copy_69 fl_X0_36 rfl rfl p0 (fun h9 => ?_)
  refine s_aload_n hG dX0_copy_72 0 rfl rfl ?_
  refine s_aload_n hG dX0_copy_73 1 rfl rfl ?_
  refine s_getI hG hE dX0_copy_74 fl_X0_39 rfl p1 ?_
  refine s_putI hG hE dX0_copy_77 fl_X0_39 rfl rfl p0 (fun h10 => ?_)
  exact s_vret hG hT dX0_copy_80

theorem c_X0_copy (w : WT) (l : Launch) (a0 : Nat) (p0 : LC a0 = (1, 0)) (a1 : Nat) (p1 : LC a1 = (1, 0)) (h : Hp) : ∀ v h', m_X0_copy a0 a1 h = some (v, h') → MetM l (GC w) yX0_copy cX0_copy 2 none 1 [.ref (gB (GC w) + a0), .ref (gB (GC w) + a1)] h (inV v) h' :=
  met_of (by decide) (lokC w) (Nat.le_of_ble_eq_true rfl) (fun x hx hG hE hR hT => s_X0_copy w hx hG hE hR hT a0 p0 a1 p1 h)
def m_X0_valueOf (a0 : Nat) (a1 : Int32) (a2 : Int32) (h : Hp) : Option (Int32 × Hp) := if a1 = 0 then some (gi h a0 1, h) else if a1 = 1 then some (gi h a0 3, h) else if a1 = 2 then some ((gi h a0 1) - (gi h a0 3), h) else if a1 = 3 then some (gi h a0 5, h) else if a1 = 4 then some (gi h a0 2, h) else if a1 = 5 then some (1 - (gi h a0 4), h) else if a1 = 6 then some (gi h a0 6, h) else if a1 = 7 then some (gi h a0 7, h) else if a1 = 8 then some (gi h a0 8, h) else some (a2, h)
set_option maxRecDepth 20000 in
set_option maxHeartbeats 4000000 in
theorem s_X0_valueOf (w : WT) {x : CT} {l : Launch} (hx : xl x = l) (hG : Gd x cX0_valueOf 3 RX0) (hE : Ge x (GC w)) (hR : Rm x 1) (hT : Rt x (some .int)) (a0 : Nat) (p0 : LC a0 = (1, 0)) (a1 : Int32) (a2 : Int32) (h : Hp) : Sn x 3 (gA (GC w)) (0, 0) (ζM x (GC w) inI) (gW (GC w) h) 0 [(0, .ref (gB (GC w) + a0)), (1, .int a1), (2, .int a2)] [] (m_X0_valueOf a0 a1 a2 h) := by
  unfold m_X0_valueOf
  refine s_iload_n hG dX0_valueOf_0 1 rfl rfl ?_
  refine s_tsw (off := 51) hG dX0_valueOf_1 0 (by decide) (tgt := 52) (by decide) (fun q1 => ?_) (fun q1 => ?_)
  · refine s_aload_n hG dX0_valueOf_52 0 rfl rfl ?_
    refine s_getI hG hE dX0_valueOf_53 fl_X0_15 rfl p0 ?_
    exact s_iret hG hT dX0_valueOf_56
  · refine s_tsw (off := 56) hG dX0_valueOf_1 1 (by decide) (tgt := 57) (by decide) (fun q2 => ?_) (fun q2 => ?_)
    · refine s_aload_n hG dX0_valueOf_57 0 rfl rfl ?_
      refine s_getI hG hE dX0_valueOf_58 fl_X0_21 rfl p0 ?_
      exact s_iret hG hT dX0_valueOf_61
    · refine s_tsw (off := 61) hG dX0_valueOf_1 2 (by decide) (tgt := 62) (by decide) (fun q3 => ?_) (fun q3 => ?_)
      · refine s_aload_n hG dX0_valueOf_62 0 rfl rfl ?_
        refine s_getI hG hE dX0_valueOf_63 fl_X0_15 rfl p0 ?_
        refine s_aload_n hG dX0_valueOf_66 0 rfl rfl ?_
        refine s_getI hG hE dX0_valueOf_67 fl_X0_21 rfl p0 ?_
        refine s_isub hG dX0_valueOf_70 ?_
        exact s_iret hG hT dX0_valueOf_71
      · refine s_tsw (off := 71) hG dX0_valueOf_1 3 (by decide) (tgt := 72) (by decide) (fun q4 => ?_) (fun q4 => ?_)
        · refine s_aload_n hG dX0_valueOf_72 0 rfl rfl ?_
          refine s_getI hG hE dX0_valueOf_73 fl_X0_27 rfl p0 ?_
          exact s_iret hG hT dX0_valueOf_76
        · refine s_tsw (off := 76) hG dX0_valueOf_1 4 (by decide) (tgt := 77) (by decide) (fun q5 => ?_) (fun q5 => ?_)
          · refine s_aload_n hG dX0_valueOf_77 0 rfl rfl ?_
            refine s_getI hG hE dX0_valueOf_78 fl_X0_18 rfl p0 ?_
            exact s_iret hG hT dX0_valueOf_81
          · refine s_tsw (off := 81) hG dX0_valueOf_1 5 (by decide) (tgt := 82) (by decide) (fun q6 => ?_) (fun q6 => ?_)
            · refine s_iconst hG dX0_valueOf_82 ic_1 ?_
              refine s_aload_n hG dX0_valueOf_83 0 rfl rfl ?_
              refine s_getI hG hE dX0_valueOf_84 fl_X0_24 rfl p0 ?_
              refine s_isub hG dX0_valueOf_87 ?_
              exact s_iret hG hT dX0_valueOf_88
            · refine s_tsw (off := 88) hG dX0_valueOf_1 6 (by decide) (tgt := 89) (by decide) (fun q7 => ?_) (fun q7 => ?_)
              · refine s_aload_n hG dX0_valueOf_89 0 rfl rfl ?_
                refine s_getI hG hE dX0_valueOf_90 fl_X0_30 rfl p0 ?_
                exact s_iret hG hT dX0_valueOf_93
              · refine s_tsw (off := 93) hG dX0_valueOf_1 7 (by decide) (tgt := 94) (by decide) (fun q8 => ?_) (fun q8 => ?_)
                · refine s_aload_n hG dX0_valueOf_94 0 rfl rfl ?_
                  refine s_getI hG hE dX0_valueOf_95 fl_X0_33 rfl p0 ?_
                  exact s_iret hG hT dX0_valueOf_98
                · refine s_tsw (off := 98) hG dX0_valueOf_1 8 (by decide) (tgt := 99) (by decide) (fun q9 => ?_) (fun q9 => ?_)
                  · refine s_aload_n hG dX0_valueOf_99 0 rfl rfl ?_
                    refine s_getI hG hE dX0_valueOf_100 fl_X0_36 rfl p0 ?_
                    exact s_iret hG hT dX0_valueOf_103
                  · refine s_tswD (tgt := 104) hG dX0_valueOf_1 (by decide) (by have zq1 := lv_neT q1 (show (0 : Int32).toInt = 0 by decide); have zq2 := lv_neT q2 (show (1 : Int32).toInt = 1 by decide); have zq3 := lv_neT q3 (show (2 : Int32).toInt = 2 by decide); have zq4 := lv_neT q4 (show (3 : Int32).toInt = 3 by decide); have zq5 := lv_neT q5 (show (4 : Int32).toInt = 4 by decide); have zq6 := lv_neT q6 (show (5 : Int32).toInt = 5 by decide); have zq7 := lv_neT q7 (show (6 : Int32).toInt = 6 by decide); have zq8 := lv_neT q8 (show (7 : Int32).toInt = 7 by decide); have zq9 := lv_neT q9 (show (8 : Int32).toInt = 8 by decide); omega) ?_
                    refine s_iload_n hG dX0_valueOf_104 2 rfl rfl ?_
                    exact s_iret hG hT dX0_valueOf_105

theorem c_X0_valueOf (w : WT) (l : Launch) (a0 : Nat) (p0 : LC a0 = (1, 0)) (a1 : Int32) (a2 : Int32) (h : Hp) : ∀ v h', m_X0_valueOf a0 a1 a2 h = some (v, h') → MetM l (GC w) yX0_valueOf cX0_valueOf 3 (some .int) 1 [.ref (gB (GC w) + a0), .int a1, .int a2] h (inI v) h' :=
  met_of (by decide) (lokC w) (Nat.le_of_ble_eq_true rfl) (fun x hx hG hE hR hT => s_X0_valueOf w hx hG hE hR hT a0 p0 a1 a2 h)
def m_X3_passes (a0 : Int32) (a1 : Int32) (a2 : Int32) (h : Hp) : Option (Int32 × Hp) := if a1 = 0 then if a2 ≤ a0 then some (0, h) else some (1, h) else if a1 = 1 then if a0 = a2 then some (1, h) else some (0, h) else if a0 ≤ a2 then some (0, h) else some (1, h)
set_option maxRecDepth 20000 in
set_option maxHeartbeats 4000000 in
theorem s_X3_passes (w : WT) {x : CT} {l : Launch} (hx : xl x = l) (hG : Gd x cX3_passes 3 RX3) (hE : Ge x (GC w)) (hR : Rm x 1) (hT : Rt x (some .boolean)) (a0 : Int32) (a1 : Int32) (a2 : Int32) (h : Hp) : Sn x 3 (gA (GC w)) (0, 0) (ζM x (GC w) inI) (gW (GC w) h) 0 [(0, .int a0), (1, .int a1), (2, .int a2)] [] (m_X3_passes a0 a1 a2 h) := by
  unfold m_X3_passes
  refine s_iload_n hG dX3_passes_0 1 rfl rfl ?_
  refine s_if_ne hG dX3_passes_1 (tgt := 15) (by decide) (fun q1 => ?_) (fun q1 => ?_)
  · refine s_iload_n hG dX3_passes_4 0 rfl rfl ?_
    refine s_iload_n hG dX3_passes_5 2 rfl rfl ?_
    refine s_icmp_ge hG dX3_passes_6 (tgt := 13) (by decide) (fun q5 => ?_) (fun q5 => ?_)
    · refine s_iconst hG dX3_passes_13 ic_0 ?_
      exact s_zret hG hT (by decide) dX3_passes_14
    · refine s_iconst hG dX3_passes_9 ic_1 ?_
      refine s_goto (tgt := 14) hG dX3_passes_10 (by decide) ?_
      exact s_zret hG hT (by decide) dX3_passes_14
  · refine s_iload_n hG dX3_passes_15 1 rfl rfl ?_
    refine s_iconst hG dX3_passes_16 ic_1 ?_
    refine s_icmp_ne hG dX3_passes_17 (tgt := 33) (by decide) (fun q2 => ?_) (fun q2 => ?_)
    · refine s_iload_n hG dX3_passes_20 0 rfl rfl ?_
      refine s_iload_n hG dX3_passes_21 2 rfl rfl ?_
      refine s_icmp_ne hG dX3_passes_22 (tgt := 29) (by decide) (fun q4 => ?_) (fun q4 => ?_)
      · refine s_iconst hG dX3_passes_25 ic_1 ?_
        refine s_goto (tgt := 43) hG dX3_passes_26 (by decide) ?_
        exact s_zret hG hT (by decide) dX3_passes_43
      · refine s_iconst hG dX3_passes_29 ic_0 ?_
        refine s_goto (tgt := 43) hG dX3_passes_30 (by decide) ?_
        exact s_zret hG hT (by decide) dX3_passes_43
    · refine s_iload_n hG dX3_passes_33 0 rfl rfl ?_
      refine s_iload_n hG dX3_passes_34 2 rfl rfl ?_
      refine s_icmp_le hG dX3_passes_35 (tgt := 42) (by decide) (fun q3 => ?_) (fun q3 => ?_)
      · refine s_iconst hG dX3_passes_42 ic_0 ?_
        exact s_zret hG hT (by decide) dX3_passes_43
      · refine s_iconst hG dX3_passes_38 ic_1 ?_
        refine s_goto (tgt := 43) hG dX3_passes_39 (by decide) ?_
        exact s_zret hG hT (by decide) dX3_passes_43

theorem c_X3_passes (w : WT) (l : Launch) (a0 : Int32) (a1 : Int32) (a2 : Int32) (h : Hp) : ∀ v h', m_X3_passes a0 a1 a2 h = some (v, h') → MetM l (GC w) yX3_passes cX3_passes 3 (some .boolean) 1 [.int a0, .int a1, .int a2] h (inI v) h' :=
  met_of (by decide) (lokC w) (Nat.le_of_ble_eq_true rfl) (fun x hx hG hE hR hT => s_X3_passes w hx hG hE hR hT a0 a1 a2 h)
theorem lc_1 : Int64.ofNat ((1 : Fin 2) : Nat) = 1 := by decide
theorem wd_762 : Jvm.Cond.constantLong RX3 67 (-2) ∈ GW := gw_at 762 (by decide +kernel) (by decide +kernel)
theorem sc_300 : (Int16.ofInt 300).toInt32 = 300 := by decide
theorem vv_X3_57 : VV RX3 57 yX0_valueOf cX0_valueOf 3 (some .int) 2 := ⟨⟨gw_at 755 (by decide +kernel) (by decide +kernel), gw_at 758 (by decide +kernel) (by decide +kernel), gw_at 90 (by decide +kernel) (by decide +kernel), by decide +kernel, by decide⟩, gw_at 756 (by decide +kernel) (by decide +kernel), gw_at 757 (by decide +kernel) (by decide +kernel)⟩
theorem vs_X3_63 : VS RX3 63 yX3_passes cX3_passes 3 (some .boolean) 3 := ⟨⟨gw_at 759 (by decide +kernel) (by decide +kernel), gw_at 761 (by decide +kernel) (by decide +kernel), gw_at 94 (by decide +kernel) (by decide +kernel), by decide +kernel, by decide⟩, gw_at 760 (by decide +kernel) (by decide +kernel)⟩
theorem lc_0 : Int64.ofNat ((0 : Fin 2) : Nat) = 0 := by decide
def m_X3_holds_L78 (k11 : Nat → Int32 → Nat → Int32 → Int64 → Int32 → Hp → Option (Int32 × Hp)) (a0 : Nat) (a1 : Int32) (a2 : Nat) (a3 : Int32) (a6 : Int32) (t0 : Int32) (t1 : Int64) (h : Hp) : Option (Int32 × Hp) := vb (t1 ||| t0.toInt64) fun v1 => vb (a6 + 1) fun v2 => k11 a0 a1 a2 a3 v1 v2 h
set_option maxRecDepth 20000 in
set_option maxHeartbeats 4000000 in
theorem s_X3_holds_L78 (w : WT) {x : CT} {l : Launch} (hx : xl x = l) (hG : Gd x cX3_holds 9 RX3) (hE : Ge x (GC w)) (hR : Rm x 2) (hT : Rt x (some .boolean)) (k11 : Nat → Int32 → Nat → Int32 → Int64 → Int32 → Hp → Option (Int32 × Hp)) (hk11 : ∀ (a0 : Nat) (p0 : LC a0 = (4, 0)) (a1 : Int32) (a2 : Nat) (p2 : LC a2 = (1, 0)) (a3 : Int32) (a4 : Int64) (a6 : Int32) (h : Hp), Sn x 9 (gA (GC w)) (0, 0) (ζM x (GC w) inI) (gW (GC w) h) 11 [(0, .ref (gB (GC w) + a0)), (1, .int a1), (2, .ref (gB (GC w) + a2)), (3, .int a3), (4, .long a4), (6, .int a6)] [] (k11 a0 a1 a2 a3 a4 a6 h)) (a0 : Nat) (p0 : LC a0 = (4, 0)) (a1 : Int32) (a2 : Nat) (p2 : LC a2 = (1, 0)) (a3 : Int32) (a6 : Int32) (t0 : Int32) (t1 : Int64) (h : Hp) : Sn x 9 (gA (GC w)) (0, 0) (ζM x (GC w) inI) (gW (GC w) h) 78 [(0, .ref (gB (GC w) + a0)), (1, .int a1), (2, .ref (gB (GC w) + a2)), (3, .int a3), (6, .int a6)] [.int t0, .long t1] (m_X3_holds_L78 k11 a0 a1 a2 a3 a6 t0 t1 h) := by
  unfold m_X3_holds_L78
  refine s_i2l hG dX3_holds_78 ?_
  refine s_lor hG dX3_holds_79 ?_
  refine s_vL (fun v1 => ?_)
  refine s_lstore (lv' := [(4, .long v1), (0, .ref (gB (GC w) + a0)), (1, .int a1), (2, .ref (gB (GC w) + a2)), (3, .int a3), (6, .int a6)]) hG dX3_holds_80 (by decide) rfl ?_
  refine s_goto (tgt := 134) hG dX3_holds_82 (by decide) ?_
  refine s_iinc hG dX3_holds_134 5 rfl ic_1 (by decide) (fun v2 => [(6, .int v2), (4, .long v1), (0, .ref (gB (GC w) + a0)), (1, .int a1), (2, .ref (gB (GC w) + a2)), (3, .int a3)]) (fun _ => rfl) (fun v2 => ?_)
  refine s_goto (tgt := 11) hG dX3_holds_137 (by decide) ?_
  refine s_lv [2, 3, 4, 5, 1, 0] rfl ?_
  exact hk11 a0 p0 a1 a2 p2 a3 v1 v2 h

def m_X3_holds_L11 : Nat → Nat → Int32 → Nat → Int32 → Int64 → Int32 → Hp → Option (Int32 × Hp)
  | 0, _, _, _, _, _, _, _ => none
  | n + 1, a0, a1, a2, a3, a4, a6, h => ck (inb a1 8) (if (gi h (a0 + 4) a1.toNatClampNeg) ≤ a6 then if (a4 &&& 1) = 1 then some (1, h) else some (0, h) else ck (inb a6 100) (vb (gi h (a0 + 5) a6.toNatClampNeg) fun v5 => if v5 < 0 then if v5 = (-1) then vb (a4 ^^^ 1) fun v13 => vb (a6 + 1) fun v14 => m_X3_holds_L11 n a0 a1 a2 a3 v13 v14 h else if v5 = (-2) then vb (((a4.toUInt64 >>> ((1 : Int32).toInt64.toUInt64 &&& Int64.toUInt64 63)).toInt64) &&& (a4 ||| (-2))) fun v11 => vb (a6 + 1) fun v12 => m_X3_holds_L11 n a0 a1 a2 a3 v11 v12 h else vb (((a4.toUInt64 >>> ((1 : Int32).toInt64.toUInt64 &&& Int64.toUInt64 63)).toInt64) ||| (a4 &&& 1)) fun v9 => vb (a6 + 1) fun v10 => m_X3_holds_L11 n a0 a1 a2 a3 v9 v10 h else cb (m_X0_valueOf a2 (v5 / 300) a3 h) fun v15 h16 => cb (m_X3_passes v15 ((v5 / 100) - (v5 / 100) / 3 * 3) (v5 - v5 / 100 * 100) h16) fun v17 h18 => if v17 = 0 then m_X3_holds_L78 (m_X3_holds_L11 n) a0 a1 a2 a3 a6 0 (a4 <<< ((1 : Int32).toInt64 &&& 63)) h18 else m_X3_holds_L78 (m_X3_holds_L11 n) a0 a1 a2 a3 a6 1 (a4 <<< ((1 : Int32).toInt64 &&& 63)) h18))
set_option maxRecDepth 20000 in
set_option maxHeartbeats 4000000 in
theorem s_X3_holds_L11 (w : WT) {x : CT} {l : Launch} (hx : xl x = l) (hG : Gd x cX3_holds 9 RX3) (hE : Ge x (GC w)) (hR : Rm x 2) (hT : Rt x (some .boolean)) : ∀ (n : Nat) (a0 : Nat) (p0 : LC a0 = (4, 0)) (a1 : Int32) (a2 : Nat) (p2 : LC a2 = (1, 0)) (a3 : Int32) (a4 : Int64) (a6 : Int32) (h : Hp), Sn x 9 (gA (GC w)) (0, 0) (ζM x (GC w) inI) (gW (GC w) h) 11 [(0, .ref (gB (GC w) + a0)), (1, .int a1), (2, .ref (gB (GC w) + a2)), (3, .int a3), (4, .long a4), (6, .int a6)] [] (m_X3_holds_L11 n a0 a1 a2 a3 a4 a6 h) := by
  intro n
  induction n with
  | zero => intro a0 p0 a1 a2 p2 a3 a4 a6 h; exact s_none
  | succ n ih =>
    intro a0 p0 a1 a2 p2 a3 a4 a6 h
    rw [m_X3_holds_L11]
    refine s_iload hG dX3_holds_11 5 rfl ?_
    refine s_aload_n hG dX3_holds_13 0 rfl rfl ?_
    refine s_getS hG hE dX3_holds_14 fl_X3_21 rfl p0 ((fC_3_3 p0).1) (nzC ((fC_3_3 p0).2)) ?_
    refine s_iload_n hG dX3_holds_17 1 rfl rfl ?_
    refine s_ck (fun q1 => ?_)
    refine s_iald hG hE dX3_holds_18 ((fC_3_3 p0).2) q1 ?_
    refine s_icmp_ge hG dX3_holds_19 (tgt := 140) (by decide) (fun q2 => ?_) (fun q2 => ?_)
    · refine s_lload hG dX3_holds_140 4 rfl ?_
      refine s_lconst hG dX3_holds_142 lc_1 ?_
      refine s_land hG dX3_holds_143 ?_
      refine s_lconst hG dX3_holds_144 lc_1 ?_
      refine s_lcmp_ne hG dX3_holds_145 dX3_holds_146 (tgt := 153) (by decide) (fun q3 => ?_) (fun q3 => ?_)
      · refine s_iconst hG dX3_holds_149 ic_1 ?_
        refine s_goto (tgt := 154) hG dX3_holds_150 (by decide) ?_
        exact s_zret hG hT (by decide) dX3_holds_154
      · refine s_iconst hG dX3_holds_153 ic_0 ?_
        exact s_zret hG hT (by decide) dX3_holds_154
    · refine s_aload_n hG dX3_holds_22 0 rfl rfl ?_
      refine s_getS hG hE dX3_holds_23 fl_X3_24 rfl p0 ((fC_3_4 p0).1) (nzC ((fC_3_4 p0).2)) ?_
      refine s_iload hG dX3_holds_26 5 rfl ?_
      refine s_ck (fun q4 => ?_)
      refine s_iald hG hE dX3_holds_28 ((fC_3_4 p0).2) q4 ?_
      refine s_vI (fun v5 => ?_)
      refine s_istore (lv' := [(7, .int v5), (0, .ref (gB (GC w) + a0)), (1, .int a1), (2, .ref (gB (GC w) + a2)), (3, .int a3), (4, .long a4), (6, .int a6)]) hG dX3_holds_29 (by decide) rfl ?_
      refine s_iload hG dX3_holds_31 0 rfl ?_
      refine s_if_lt hG dX3_holds_33 (tgt := 85) (by decide) (fun q6 => ?_) (fun q6 => ?_)
      · refine s_iload hG dX3_holds_85 0 rfl ?_
        refine s_iconst hG dX3_holds_87 ic_m1 ?_
        refine s_icmp_ne hG dX3_holds_88 (tgt := 100) (by decide) (fun q7 => ?_) (fun q7 => ?_)
        · refine s_lload hG dX3_holds_91 5 rfl ?_
          refine s_lconst hG dX3_holds_93 lc_1 ?_
          refine s_lxor hG dX3_holds_94 ?_
          refine s_vL (fun v13 => ?_)
          refine s_lstore (lv' := [(4, .long v13), (7, .int v5), (0, .ref (gB (GC w) + a0)), (1, .int a1), (2, .ref (gB (GC w) + a2)), (3, .int a3), (6, .int a6)]) hG dX3_holds_95 (by decide) rfl ?_
          refine s_goto (tgt := 134) hG dX3_holds_97 (by decide) ?_
          refine s_iinc hG dX3_holds_134 6 rfl ic_1 (by decide) (fun v14 => [(6, .int v14), (4, .long v13), (7, .int v5), (0, .ref (gB (GC w) + a0)), (1, .int a1), (2, .ref (gB (GC w) + a2)), (3, .int a3)]) (fun _ => rfl) (fun v14 => ?_)
          refine s_goto (tgt := 11) hG dX3_holds_137 (by decide) ?_
          refine s_lv [3, 4, 5, 6, 1, 0] rfl ?_
          exact ih a0 p0 a1 a2 p2 a3 v13 v14 h
        · refine s_iload hG dX3_holds_100 0 rfl ?_
          refine s_bipush hG dX3_holds_102 bc_m2 ?_
          refine s_icmp_ne hG dX3_holds_104 (tgt := 123) (by decide) (fun q8 => ?_) (fun q8 => ?_)
          · refine s_lload hG dX3_holds_107 5 rfl ?_
            refine s_iconst hG dX3_holds_109 ic_1 ?_
            refine s_lushr hG dX3_holds_110 ?_
            refine s_lload hG dX3_holds_111 5 rfl ?_
            refine s_ldc2 hG dX3_holds_113 wd_762 ?_
            refine s_lor hG dX3_holds_116 ?_
            refine s_land hG dX3_holds_117 ?_
            refine s_vL (fun v11 => ?_)
            refine s_lstore (lv' := [(4, .long v11), (7, .int v5), (0, .ref (gB (GC w) + a0)), (1, .int a1), (2, .ref (gB (GC w) + a2)), (3, .int a3), (6, .int a6)]) hG dX3_holds_118 (by decide) rfl ?_
            refine s_goto (tgt := 134) hG dX3_holds_120 (by decide) ?_
            refine s_iinc hG dX3_holds_134 6 rfl ic_1 (by decide) (fun v12 => [(6, .int v12), (4, .long v11), (7, .int v5), (0, .ref (gB (GC w) + a0)), (1, .int a1), (2, .ref (gB (GC w) + a2)), (3, .int a3)]) (fun _ => rfl) (fun v12 => ?_)
            refine s_goto (tgt := 11) hG dX3_holds_137 (by decide) ?_
            refine s_lv [3, 4, 5, 6, 1, 0] rfl ?_
            exact ih a0 p0 a1 a2 p2 a3 v11 v12 h
          · refine s_lload hG dX3_holds_123 5 rfl ?_
            refine s_iconst hG dX3_holds_125 ic_1 ?_
            refine s_lushr hG dX3_holds_126 ?_
            refine s_lload hG dX3_holds_127 5 rfl ?_
            refine s_lconst hG dX3_holds_129 lc_1 ?_
            refine s_land hG dX3_holds_130 ?_
            refine s_lor hG dX3_holds_131 ?_
            refine s_vL (fun v9 => ?_)
            refine s_lstore (lv' := [(4, .long v9), (7, .int v5), (0, .ref (gB (GC w) + a0)), (1, .int a1), (2, .ref (gB (GC w) + a2)), (3, .int a3), (6, .int a6)]) hG dX3_holds_132 (by decide) rfl ?_
            refine s_iinc hG dX3_holds_134 6 rfl ic_1 (by decide) (fun v10 => [(6, .int v10), (4, .long v9), (7, .int v5), (0, .ref (gB (GC w) + a0)), (1, .int a1), (2, .ref (gB (GC w) + a2)), (3, .int a3)]) (fun _ => rfl) (fun v10 => ?_)
            refine s_goto (tgt := 11) hG dX3_holds_137 (by decide) ?_
            refine s_lv [3, 4, 5, 6, 1, 0] rfl ?_
            exact ih a0 p0 a1 a2 p2 a3 v9 v10 h
      · refine s_aload_n hG dX3_holds_36 3 rfl rfl ?_
        refine s_iload hG dX3_holds_37 0 rfl ?_
        refine s_sipush hG dX3_holds_39 sc_300 ?_
        refine s_idiv hG dX3_holds_42 (by decide) ?_
        refine s_iload_n hG dX3_holds_43 4 rfl rfl ?_
        refine s_callV (a := a2) (c := 0) (inj := inI) (As := [.int (v5 / 300), .int a3]) (st := []) rfl hG hE dX3_holds_44 hR (by decide) vv_X3_57 (by decide) rfl p2 rfl (Nat.le_of_ble_eq_true rfl) rfl (fun zv zh zq => c_X0_valueOf w (xl x) a2 p2 (v5 / 300) a3 h zv zh zq) (fun v15 h16 => ?_)
        refine s_iload hG dX3_holds_47 0 rfl ?_
        refine s_bipush hG dX3_holds_49 bc_100 ?_
        refine s_idiv hG dX3_holds_51 (by decide) ?_
        refine s_iconst hG dX3_holds_52 ic_3 ?_
        refine s_irem hG dX3_holds_53 (by decide) ?_
        refine s_iload hG dX3_holds_54 0 rfl ?_
        refine s_bipush hG dX3_holds_56 bc_100 ?_
        refine s_irem hG dX3_holds_58 (by decide) ?_
        refine s_callS (inj := inI) (As := [.int v15, .int ((v5 / 100) - (v5 / 100) / 3 * 3), .int (v5 - v5 / 100 * 100)]) (st := []) rfl hG hE dX3_holds_59 hR (by decide) vs_X3_63 rfl (Nat.le_of_ble_eq_true rfl) rfl (fun zv zh zq => c_X3_passes w (xl x) v15 ((v5 / 100) - (v5 / 100) / 3 * 3) (v5 - v5 / 100 * 100) h16 zv zh zq) (fun v17 h18 => ?_)
        refine s_istore (lv' := [(8, .int v17), (7, .int v5), (0, .ref (gB (GC w) + a0)), (1, .int a1), (2, .ref (gB (GC w) + a2)), (3, .int a3), (4, .long a4), (6, .int a6)]) hG dX3_holds_62 (by decide) rfl ?_
        refine s_lload hG dX3_holds_64 6 rfl ?_
        refine s_iconst hG dX3_holds_66 ic_1 ?_
        refine s_lshl hG dX3_holds_67 ?_
        refine s_iload hG dX3_holds_68 0 rfl ?_
        refine s_if_eq hG dX3_holds_70 (tgt := 77) (by decide) (fun q19 => ?_) (fun q19 => ?_)
        · refine s_iconst hG dX3_holds_77 ic_0 ?_
          refine s_lv [2, 3, 4, 5, 7] rfl ?_
          exact s_X3_holds_L78 w hx hG hE hR hT (m_X3_holds_L11 n) ih a0 p0 a1 a2 p2 a3 a6 0 (a4 <<< ((1 : Int32).toInt64 &&& 63)) h18
        · refine s_iconst hG dX3_holds_73 ic_1 ?_
          refine s_goto (tgt := 78) hG dX3_holds_74 (by decide) ?_
          refine s_lv [2, 3, 4, 5, 7] rfl ?_
          exact s_X3_holds_L78 w hx hG hE hR hT (m_X3_holds_L11 n) ih a0 p0 a1 a2 p2 a3 a6 1 (a4 <<< ((1 : Int32).toInt64 &&& 63)) h18

def m_X3_holds (a0 : Nat) (a1 : Int32) (a2 : Nat) (a3 : Int32) (h : Hp) : Option (Int32 × Hp) := ck (inb a1 8) (vb (gi h (a0 + 3) a1.toNatClampNeg) fun v2 => m_X3_holds_L11 FU a0 a1 a2 a3 0 v2 h)
set_option maxRecDepth 20000 in
set_option maxHeartbeats 4000000 in
theorem s_X3_holds (w : WT) {x : CT} {l : Launch} (hx : xl x = l) (hG : Gd x cX3_holds 9 RX3) (hE : Ge x (GC w)) (hR : Rm x 2) (hT : Rt x (some .boolean)) (a0 : Nat) (p0 : LC a0 = (4, 0)) (a1 : Int32) (a2 : Nat) (p2 : LC a2 = (1, 0)) (a3 : Int32) (h : Hp) : Sn x 9 (gA (GC w)) (0, 0) (ζM x (GC w) inI) (gW (GC w) h) 0 [(0, .ref (gB (GC w) + a0)), (1, .int a1), (2, .ref (gB (GC w) + a2)), (3, .int a3)] [] (m_X3_holds a0 a1 a2 a3 h) := by
  unfold m_X3_holds
  refine s_lconst hG dX3_holds_0 lc_0 ?_
  refine s_lstore (lv' := [(4, .long 0), (0, .ref (gB (GC w) + a0)), (1, .int a1), (2, .ref (gB (GC w) + a2)), (3, .int a3)]) hG dX3_holds_1 (by decide) rfl ?_
  refine s_aload_n hG dX3_holds_3 1 rfl rfl ?_
  refine s_getS hG hE dX3_holds_4 fl_X3_18 rfl p0 ((fC_3_2 p0).1) (nzC ((fC_3_2 p0).2)) ?_
  refine s_iload_n hG dX3_holds_7 2 rfl rfl ?_
  refine s_ck (fun q1 => ?_)
  refine s_iald hG hE dX3_holds_8 ((fC_3_2 p0).2) q1 ?_
  refine s_vI (fun v2 => ?_)
  refine s_istore (lv' := [(6, .int v2), (4, .long 0), (0, .ref (gB (GC w) + a0)), (1, .int a1), (2, .ref (gB (GC w) + a2)), (3, .int a3)]) hG dX3_holds_9 (by decide) rfl ?_
  refine s_lv [2, 3, 4, 5, 1, 0] rfl ?_
  exact s_X3_holds_L11 w hx hG hE hR hT FU a0 p0 a1 a2 p2 a3 0 v2 h

theorem c_X3_holds (w : WT) (l : Launch) (a0 : Nat) (p0 : LC a0 = (4, 0)) (a1 : Int32) (a2 : Nat) (p2 : LC a2 = (1, 0)) (a3 : Int32) (h : Hp) : ∀ v h', m_X3_holds a0 a1 a2 a3 h = some (v, h') → MetM l (GC w) yX3_holds cX3_holds 9 (some .boolean) 2 [.ref (gB (GC w) + a0), .int a1, .ref (gB (GC w) + a2), .int a3] h (inI v) h' :=
  met_of (by decide) (lokC w) (Nat.le_of_ble_eq_true rfl) (fun x hx hG hE hR hT => s_X3_holds w hx hG hE hR hT a0 p0 a1 a2 p2 a3 h)
theorem vv_X3_53 : VV RX3 53 yX3_holds cX3_holds 9 (some .boolean) 3 := ⟨⟨gw_at 751 (by decide +kernel) (by decide +kernel), gw_at 754 (by decide +kernel) (by decide +kernel), gw_at 94 (by decide +kernel) (by decide +kernel), by decide +kernel, by decide⟩, gw_at 753 (by decide +kernel) (by decide +kernel), gw_at 17 (by decide +kernel) (by decide +kernel)⟩
def m_X3_holding_L5 : Nat → Nat → Nat → Int32 → Int32 → Int32 → Hp → Option (Int32 × Hp)
  | 0, _, _, _, _, _, _ => none
  | n + 1, a0, a1, a2, a3, a4, h => if (gi h a0 5) ≤ a4 then some (a3, h) else cb (m_X3_holds a0 a4 a1 a2 h) fun v2 h3 => if v2 = 0 then vb (a4 + 1) fun v5 => m_X3_holding_L5 n a0 a1 a2 a3 v5 h3 else vb (a3 ||| (1 <<< (a4 &&& 31))) fun v6 => vb (a4 + 1) fun v7 => m_X3_holding_L5 n a0 a1 a2 v6 v7 h3
set_option maxRecDepth 20000 in
set_option maxHeartbeats 4000000 in
theorem s_X3_holding_L5 (w : WT) {x : CT} {l : Launch} (hx : xl x = l) (hG : Gd x cX3_holding 5 RX3) (hE : Ge x (GC w)) (hR : Rm x 3) (hT : Rt x (some .int)) : ∀ (n : Nat) (a0 : Nat) (p0 : LC a0 = (4, 0)) (a1 : Nat) (p1 : LC a1 = (1, 0)) (a2 : Int32) (a3 : Int32) (a4 : Int32) (h : Hp), Sn x 5 (gA (GC w)) (0, 0) (ζM x (GC w) inI) (gW (GC w) h) 5 [(0, .ref (gB (GC w) + a0)), (1, .ref (gB (GC w) + a1)), (2, .int a2), (3, .int a3), (4, .int a4)] [] (m_X3_holding_L5 n a0 a1 a2 a3 a4 h) := by
  intro n
  induction n with
  | zero => intro a0 p0 a1 p1 a2 a3 a4 h; exact s_none
  | succ n ih =>
    intro a0 p0 a1 p1 a2 a3 a4 h
    rw [m_X3_holding_L5]
    refine s_iload hG dX3_holding_5 4 rfl ?_
    refine s_aload_n hG dX3_holding_7 0 rfl rfl ?_
    refine s_getI hG hE dX3_holding_8 fl_X3_27 rfl p0 ?_
    refine s_icmp_ge hG dX3_holding_11 (tgt := 38) (by decide) (fun q1 => ?_) (fun q1 => ?_)
    · refine s_iload_n hG dX3_holding_38 3 rfl rfl ?_
      exact s_iret hG hT dX3_holding_39
    · refine s_aload_n hG dX3_holding_14 0 rfl rfl ?_
      refine s_iload hG dX3_holding_15 4 rfl ?_
      refine s_aload_n hG dX3_holding_17 1 rfl rfl ?_
      refine s_iload_n hG dX3_holding_18 2 rfl rfl ?_
      refine s_callV (a := a0) (c := 3) (inj := inI) (As := [.int a4, .ref (gB (GC w) + a1), .int a2]) (st := []) rfl hG hE dX3_holding_19 hR (by decide) vv_X3_53 (by decide) rfl p0 rfl (Nat.le_of_ble_eq_true rfl) rfl (fun zv zh zq => c_X3_holds w (xl x) a0 p0 a4 a1 p1 a2 h zv zh zq) (fun v2 h3 => ?_)
      refine s_if_eq hG dX3_holding_22 (tgt := 32) (by decide) (fun q4 => ?_) (fun q4 => ?_)
      · refine s_iinc hG dX3_holding_32 4 rfl ic_1 (by decide) (fun v5 => [(4, .int v5), (0, .ref (gB (GC w) + a0)), (1, .ref (gB (GC w) + a1)), (2, .int a2), (3, .int a3)]) (fun _ => rfl) (fun v5 => ?_)
        refine s_goto (tgt := 5) hG dX3_holding_35 (by decide) ?_
        refine s_lv [1, 2, 3, 4, 0] rfl ?_
        exact ih a0 p0 a1 p1 a2 a3 v5 h3
      · refine s_iload_n hG dX3_holding_25 3 rfl rfl ?_
        refine s_iconst hG dX3_holding_26 ic_1 ?_
        refine s_iload hG dX3_holding_27 4 rfl ?_
        refine s_ishl hG dX3_holding_29 ?_
        refine s_ior hG dX3_holding_30 ?_
        refine s_vI (fun v6 => ?_)
        refine s_istore_n (lv' := [(3, .int v6), (0, .ref (gB (GC w) + a0)), (1, .ref (gB (GC w) + a1)), (2, .int a2), (4, .int a4)]) hG dX3_holding_31 rfl (by decide) rfl ?_
        refine s_iinc hG dX3_holding_32 4 rfl ic_1 (by decide) (fun v7 => [(4, .int v7), (3, .int v6), (0, .ref (gB (GC w) + a0)), (1, .ref (gB (GC w) + a1)), (2, .int a2)]) (fun _ => rfl) (fun v7 => ?_)
        refine s_goto (tgt := 5) hG dX3_holding_35 (by decide) ?_
        refine s_lv [2, 3, 4, 1, 0] rfl ?_
        exact ih a0 p0 a1 p1 a2 v6 v7 h3

def m_X3_holding (a0 : Nat) (a1 : Nat) (a2 : Int32) (h : Hp) : Option (Int32 × Hp) := m_X3_holding_L5 FU a0 a1 a2 0 0 h
set_option maxRecDepth 20000 in
set_option maxHeartbeats 4000000 in
theorem s_X3_holding (w : WT) {x : CT} {l : Launch} (hx : xl x = l) (hG : Gd x cX3_holding 5 RX3) (hE : Ge x (GC w)) (hR : Rm x 3) (hT : Rt x (some .int)) (a0 : Nat) (p0 : LC a0 = (4, 0)) (a1 : Nat) (p1 : LC a1 = (1, 0)) (a2 : Int32) (h : Hp) : Sn x 5 (gA (GC w)) (0, 0) (ζM x (GC w) inI) (gW (GC w) h) 0 [(0, .ref (gB (GC w) + a0)), (1, .ref (gB (GC w) + a1)), (2, .int a2)] [] (m_X3_holding a0 a1 a2 h) := by
  unfold m_X3_holding
  refine s_iconst hG dX3_holding_0 ic_0 ?_
  refine s_istore_n (lv' := [(3, .int 0), (0, .ref (gB (GC w) + a0)), (1, .ref (gB (GC w) + a1)), (2, .int a2)]) hG dX3_holding_1 rfl (by decide) rfl ?_
  refine s_iconst hG dX3_holding_2 ic_0 ?_
  refine s_istore (lv' := [(4, .int 0), (3, .int 0), (0, .ref (gB (GC w) + a0)), (1, .ref (gB (GC w) + a1)), (2, .int a2)]) hG dX3_holding_3 (by decide) rfl ?_
  refine s_lv [2, 3, 4, 1, 0] rfl ?_
  exact s_X3_holding_L5 w hx hG hE hR hT FU a0 p0 a1 p1 a2 0 0 h

theorem c_X3_holding (w : WT) (l : Launch) (a0 : Nat) (p0 : LC a0 = (4, 0)) (a1 : Nat) (p1 : LC a1 = (1, 0)) (a2 : Int32) (h : Hp) : ∀ v h', m_X3_holding a0 a1 a2 h = some (v, h') → MetM l (GC w) yX3_holding cX3_holding 5 (some .int) 3 [.ref (gB (GC w) + a0), .ref (gB (GC w) + a1), .int a2] h (inI v) h' :=
  met_of (by decide) (lokC w) (Nat.le_of_ble_eq_true rfl) (fun x hx hG hE hR hT => s_X3_holding w hx hG hE hR hT a0 p0 a1 p1 a2 h)
def m_X3_firstOathAmong_L26 (k2 : Nat → Int32 → Int32 → Int32 → Hp → Option (Int32 × Hp)) (a0 : Nat) (a1 : Int32) (a2 : Int32) (a3 : Int32) (t0 : Int32) (h : Hp) : Option (Int32 × Hp) := ck (inb a3 8) (if (gi h (a0 + 1) a3.toNatClampNeg) = 2 then if ((t0 >>> (a3 &&& 31)) &&& 1) = 1 then some (a3, h) else vb (a3 + 1) fun v5 => k2 a0 a1 a2 v5 h else vb (a3 + 1) fun v3 => k2 a0 a1 a2 v3 h)
set_option maxRecDepth 20000 in
set_option maxHeartbeats 4000000 in
theorem s_X3_firstOathAmong_L26 (w : WT) {x : CT} {l : Launch} (hx : xl x = l) (hG : Gd x cX3_firstOathAmong 5 RX3) (hE : Ge x (GC w)) (hR : Rm x 1) (hT : Rt x (some .int)) (k2 : Nat → Int32 → Int32 → Int32 → Hp → Option (Int32 × Hp)) (hk2 : ∀ (a0 : Nat) (p0 : LC a0 = (4, 0)) (a1 : Int32) (a2 : Int32) (a3 : Int32) (h : Hp), Sn x 5 (gA (GC w)) (0, 0) (ζM x (GC w) inI) (gW (GC w) h) 2 [(0, .ref (gB (GC w) + a0)), (1, .int a1), (2, .int a2), (3, .int a3)] [] (k2 a0 a1 a2 a3 h)) (a0 : Nat) (p0 : LC a0 = (4, 0)) (a1 : Int32) (a2 : Int32) (a3 : Int32) (t0 : Int32) (h : Hp) : Sn x 5 (gA (GC w)) (0, 0) (ζM x (GC w) inI) (gW (GC w) h) 26 [(0, .ref (gB (GC w) + a0)), (1, .int a1), (2, .int a2), (3, .int a3)] [.int t0] (m_X3_firstOathAmong_L26 k2 a0 a1 a2 a3 t0 h) := by
  unfold m_X3_firstOathAmong_L26
  refine s_istore (lv' := [(4, .int t0), (0, .ref (gB (GC w) + a0)), (1, .int a1), (2, .int a2), (3, .int a3)]) hG dX3_firstOathAmong_26 (by decide) rfl ?_
  refine s_aload_n hG dX3_firstOathAmong_28 1 rfl rfl ?_
  refine s_getS hG hE dX3_firstOathAmong_29 fl_X3_9 rfl p0 ((fC_3_0 p0).1) (nzC ((fC_3_0 p0).2)) ?_
  refine s_iload_n hG dX3_firstOathAmong_32 4 rfl rfl ?_
  refine s_ck (fun q1 => ?_)
  refine s_iald hG hE dX3_firstOathAmong_33 ((fC_3_0 p0).2) q1 ?_
  refine s_iconst hG dX3_firstOathAmong_34 ic_2 ?_
  refine s_icmp_ne hG dX3_firstOathAmong_35 (tgt := 50) (by decide) (fun q2 => ?_) (fun q2 => ?_)
  · refine s_iload hG dX3_firstOathAmong_38 0 rfl ?_
    refine s_iload_n hG dX3_firstOathAmong_40 4 rfl rfl ?_
    refine s_ishr hG dX3_firstOathAmong_41 ?_
    refine s_iconst hG dX3_firstOathAmong_42 ic_1 ?_
    refine s_iand hG dX3_firstOathAmong_43 ?_
    refine s_iconst hG dX3_firstOathAmong_44 ic_1 ?_
    refine s_icmp_ne hG dX3_firstOathAmong_45 (tgt := 50) (by decide) (fun q4 => ?_) (fun q4 => ?_)
    · refine s_iload_n hG dX3_firstOathAmong_48 4 rfl rfl ?_
      exact s_iret hG hT dX3_firstOathAmong_49
    · refine s_iinc hG dX3_firstOathAmong_50 4 rfl ic_1 (by decide) (fun v5 => [(3, .int v5), (4, .int t0), (0, .ref (gB (GC w) + a0)), (1, .int a1), (2, .int a2)]) (fun _ => rfl) (fun v5 => ?_)
      refine s_goto (tgt := 2) hG dX3_firstOathAmong_53 (by decide) ?_
      refine s_lv [2, 3, 4, 0] rfl ?_
      exact hk2 a0 p0 a1 a2 v5 h
  · refine s_iinc hG dX3_firstOathAmong_50 4 rfl ic_1 (by decide) (fun v3 => [(3, .int v3), (4, .int t0), (0, .ref (gB (GC w) + a0)), (1, .int a1), (2, .int a2)]) (fun _ => rfl) (fun v3 => ?_)
    refine s_goto (tgt := 2) hG dX3_firstOathAmong_53 (by decide) ?_
    refine s_lv [2, 3, 4, 0] rfl ?_
    exact hk2 a0 p0 a1 a2 v3 h

def m_X3_firstOathAmong_L2 : Nat → Nat → Int32 → Int32 → Int32 → Hp → Option (Int32 × Hp)
  | 0, _, _, _, _, _ => none
  | n + 1, a0, a1, a2, a3, h => if (gi h a0 5) ≤ a3 then some ((-1), h) else ck (inb a3 8) (if (gi h (a0 + 2) a3.toNatClampNeg) = 6 then m_X3_firstOathAmong_L26 (m_X3_firstOathAmong_L2 n) a0 a1 a2 a3 a1 h else m_X3_firstOathAmong_L26 (m_X3_firstOathAmong_L2 n) a0 a1 a2 a3 a2 h)
set_option maxRecDepth 20000 in
set_option maxHeartbeats 4000000 in
theorem s_X3_firstOathAmong_L2 (w : WT) {x : CT} {l : Launch} (hx : xl x = l) (hG : Gd x cX3_firstOathAmong 5 RX3) (hE : Ge x (GC w)) (hR : Rm x 1) (hT : Rt x (some .int)) : ∀ (n : Nat) (a0 : Nat) (p0 : LC a0 = (4, 0)) (a1 : Int32) (a2 : Int32) (a3 : Int32) (h : Hp), Sn x 5 (gA (GC w)) (0, 0) (ζM x (GC w) inI) (gW (GC w) h) 2 [(0, .ref (gB (GC w) + a0)), (1, .int a1), (2, .int a2), (3, .int a3)] [] (m_X3_firstOathAmong_L2 n a0 a1 a2 a3 h) := by
  intro n
  induction n with
  | zero => intro a0 p0 a1 a2 a3 h; exact s_none
  | succ n ih =>
    intro a0 p0 a1 a2 a3 h
    rw [m_X3_firstOathAmong_L2]
    refine s_iload_n hG dX3_firstOathAmong_2 3 rfl rfl ?_
    refine s_aload_n hG dX3_firstOathAmong_3 0 rfl rfl ?_
    refine s_getI hG hE dX3_firstOathAmong_4 fl_X3_27 rfl p0 ?_
    refine s_icmp_ge hG dX3_firstOathAmong_7 (tgt := 56) (by decide) (fun q1 => ?_) (fun q1 => ?_)
    · refine s_iconst hG dX3_firstOathAmong_56 ic_m1 ?_
      exact s_iret hG hT dX3_firstOathAmong_57
    · refine s_aload_n hG dX3_firstOathAmong_10 0 rfl rfl ?_
      refine s_getS hG hE dX3_firstOathAmong_11 fl_X3_15 rfl p0 ((fC_3_1 p0).1) (nzC ((fC_3_1 p0).2)) ?_
      refine s_iload_n hG dX3_firstOathAmong_14 3 rfl rfl ?_
      refine s_ck (fun q2 => ?_)
      refine s_iald hG hE dX3_firstOathAmong_15 ((fC_3_1 p0).2) q2 ?_
      refine s_bipush hG dX3_firstOathAmong_16 bc_6 ?_
      refine s_icmp_ne hG dX3_firstOathAmong_18 (tgt := 25) (by decide) (fun q3 => ?_) (fun q3 => ?_)
      · refine s_iload_n hG dX3_firstOathAmong_21 1 rfl rfl ?_
        refine s_goto (tgt := 26) hG dX3_firstOathAmong_22 (by decide) ?_
        exact s_X3_firstOathAmong_L26 w hx hG hE hR hT (m_X3_firstOathAmong_L2 n) ih a0 p0 a1 a2 a3 a1 h
      · refine s_iload_n hG dX3_firstOathAmong_25 2 rfl rfl ?_
        exact s_X3_firstOathAmong_L26 w hx hG hE hR hT (m_X3_firstOathAmong_L2 n) ih a0 p0 a1 a2 a3 a2 h

def m_X3_firstOathAmong (a0 : Nat) (a1 : Int32) (a2 : Int32) (h : Hp) : Option (Int32 × Hp) := m_X3_firstOathAmong_L2 FU a0 a1 a2 0 h
set_option maxRecDepth 20000 in
set_option maxHeartbeats 4000000 in
theorem s_X3_firstOathAmong (w : WT) {x : CT} {l : Launch} (hx : xl x = l) (hG : Gd x cX3_firstOathAmong 5 RX3) (hE : Ge x (GC w)) (hR : Rm x 1) (hT : Rt x (some .int)) (a0 : Nat) (p0 : LC a0 = (4, 0)) (a1 : Int32) (a2 : Int32) (h : Hp) : Sn x 5 (gA (GC w)) (0, 0) (ζM x (GC w) inI) (gW (GC w) h) 0 [(0, .ref (gB (GC w) + a0)), (1, .int a1), (2, .int a2)] [] (m_X3_firstOathAmong a0 a1 a2 h) := by
  unfold m_X3_firstOathAmong
  refine s_iconst hG dX3_firstOathAmong_0 ic_0 ?_
  refine s_istore_n (lv' := [(3, .int 0), (0, .ref (gB (GC w) + a0)), (1, .int a1), (2, .int a2)]) hG dX3_firstOathAmong_1 rfl (by decide) rfl ?_
  refine s_lv [1, 2, 3, 0] rfl ?_
  exact s_X3_firstOathAmong_L2 w hx hG hE hR hT FU a0 p0 a1 a2 0 h

theorem c_X3_firstOathAmong (w : WT) (l : Launch) (a0 : Nat) (p0 : LC a0 = (4, 0)) (a1 : Int32) (a2 : Int32) (h : Hp) : ∀ v h', m_X3_firstOathAmong a0 a1 a2 h = some (v, h') → MetM l (GC w) yX3_firstOathAmong cX3_firstOathAmong 5 (some .int) 1 [.ref (gB (GC w) + a0), .int a1, .int a2] h (inI v) h' :=
  met_of (by decide) (lokC w) (Nat.le_of_ble_eq_true rfl) (fun x hx hG hE hR hT => s_X3_firstOathAmong w hx hG hE hR hT a0 p0 a1 a2 h)
def m_X3_hasAmong_L2 : Nat → Nat → Int32 → Int32 → Int32 → Hp → Option (Int32 × Hp)
  | 0, _, _, _, _, _ => none
  | n + 1, a0, a1, a2, a3, h => if (gi h a0 5) ≤ a3 then some (0, h) else ck (inb a3 8) (if (gi h (a0 + 1) a3.toNatClampNeg) = a1 then if ((a2 >>> (a3 &&& 31)) &&& 1) = 1 then some (1, h) else vb (a3 + 1) fun v6 => m_X3_hasAmong_L2 n a0 a1 a2 v6 h else vb (a3 + 1) fun v4 => m_X3_hasAmong_L2 n a0 a1 a2 v4 h)
set_option maxRecDepth 20000 in
set_option maxHeartbeats 4000000 in
theorem s_X3_hasAmong_L2 (w : WT) {x : CT} {l : Launch} (hx : xl x = l) (hG : Gd x cX3_hasAmong 4 RX3) (hE : Ge x (GC w)) (hR : Rm x 1) (hT : Rt x (some .boolean)) : ∀ (n : Nat) (a0 : Nat) (p0 : LC a0 = (4, 0)) (a1 : Int32) (a2 : Int32) (a3 : Int32) (h : Hp), Sn x 4 (gA (GC w)) (0, 0) (ζM x (GC w) inI) (gW (GC w) h) 2 [(0, .ref (gB (GC w) + a0)), (1, .int a1), (2, .int a2), (3, .int a3)] [] (m_X3_hasAmong_L2 n a0 a1 a2 a3 h) := by
  intro n
  induction n with
  | zero => intro a0 p0 a1 a2 a3 h; exact s_none
  | succ n ih =>
    intro a0 p0 a1 a2 a3 h
    rw [m_X3_hasAmong_L2]
    refine s_iload_n hG dX3_hasAmong_2 3 rfl rfl ?_
    refine s_aload_n hG dX3_hasAmong_3 0 rfl rfl ?_
    refine s_getI hG hE dX3_hasAmong_4 fl_X3_27 rfl p0 ?_
    refine s_icmp_ge hG dX3_hasAmong_7 (tgt := 37) (by decide) (fun q1 => ?_) (fun q1 => ?_)
    · refine s_iconst hG dX3_hasAmong_37 ic_0 ?_
      exact s_zret hG hT (by decide) dX3_hasAmong_38
    · refine s_aload_n hG dX3_hasAmong_10 0 rfl rfl ?_
      refine s_getS hG hE dX3_hasAmong_11 fl_X3_9 rfl p0 ((fC_3_0 p0).1) (nzC ((fC_3_0 p0).2)) ?_
      refine s_iload_n hG dX3_hasAmong_14 3 rfl rfl ?_
      refine s_ck (fun q2 => ?_)
      refine s_iald hG hE dX3_hasAmong_15 ((fC_3_0 p0).2) q2 ?_
      refine s_iload_n hG dX3_hasAmong_16 1 rfl rfl ?_
      refine s_icmp_ne hG dX3_hasAmong_17 (tgt := 31) (by decide) (fun q3 => ?_) (fun q3 => ?_)
      · refine s_iload_n hG dX3_hasAmong_20 2 rfl rfl ?_
        refine s_iload_n hG dX3_hasAmong_21 3 rfl rfl ?_
        refine s_ishr hG dX3_hasAmong_22 ?_
        refine s_iconst hG dX3_hasAmong_23 ic_1 ?_
        refine s_iand hG dX3_hasAmong_24 ?_
        refine s_iconst hG dX3_hasAmong_25 ic_1 ?_
        refine s_icmp_ne hG dX3_hasAmong_26 (tgt := 31) (by decide) (fun q5 => ?_) (fun q5 => ?_)
        · refine s_iconst hG dX3_hasAmong_29 ic_1 ?_
          exact s_zret hG hT (by decide) dX3_hasAmong_30
        · refine s_iinc hG dX3_hasAmong_31 3 rfl ic_1 (by decide) (fun v6 => [(3, .int v6), (0, .ref (gB (GC w) + a0)), (1, .int a1), (2, .int a2)]) (fun _ => rfl) (fun v6 => ?_)
          refine s_goto (tgt := 2) hG dX3_hasAmong_34 (by decide) ?_
          refine s_lv [1, 2, 3, 0] rfl ?_
          exact ih a0 p0 a1 a2 v6 h
      · refine s_iinc hG dX3_hasAmong_31 3 rfl ic_1 (by decide) (fun v4 => [(3, .int v4), (0, .ref (gB (GC w) + a0)), (1, .int a1), (2, .int a2)]) (fun _ => rfl) (fun v4 => ?_)
        refine s_goto (tgt := 2) hG dX3_hasAmong_34 (by decide) ?_
        refine s_lv [1, 2, 3, 0] rfl ?_
        exact ih a0 p0 a1 a2 v4 h

def m_X3_hasAmong (a0 : Nat) (a1 : Int32) (a2 : Int32) (h : Hp) : Option (Int32 × Hp) := m_X3_hasAmong_L2 FU a0 a1 a2 0 h
set_option maxRecDepth 20000 in
set_option maxHeartbeats 4000000 in
theorem s_X3_hasAmong (w : WT) {x : CT} {l : Launch} (hx : xl x = l) (hG : Gd x cX3_hasAmong 4 RX3) (hE : Ge x (GC w)) (hR : Rm x 1) (hT : Rt x (some .boolean)) (a0 : Nat) (p0 : LC a0 = (4, 0)) (a1 : Int32) (a2 : Int32) (h : Hp) : Sn x 4 (gA (GC w)) (0, 0) (ζM x (GC w) inI) (gW (GC w) h) 0 [(0, .ref (gB (GC w) + a0)), (1, .int a1), (2, .int a2)] [] (m_X3_hasAmong a0 a1 a2 h) := by
  unfold m_X3_hasAmong
  refine s_iconst hG dX3_hasAmong_0 ic_0 ?_
  refine s_istore_n (lv' := [(3, .int 0), (0, .ref (gB (GC w) + a0)), (1, .int a1), (2, .int a2)]) hG dX3_hasAmong_1 rfl (by decide) rfl ?_
  refine s_lv [1, 2, 3, 0] rfl ?_
  exact s_X3_hasAmong_L2 w hx hG hE hR hT FU a0 p0 a1 a2 0 h

theorem c_X3_hasAmong (w : WT) (l : Launch) (a0 : Nat) (p0 : LC a0 = (4, 0)) (a1 : Int32) (a2 : Int32) (h : Hp) : ∀ v h', m_X3_hasAmong a0 a1 a2 h = some (v, h') → MetM l (GC w) yX3_hasAmong cX3_hasAmong 4 (some .boolean) 1 [.ref (gB (GC w) + a0), .int a1, .int a2] h (inI v) h' :=
  met_of (by decide) (lokC w) (Nat.le_of_ble_eq_true rfl) (fun x hx hG hE hR hT => s_X3_hasAmong w hx hG hE hR hT a0 p0 a1 a2 h)
theorem bc_7 : (Int8.ofInt 7).toInt32 = 7 := by decide
theorem vv_X2_133 : VV RX2 133 yX3_hasAmong cX3_hasAmong 4 (some .boolean) 2 := ⟨⟨gw_at 771 (by decide +kernel) (by decide +kernel), gw_at 774 (by decide +kernel) (by decide +kernel), gw_at 94 (by decide +kernel) (by decide +kernel), by decide +kernel, by decide⟩, gw_at 772 (by decide +kernel) (by decide +kernel), gw_at 773 (by decide +kernel) (by decide +kernel)⟩
theorem fl_X2_95 : FL RX2 95 5 1 := ⟨by decide, by decide, gw_at 202 (by decide +kernel) (by decide +kernel), rfl⟩
theorem fl_X2_117 : FL RX2 117 5 6 := ⟨by decide, by decide, gw_at 211 (by decide +kernel) (by decide +kernel), rfl⟩
theorem fl_X2_146 : FL RX2 146 3 11 := ⟨by decide, by decide, gw_at 367 (by decide +kernel) (by decide +kernel), rfl⟩
def m_X2_comesAlone_L60 (a0 : Nat) (a2 : Int32) (h : Hp) : Option (Int32 × Hp) := ck (kC 3 (gr h a0 6)) (cb (m_X3_hasAmong (gr h a0 6) 7 a2 h) fun v2 h3 => if v2 = 0 then some (5, h3) else some (4, h3))
set_option maxRecDepth 20000 in
set_option maxHeartbeats 4000000 in
theorem s_X2_comesAlone_L60 (w : WT) {x : CT} {l : Launch} (hx : xl x = l) (hG : Gd x cX2_comesAlone 3 RX2) (hE : Ge x (GC w)) (hR : Rm x 2) (hT : Rt x (some .int)) (a0 : Nat) (p0 : LC a0 = (3, 0)) (a2 : Int32) (h : Hp) : Sn x 3 (gA (GC w)) (0, 0) (ζM x (GC w) inI) (gW (GC w) h) 60 [(0, .ref (gB (GC w) + a0)), (2, .int a2)] [] (m_X2_comesAlone_L60 a0 a2 h) := by
  unfold m_X2_comesAlone_L60
  refine s_aload_n hG dX2_comesAlone_60 0 rfl rfl ?_
  refine s_getR hG hE dX2_comesAlone_61 fl_X2_39 rfl p0 ?_
  refine s_ck (fun q1 => ?_)
  refine s_nn (nzC (kC_of q1)) ?_
  refine s_bipush hG dX2_comesAlone_64 bc_7 ?_
  refine s_iload_n hG dX2_comesAlone_66 1 rfl rfl ?_
  refine s_callV (a := gr h a0 6) (c := 3) (inj := inI) (As := [.int 7, .int a2]) (st := []) rfl hG hE dX2_comesAlone_67 hR (by decide) vv_X2_133 (by decide) rfl (kC_of q1) rfl (Nat.le_of_ble_eq_true rfl) rfl (fun zv zh zq => c_X3_hasAmong w (xl x) (gr h a0 6) (kC_of q1) 7 a2 h zv zh zq) (fun v2 h3 => ?_)
  refine s_if_eq hG dX2_comesAlone_70 (tgt := 77) (by decide) (fun q4 => ?_) (fun q4 => ?_)
  · refine s_iconst hG dX2_comesAlone_77 ic_5 ?_
    exact s_iret hG hT dX2_comesAlone_78
  · refine s_iconst hG dX2_comesAlone_73 ic_4 ?_
    refine s_goto (tgt := 78) hG dX2_comesAlone_74 (by decide) ?_
    exact s_iret hG hT dX2_comesAlone_78

def m_X2_comesAlone (a0 : Nat) (a1 : Nat) (a2 : Int32) (h : Hp) : Option (Int32 × Hp) := if (gi h a1 1) = 0 then some (0, h) else ck (kC 3 (gr h a0 6)) (cb (m_X3_hasAmong (gr h a0 6) 0 a2 h) fun v3 h4 => if v3 = 0 then ck (kC 3 (gr h4 a0 6)) (cb (m_X3_hasAmong (gr h4 a0 6) 1 a2 h4) fun v7 h8 => if v7 = 0 then if (gi h8 a1 6) < 0 then m_X2_comesAlone_L60 a0 a2 h8 else ck (kC 3 (gr h8 a0 6)) (if (gi h8 a1 1) < (gi h8 (gr h8 a0 6) 11) then m_X2_comesAlone_L60 a0 a2 h8 else some (3, h8)) else some (2, h8)) else some (1, h4))
set_option maxRecDepth 20000 in
set_option maxHeartbeats 4000000 in
theorem s_X2_comesAlone (w : WT) {x : CT} {l : Launch} (hx : xl x = l) (hG : Gd x cX2_comesAlone 3 RX2) (hE : Ge x (GC w)) (hR : Rm x 2) (hT : Rt x (some .int)) (a0 : Nat) (p0 : LC a0 = (3, 0)) (a1 : Nat) (p1 : LC a1 = (6, 0)) (a2 : Int32) (h : Hp) : Sn x 3 (gA (GC w)) (0, 0) (ζM x (GC w) inI) (gW (GC w) h) 0 [(0, .ref (gB (GC w) + a0)), (1, .ref (gB (GC w) + a1)), (2, .int a2)] [] (m_X2_comesAlone a0 a1 a2 h) := by
  unfold m_X2_comesAlone
  refine s_aload_n hG dX2_comesAlone_0 1 rfl rfl ?_
  refine s_getI hG hE dX2_comesAlone_1 fl_X2_95 rfl p1 ?_
  refine s_if_ne hG dX2_comesAlone_4 (tgt := 9) (by decide) (fun q1 => ?_) (fun q1 => ?_)
  · refine s_iconst hG dX2_comesAlone_7 ic_0 ?_
    exact s_iret hG hT dX2_comesAlone_8
  · refine s_aload_n hG dX2_comesAlone_9 0 rfl rfl ?_
    refine s_getR hG hE dX2_comesAlone_10 fl_X2_39 rfl p0 ?_
    refine s_ck (fun q2 => ?_)
    refine s_nn (nzC (kC_of q2)) ?_
    refine s_iconst hG dX2_comesAlone_13 ic_0 ?_
    refine s_iload_n hG dX2_comesAlone_14 2 rfl rfl ?_
    refine s_callV (a := gr h a0 6) (c := 3) (inj := inI) (As := [.int 0, .int a2]) (st := []) rfl hG hE dX2_comesAlone_15 hR (by decide) vv_X2_133 (by decide) rfl (kC_of q2) rfl (Nat.le_of_ble_eq_true rfl) rfl (fun zv zh zq => c_X3_hasAmong w (xl x) (gr h a0 6) (kC_of q2) 0 a2 h zv zh zq) (fun v3 h4 => ?_)
    refine s_if_eq hG dX2_comesAlone_18 (tgt := 23) (by decide) (fun q5 => ?_) (fun q5 => ?_)
    · refine s_aload_n hG dX2_comesAlone_23 0 rfl rfl ?_
      refine s_getR hG hE dX2_comesAlone_24 fl_X2_39 rfl p0 ?_
      refine s_ck (fun q6 => ?_)
      refine s_nn (nzC (kC_of q6)) ?_
      refine s_iconst hG dX2_comesAlone_27 ic_1 ?_
      refine s_iload_n hG dX2_comesAlone_28 2 rfl rfl ?_
      refine s_callV (a := gr h4 a0 6) (c := 3) (inj := inI) (As := [.int 1, .int a2]) (st := []) rfl hG hE dX2_comesAlone_29 hR (by decide) vv_X2_133 (by decide) rfl (kC_of q6) rfl (Nat.le_of_ble_eq_true rfl) rfl (fun zv zh zq => c_X3_hasAmong w (xl x) (gr h4 a0 6) (kC_of q6) 1 a2 h4 zv zh zq) (fun v7 h8 => ?_)
      refine s_if_eq hG dX2_comesAlone_32 (tgt := 37) (by decide) (fun q9 => ?_) (fun q9 => ?_)
      · refine s_aload_n hG dX2_comesAlone_37 1 rfl rfl ?_
        refine s_getI hG hE dX2_comesAlone_38 fl_X2_117 rfl p1 ?_
        refine s_if_lt hG dX2_comesAlone_41 (tgt := 60) (by decide) (fun q10 => ?_) (fun q10 => ?_)
        · refine s_lv [0, 2] rfl ?_
          exact s_X2_comesAlone_L60 w hx hG hE hR hT a0 p0 a2 h8
        · refine s_aload_n hG dX2_comesAlone_44 1 rfl rfl ?_
          refine s_getI hG hE dX2_comesAlone_45 fl_X2_95 rfl p1 ?_
          refine s_aload_n hG dX2_comesAlone_48 0 rfl rfl ?_
          refine s_getR hG hE dX2_comesAlone_49 fl_X2_39 rfl p0 ?_
          refine s_ck (fun q11 => ?_)
          refine s_nn (nzC (kC_of q11)) ?_
          refine s_getI hG hE dX2_comesAlone_52 fl_X2_146 rfl (kC_of q11) ?_
          refine s_icmp_lt hG dX2_comesAlone_55 (tgt := 60) (by decide) (fun q12 => ?_) (fun q12 => ?_)
          · refine s_lv [0, 2] rfl ?_
            exact s_X2_comesAlone_L60 w hx hG hE hR hT a0 p0 a2 h8
          · refine s_iconst hG dX2_comesAlone_58 ic_3 ?_
            exact s_iret hG hT dX2_comesAlone_59
      · refine s_iconst hG dX2_comesAlone_35 ic_2 ?_
        exact s_iret hG hT dX2_comesAlone_36
    · refine s_iconst hG dX2_comesAlone_21 ic_1 ?_
      exact s_iret hG hT dX2_comesAlone_22

theorem c_X2_comesAlone (w : WT) (l : Launch) (a0 : Nat) (p0 : LC a0 = (3, 0)) (a1 : Nat) (p1 : LC a1 = (6, 0)) (a2 : Int32) (h : Hp) : ∀ v h', m_X2_comesAlone a0 a1 a2 h = some (v, h') → MetM l (GC w) yX2_comesAlone cX2_comesAlone 3 (some .int) 2 [.ref (gB (GC w) + a0), .ref (gB (GC w) + a1), .int a2] h (inI v) h' :=
  met_of (by decide) (lokC w) (Nat.le_of_ble_eq_true rfl) (fun x hx hG hE hR hT => s_X2_comesAlone w hx hG hE hR hT a0 p0 a1 p1 a2 h)
theorem fl_X2_140 : FL RX2 140 5 9 := ⟨by decide, by decide, gw_at 217 (by decide +kernel) (by decide +kernel), rfl⟩
theorem fl_X2_143 : FL RX2 143 5 8 := ⟨by decide, by decide, gw_at 215 (by decide +kernel) (by decide +kernel), rfl⟩
theorem fl_X2_123 : FL RX2 123 5 7 := ⟨by decide, by decide, gw_at 213 (by decide +kernel) (by decide +kernel), rfl⟩
theorem fl_X2_137 : FL RX2 137 5 4 := ⟨by decide, by decide, gw_at 207 (by decide +kernel) (by decide +kernel), rfl⟩
theorem vv_X2_126 : VV RX2 126 yX2_comesAlone cX2_comesAlone 3 (some .int) 2 := ⟨⟨gw_at 767 (by decide +kernel) (by decide +kernel), gw_at 770 (by decide +kernel) (by decide +kernel), gw_at 89 (by decide +kernel) (by decide +kernel), by decide +kernel, by decide⟩, gw_at 769 (by decide +kernel) (by decide +kernel), gw_at 18 (by decide +kernel) (by decide +kernel)⟩
theorem fl_X2_130 : FL RX2 130 5 5 := ⟨by decide, by decide, gw_at 209 (by decide +kernel) (by decide +kernel), rfl⟩
theorem fl_X2_105 : FL RX2 105 5 3 := ⟨by decide, by decide, gw_at 206 (by decide +kernel) (by decide +kernel), rfl⟩
theorem vv_X2_108 : VV RX2 108 yX3_holding cX3_holding 5 (some .int) 2 := ⟨⟨gw_at 747 (by decide +kernel) (by decide +kernel), gw_at 750 (by decide +kernel) (by decide +kernel), gw_at 94 (by decide +kernel) (by decide +kernel), by decide +kernel, by decide⟩, gw_at 748 (by decide +kernel) (by decide +kernel), gw_at 749 (by decide +kernel) (by decide +kernel)⟩
theorem vv_X2_114 : VV RX2 114 yX3_firstOathAmong cX3_firstOathAmong 5 (some .int) 2 := ⟨⟨gw_at 763 (by decide +kernel) (by decide +kernel), gw_at 766 (by decide +kernel) (by decide +kernel), gw_at 94 (by decide +kernel) (by decide +kernel), by decide +kernel, by decide⟩, gw_at 764 (by decide +kernel) (by decide +kernel), gw_at 765 (by decide +kernel) (by decide +kernel)⟩
theorem fl_X2_120 : FL RX2 120 3 1 := ⟨by decide, by decide, gw_at 347 (by decide +kernel) (by decide +kernel), rfl⟩
theorem fl_X2_101 : FL RX2 101 5 2 := ⟨by decide, by decide, gw_at 204 (by decide +kernel) (by decide +kernel), rfl⟩
theorem fl_X2_98 : FL RX2 98 0 9 := ⟨by decide, by decide, gw_at 174 (by decide +kernel) (by decide +kernel), rfl⟩
theorem fl_X2_79 : FL RX2 79 0 1 := ⟨by decide, by decide, gw_at 161 (by decide +kernel) (by decide +kernel), rfl⟩
theorem fl_X2_82 : FL RX2 82 0 3 := ⟨by decide, by decide, gw_at 165 (by decide +kernel) (by decide +kernel), rfl⟩
theorem fl_X2_94 : FL RX2 94 5 0 := ⟨by decide, by decide, gw_at 201 (by decide +kernel) (by decide +kernel), rfl⟩
def m_X2_weigh_L226 (a2 : Nat) (a5 : Int32) (t0 : Int32) (t1 : Nat) (h : Hp) : Option (Unit × Hp) := hb (si h t1 9 t0) fun h1 => hb (si h1 a2 8 (gi h1 a2 9)) fun h2 => if (gi h2 a2 7) = 6 then if a5 = 0 then some ((), h2) else hb (si h2 a2 8 1) fun h5 => some ((), h5) else some ((), h2)
set_option maxRecDepth 20000 in
set_option maxHeartbeats 4000000 in
theorem s_X2_weigh_L226 (w : WT) {x : CT} {l : Launch} (hx : xl x = l) (hG : Gd x cX2_weigh 7 RX2) (hE : Ge x (GC w)) (hR : Rm x 4) (hT : Rt x none) (a2 : Nat) (p2 : LC a2 = (6, 0)) (a5 : Int32) (t0 : Int32) (t1 : Nat) (q1 : LC t1 = (6, 0)) (h : Hp) : Sn x 7 (gA (GC w)) (0, 0) (ζM x (GC w) inV) (gW (GC w) h) 226 [(2, .ref (gB (GC w) + a2)), (5, .int a5)] [.int t0, .ref (gB (GC w) + t1)] (m_X2_weigh_L226 a2 a5 t0 t1 h) := by
  unfold m_X2_weigh_L226
  refine s_putI hG hE dX2_weigh_226 fl_X2_140 rfl rfl q1 (fun h1 => ?_)
  refine s_aload_n hG dX2_weigh_229 0 rfl rfl ?_
  refine s_aload_n hG dX2_weigh_230 0 rfl rfl ?_
  refine s_getI hG hE dX2_weigh_231 fl_X2_140 rfl p2 ?_
  refine s_putI hG hE dX2_weigh_234 fl_X2_143 rfl rfl p2 (fun h2 => ?_)
  refine s_aload_n hG dX2_weigh_237 0 rfl rfl ?_
  refine s_getI hG hE dX2_weigh_238 fl_X2_123 rfl p2 ?_
  refine s_bipush hG dX2_weigh_241 bc_6 ?_
  refine s_icmp_ne hG dX2_weigh_243 (tgt := 256) (by decide) (fun q3 => ?_) (fun q3 => ?_)
  · refine s_iload hG dX2_weigh_246 1 rfl ?_
    refine s_if_eq hG dX2_weigh_248 (tgt := 256) (by decide) (fun q4 => ?_) (fun q4 => ?_)
    · exact s_vret hG hT dX2_weigh_256
    · refine s_aload_n hG dX2_weigh_251 0 rfl rfl ?_
      refine s_iconst hG dX2_weigh_252 ic_1 ?_
      refine s_putI hG hE dX2_weigh_253 fl_X2_143 rfl rfl p2 (fun h5 => ?_)
      exact s_vret hG hT dX2_weigh_256
  · exact s_vret hG hT dX2_weigh_256

def m_X2_weigh_L203 (a2 : Nat) (a5 : Int32) (a6 : Int32) (t0 : Int32) (t1 : Nat) (h : Hp) : Option (Unit × Hp) := ck (isb t0) (hb (si h t1 4 t0) fun h1 => if a6 = 0 then if a5 = 0 then m_X2_weigh_L226 a2 a5 2 a2 h1 else m_X2_weigh_L226 a2 a5 1 a2 h1 else m_X2_weigh_L226 a2 a5 0 a2 h1)
set_option maxRecDepth 20000 in
set_option maxHeartbeats 4000000 in
theorem s_X2_weigh_L203 (w : WT) {x : CT} {l : Launch} (hx : xl x = l) (hG : Gd x cX2_weigh 7 RX2) (hE : Ge x (GC w)) (hR : Rm x 4) (hT : Rt x none) (a2 : Nat) (p2 : LC a2 = (6, 0)) (a5 : Int32) (a6 : Int32) (t0 : Int32) (t1 : Nat) (q1 : LC t1 = (6, 0)) (h : Hp) : Sn x 7 (gA (GC w)) (0, 0) (ζM x (GC w) inV) (gW (GC w) h) 203 [(2, .ref (gB (GC w) + a2)), (5, .int a5), (6, .int a6)] [.int t0, .ref (gB (GC w) + t1)] (m_X2_weigh_L203 a2 a5 a6 t0 t1 h) := by
  unfold m_X2_weigh_L203
  refine s_ck (fun q2 => ?_)
  refine s_putZ hG hE dX2_weigh_203 fl_X2_137 rfl rfl (isb_cases q2) q1 (fun h1 => ?_)
  refine s_aload_n hG dX2_weigh_206 0 rfl rfl ?_
  refine s_iload hG dX2_weigh_207 2 rfl ?_
  refine s_if_eq hG dX2_weigh_209 (tgt := 216) (by decide) (fun q3 => ?_) (fun q3 => ?_)
  · refine s_iload hG dX2_weigh_216 1 rfl ?_
    refine s_if_eq hG dX2_weigh_218 (tgt := 225) (by decide) (fun q4 => ?_) (fun q4 => ?_)
    · refine s_iconst hG dX2_weigh_225 ic_2 ?_
      refine s_lv [0, 1] rfl ?_
      exact s_X2_weigh_L226 w hx hG hE hR hT a2 p2 a5 2 a2 p2 h1
    · refine s_iconst hG dX2_weigh_221 ic_1 ?_
      refine s_goto (tgt := 226) hG dX2_weigh_222 (by decide) ?_
      refine s_lv [0, 1] rfl ?_
      exact s_X2_weigh_L226 w hx hG hE hR hT a2 p2 a5 1 a2 p2 h1
  · refine s_iconst hG dX2_weigh_212 ic_0 ?_
    refine s_goto (tgt := 226) hG dX2_weigh_213 (by decide) ?_
    refine s_lv [0, 1] rfl ?_
    exact s_X2_weigh_L226 w hx hG hE hR hT a2 p2 a5 0 a2 p2 h1

def m_X2_weigh_L202 (a2 : Nat) (a5 : Int32) (a6 : Int32) (t0 : Nat) (h : Hp) : Option (Unit × Hp) := m_X2_weigh_L203 a2 a5 a6 0 t0 h
set_option maxRecDepth 20000 in
set_option maxHeartbeats 4000000 in
theorem s_X2_weigh_L202 (w : WT) {x : CT} {l : Launch} (hx : xl x = l) (hG : Gd x cX2_weigh 7 RX2) (hE : Ge x (GC w)) (hR : Rm x 4) (hT : Rt x none) (a2 : Nat) (p2 : LC a2 = (6, 0)) (a5 : Int32) (a6 : Int32) (t0 : Nat) (q0 : LC t0 = (6, 0)) (h : Hp) : Sn x 7 (gA (GC w)) (0, 0) (ζM x (GC w) inV) (gW (GC w) h) 202 [(2, .ref (gB (GC w) + a2)), (5, .int a5), (6, .int a6)] [.ref (gB (GC w) + t0)] (m_X2_weigh_L202 a2 a5 a6 t0 h) := by
  unfold m_X2_weigh_L202
  refine s_iconst hG dX2_weigh_202 ic_0 ?_
  exact s_X2_weigh_L203 w hx hG hE hR hT a2 p2 a5 a6 0 t0 q0 h

def m_X2_weigh_L177 (a0 : Nat) (a2 : Nat) (a3 : Int32) (a5 : Int32) (t0 : Int32) (h : Hp) : Option (Unit × Hp) := if a5 = 0 then m_X2_weigh_L202 a2 a5 t0 a2 h else ck (kC 3 (gr h a0 6)) (cb (m_X3_hasAmong (gr h a0 6) 6 a3 h) fun v3 h4 => if v3 = 0 then m_X2_weigh_L202 a2 a5 t0 a2 h4 else m_X2_weigh_L203 a2 a5 t0 1 a2 h4)
set_option maxRecDepth 20000 in
set_option maxHeartbeats 4000000 in
theorem s_X2_weigh_L177 (w : WT) {x : CT} {l : Launch} (hx : xl x = l) (hG : Gd x cX2_weigh 7 RX2) (hE : Ge x (GC w)) (hR : Rm x 4) (hT : Rt x none) (a0 : Nat) (p0 : LC a0 = (3, 0)) (a2 : Nat) (p2 : LC a2 = (6, 0)) (a3 : Int32) (a5 : Int32) (t0 : Int32) (h : Hp) : Sn x 7 (gA (GC w)) (0, 0) (ζM x (GC w) inV) (gW (GC w) h) 177 [(0, .ref (gB (GC w) + a0)), (2, .ref (gB (GC w) + a2)), (3, .int a3), (5, .int a5)] [.int t0] (m_X2_weigh_L177 a0 a2 a3 a5 t0 h) := by
  unfold m_X2_weigh_L177
  refine s_istore (lv' := [(6, .int t0), (0, .ref (gB (GC w) + a0)), (2, .ref (gB (GC w) + a2)), (3, .int a3), (5, .int a5)]) hG dX2_weigh_177 (by decide) rfl ?_
  refine s_aload_n hG dX2_weigh_179 2 rfl rfl ?_
  refine s_iload hG dX2_weigh_180 4 rfl ?_
  refine s_if_eq hG dX2_weigh_182 (tgt := 202) (by decide) (fun q1 => ?_) (fun q1 => ?_)
  · refine s_lv [2, 4, 0] rfl ?_
    exact s_X2_weigh_L202 w hx hG hE hR hT a2 p2 a5 t0 a2 p2 h
  · refine s_aload_n hG dX2_weigh_185 1 rfl rfl ?_
    refine s_getR hG hE dX2_weigh_186 fl_X2_39 rfl p0 ?_
    refine s_ck (fun q2 => ?_)
    refine s_nn (nzC (kC_of q2)) ?_
    refine s_bipush hG dX2_weigh_189 bc_6 ?_
    refine s_iload_n hG dX2_weigh_191 3 rfl rfl ?_
    refine s_callV (a := gr h a0 6) (c := 3) (inj := inI) (As := [.int 6, .int a3]) (st := [.ref (gB (GC w) + a2)]) rfl hG hE dX2_weigh_192 hR (by decide) vv_X2_133 (by decide) rfl (kC_of q2) rfl (Nat.le_of_ble_eq_true rfl) rfl (fun zv zh zq => c_X3_hasAmong w (xl x) (gr h a0 6) (kC_of q2) 6 a3 h zv zh zq) (fun v3 h4 => ?_)
    refine s_if_eq hG dX2_weigh_195 (tgt := 202) (by decide) (fun q5 => ?_) (fun q5 => ?_)
    · refine s_lv [2, 4, 0] rfl ?_
      exact s_X2_weigh_L202 w hx hG hE hR hT a2 p2 a5 t0 a2 p2 h4
    · refine s_iconst hG dX2_weigh_198 ic_1 ?_
      refine s_goto (tgt := 203) hG dX2_weigh_199 (by decide) ?_
      refine s_lv [2, 4, 0] rfl ?_
      exact s_X2_weigh_L203 w hx hG hE hR hT a2 p2 a5 t0 1 a2 p2 h4

def m_X2_weigh_L157 (a0 : Nat) (a2 : Nat) (a3 : Int32) (a4 : Int32) (t0 : Int32) (h : Hp) : Option (Unit × Hp) := ck (kC 3 (gr h a0 6)) (cb (m_X3_hasAmong (gr h a0 6) 3 a4 h) fun v2 h3 => if v2 = 0 then m_X2_weigh_L177 a0 a2 a3 t0 1 h3 else m_X2_weigh_L177 a0 a2 a3 t0 0 h3)
set_option maxRecDepth 20000 in
set_option maxHeartbeats 4000000 in
theorem s_X2_weigh_L157 (w : WT) {x : CT} {l : Launch} (hx : xl x = l) (hG : Gd x cX2_weigh 7 RX2) (hE : Ge x (GC w)) (hR : Rm x 4) (hT : Rt x none) (a0 : Nat) (p0 : LC a0 = (3, 0)) (a2 : Nat) (p2 : LC a2 = (6, 0)) (a3 : Int32) (a4 : Int32) (t0 : Int32) (h : Hp) : Sn x 7 (gA (GC w)) (0, 0) (ζM x (GC w) inV) (gW (GC w) h) 157 [(0, .ref (gB (GC w) + a0)), (2, .ref (gB (GC w) + a2)), (3, .int a3), (4, .int a4)] [.int t0] (m_X2_weigh_L157 a0 a2 a3 a4 t0 h) := by
  unfold m_X2_weigh_L157
  refine s_istore (lv' := [(5, .int t0), (0, .ref (gB (GC w) + a0)), (2, .ref (gB (GC w) + a2)), (3, .int a3), (4, .int a4)]) hG dX2_weigh_157 (by decide) rfl ?_
  refine s_aload_n hG dX2_weigh_159 1 rfl rfl ?_
  refine s_getR hG hE dX2_weigh_160 fl_X2_39 rfl p0 ?_
  refine s_ck (fun q1 => ?_)
  refine s_nn (nzC (kC_of q1)) ?_
  refine s_iconst hG dX2_weigh_163 ic_3 ?_
  refine s_iload hG dX2_weigh_164 4 rfl ?_
  refine s_callV (a := gr h a0 6) (c := 3) (inj := inI) (As := [.int 3, .int a4]) (st := []) rfl hG hE dX2_weigh_166 hR (by decide) vv_X2_133 (by decide) rfl (kC_of q1) rfl (Nat.le_of_ble_eq_true rfl) rfl (fun zv zh zq => c_X3_hasAmong w (xl x) (gr h a0 6) (kC_of q1) 3 a4 h zv zh zq) (fun v2 h3 => ?_)
  refine s_if_ne hG dX2_weigh_169 (tgt := 176) (by decide) (fun q4 => ?_) (fun q4 => ?_)
  · refine s_iconst hG dX2_weigh_172 ic_1 ?_
    refine s_goto (tgt := 177) hG dX2_weigh_173 (by decide) ?_
    refine s_lv [1, 2, 3, 0] rfl ?_
    exact s_X2_weigh_L177 w hx hG hE hR hT a0 p0 a2 p2 a3 t0 1 h3
  · refine s_iconst hG dX2_weigh_176 ic_0 ?_
    refine s_lv [1, 2, 3, 0] rfl ?_
    exact s_X2_weigh_L177 w hx hG hE hR hT a0 p0 a2 p2 a3 t0 0 h3

def m_X2_weigh_L126 (a0 : Nat) (a2 : Nat) (a3 : Int32) (a4 : Int32) (t0 : Int32) (t1 : Nat) (h : Hp) : Option (Unit × Hp) := hb (si h t1 7 t0) fun h1 => cb (m_X2_comesAlone a0 a2 a4 h1) fun v2 h3 => hb (si h3 a2 5 v2) fun h4 => ck (kC 3 (gr h4 a0 6)) (cb (m_X3_hasAmong (gr h4 a0 6) 3 a3 h4) fun v6 h7 => if v6 = 0 then m_X2_weigh_L157 a0 a2 a3 a4 1 h7 else m_X2_weigh_L157 a0 a2 a3 a4 0 h7)
set_option maxRecDepth 20000 in
set_option maxHeartbeats 4000000 in
theorem s_X2_weigh_L126 (w : WT) {x : CT} {l : Launch} (hx : xl x = l) (hG : Gd x cX2_weigh 7 RX2) (hE : Ge x (GC w)) (hR : Rm x 4) (hT : Rt x none) (a0 : Nat) (p0 : LC a0 = (3, 0)) (a2 : Nat) (p2 : LC a2 = (6, 0)) (a3 : Int32) (a4 : Int32) (t0 : Int32) (t1 : Nat) (q1 : LC t1 = (6, 0)) (h : Hp) : Sn x 7 (gA (GC w)) (0, 0) (ζM x (GC w) inV) (gW (GC w) h) 126 [(0, .ref (gB (GC w) + a0)), (2, .ref (gB (GC w) + a2)), (3, .int a3), (4, .int a4)] [.int t0, .ref (gB (GC w) + t1)] (m_X2_weigh_L126 a0 a2 a3 a4 t0 t1 h) := by
  unfold m_X2_weigh_L126
  refine s_putI hG hE dX2_weigh_126 fl_X2_123 rfl rfl q1 (fun h1 => ?_)
  refine s_aload_n hG dX2_weigh_129 1 rfl rfl ?_
  refine s_aload_n hG dX2_weigh_130 0 rfl rfl ?_
  refine s_aload_n hG dX2_weigh_131 1 rfl rfl ?_
  refine s_iload hG dX2_weigh_132 3 rfl ?_
  refine s_callV (a := a0) (c := 2) (inj := inI) (As := [.ref (gB (GC w) + a2), .int a4]) (st := [.ref (gB (GC w) + a2)]) rfl hG hE dX2_weigh_134 hR (by decide) vv_X2_126 (by decide) rfl p0 rfl (Nat.le_of_ble_eq_true rfl) rfl (fun zv zh zq => c_X2_comesAlone w (xl x) a0 p0 a2 p2 a4 h1 zv zh zq) (fun v2 h3 => ?_)
  refine s_putI hG hE dX2_weigh_137 fl_X2_130 rfl rfl p2 (fun h4 => ?_)
  refine s_aload_n hG dX2_weigh_140 0 rfl rfl ?_
  refine s_getR hG hE dX2_weigh_141 fl_X2_39 rfl p0 ?_
  refine s_ck (fun q5 => ?_)
  refine s_nn (nzC (kC_of q5)) ?_
  refine s_iconst hG dX2_weigh_144 ic_3 ?_
  refine s_iload_n hG dX2_weigh_145 2 rfl rfl ?_
  refine s_callV (a := gr h4 a0 6) (c := 3) (inj := inI) (As := [.int 3, .int a3]) (st := []) rfl hG hE dX2_weigh_146 hR (by decide) vv_X2_133 (by decide) rfl (kC_of q5) rfl (Nat.le_of_ble_eq_true rfl) rfl (fun zv zh zq => c_X3_hasAmong w (xl x) (gr h4 a0 6) (kC_of q5) 3 a3 h4 zv zh zq) (fun v6 h7 => ?_)
  refine s_if_ne hG dX2_weigh_149 (tgt := 156) (by decide) (fun q8 => ?_) (fun q8 => ?_)
  · refine s_iconst hG dX2_weigh_152 ic_1 ?_
    refine s_goto (tgt := 157) hG dX2_weigh_153 (by decide) ?_
    exact s_X2_weigh_L157 w hx hG hE hR hT a0 p0 a2 p2 a3 a4 1 h7
  · refine s_iconst hG dX2_weigh_156 ic_0 ?_
    exact s_X2_weigh_L157 w hx hG hE hR hT a0 p0 a2 p2 a3 a4 0 h7

def m_X2_weigh_L58 (a0 : Nat) (a1 : Nat) (a2 : Nat) (t0 : Int32) (t1 : Nat) (h : Hp) : Option (Unit × Hp) := ck (isb t0) (hb (si h t1 3 t0) fun h1 => ck (kC 3 (gr h1 a0 6)) (cb (m_X3_holding (gr h1 a0 6) a1 (gi h1 a0 7) h1) fun v4 h5 => ck (kC 3 (gr h5 a0 6)) (cb (m_X3_holding (gr h5 a0 6) a1 (gi h5 a0 8) h5) fun v7 h8 => ck (kC 3 (gr h8 a0 6)) (cb (m_X3_firstOathAmong (gr h8 a0 6) v4 v7 h8) fun v10 h11 => hb (si h11 a2 6 v10) fun h12 => if 0 ≤ (gi h12 a2 6) then ck (kC 3 (gr h12 a0 6)) (ck (inb (gi h12 a2 6) 8) (m_X2_weigh_L126 a0 a2 v4 v7 (gi h12 (gr h12 a0 6 + 2) (gi h12 a2 6).toNatClampNeg) a2 h12)) else m_X2_weigh_L126 a0 a2 v4 v7 0 a2 h12))))
set_option maxRecDepth 20000 in
set_option maxHeartbeats 4000000 in
theorem s_X2_weigh_L58 (w : WT) {x : CT} {l : Launch} (hx : xl x = l) (hG : Gd x cX2_weigh 7 RX2) (hE : Ge x (GC w)) (hR : Rm x 4) (hT : Rt x none) (a0 : Nat) (p0 : LC a0 = (3, 0)) (a1 : Nat) (p1 : LC a1 = (1, 0)) (a2 : Nat) (p2 : LC a2 = (6, 0)) (t0 : Int32) (t1 : Nat) (q1 : LC t1 = (6, 0)) (h : Hp) : Sn x 7 (gA (GC w)) (0, 0) (ζM x (GC w) inV) (gW (GC w) h) 58 [(0, .ref (gB (GC w) + a0)), (1, .ref (gB (GC w) + a1)), (2, .ref (gB (GC w) + a2))] [.int t0, .ref (gB (GC w) + t1)] (m_X2_weigh_L58 a0 a1 a2 t0 t1 h) := by
  unfold m_X2_weigh_L58
  refine s_ck (fun q2 => ?_)
  refine s_putZ hG hE dX2_weigh_58 fl_X2_105 rfl rfl (isb_cases q2) q1 (fun h1 => ?_)
  refine s_aload_n hG dX2_weigh_61 0 rfl rfl ?_
  refine s_getR hG hE dX2_weigh_62 fl_X2_39 rfl p0 ?_
  refine s_ck (fun q3 => ?_)
  refine s_nn (nzC (kC_of q3)) ?_
  refine s_aload_n hG dX2_weigh_65 1 rfl rfl ?_
  refine s_aload_n hG dX2_weigh_66 0 rfl rfl ?_
  refine s_getI hG hE dX2_weigh_67 fl_X2_43 rfl p0 ?_
  refine s_callV (a := gr h1 a0 6) (c := 3) (inj := inI) (As := [.ref (gB (GC w) + a1), .int (gi h1 a0 7)]) (st := []) rfl hG hE dX2_weigh_70 hR (by decide) vv_X2_108 (by decide) rfl (kC_of q3) rfl (Nat.le_of_ble_eq_true rfl) rfl (fun zv zh zq => c_X3_holding w (xl x) (gr h1 a0 6) (kC_of q3) a1 p1 (gi h1 a0 7) h1 zv zh zq) (fun v4 h5 => ?_)
  refine s_istore_n (lv' := [(3, .int v4), (0, .ref (gB (GC w) + a0)), (1, .ref (gB (GC w) + a1)), (2, .ref (gB (GC w) + a2))]) hG dX2_weigh_73 rfl (by decide) rfl ?_
  refine s_aload_n hG dX2_weigh_74 1 rfl rfl ?_
  refine s_getR hG hE dX2_weigh_75 fl_X2_39 rfl p0 ?_
  refine s_ck (fun q6 => ?_)
  refine s_nn (nzC (kC_of q6)) ?_
  refine s_aload_n hG dX2_weigh_78 2 rfl rfl ?_
  refine s_aload_n hG dX2_weigh_79 1 rfl rfl ?_
  refine s_getI hG hE dX2_weigh_80 fl_X2_47 rfl p0 ?_
  refine s_callV (a := gr h5 a0 6) (c := 3) (inj := inI) (As := [.ref (gB (GC w) + a1), .int (gi h5 a0 8)]) (st := []) rfl hG hE dX2_weigh_83 hR (by decide) vv_X2_108 (by decide) rfl (kC_of q6) rfl (Nat.le_of_ble_eq_true rfl) rfl (fun zv zh zq => c_X3_holding w (xl x) (gr h5 a0 6) (kC_of q6) a1 p1 (gi h5 a0 8) h5 zv zh zq) (fun v7 h8 => ?_)
  refine s_istore (lv' := [(4, .int v7), (3, .int v4), (0, .ref (gB (GC w) + a0)), (1, .ref (gB (GC w) + a1)), (2, .ref (gB (GC w) + a2))]) hG dX2_weigh_86 (by decide) rfl ?_
  refine s_aload_n hG dX2_weigh_88 4 rfl rfl ?_
  refine s_aload_n hG dX2_weigh_89 2 rfl rfl ?_
  refine s_getR hG hE dX2_weigh_90 fl_X2_39 rfl p0 ?_
  refine s_ck (fun q9 => ?_)
  refine s_nn (nzC (kC_of q9)) ?_
  refine s_iload_n hG dX2_weigh_93 1 rfl rfl ?_
  refine s_iload hG dX2_weigh_94 0 rfl ?_
  refine s_callV (a := gr h8 a0 6) (c := 3) (inj := inI) (As := [.int v4, .int v7]) (st := [.ref (gB (GC w) + a2)]) rfl hG hE dX2_weigh_96 hR (by decide) vv_X2_114 (by decide) rfl (kC_of q9) rfl (Nat.le_of_ble_eq_true rfl) rfl (fun zv zh zq => c_X3_firstOathAmong w (xl x) (gr h8 a0 6) (kC_of q9) v4 v7 h8 zv zh zq) (fun v10 h11 => ?_)
  refine s_putI hG hE dX2_weigh_99 fl_X2_117 rfl rfl p2 (fun h12 => ?_)
  refine s_aload_n hG dX2_weigh_102 4 rfl rfl ?_
  refine s_aload_n hG dX2_weigh_103 4 rfl rfl ?_
  refine s_getI hG hE dX2_weigh_104 fl_X2_117 rfl p2 ?_
  refine s_if_ge hG dX2_weigh_107 (tgt := 114) (by decide) (fun q13 => ?_) (fun q13 => ?_)
  · refine s_aload_n hG dX2_weigh_114 2 rfl rfl ?_
    refine s_getR hG hE dX2_weigh_115 fl_X2_39 rfl p0 ?_
    refine s_ck (fun q14 => ?_)
    refine s_nn (nzC (kC_of q14)) ?_
    refine s_getS hG hE dX2_weigh_118 fl_X2_120 rfl (kC_of q14) ((fC_3_1 (kC_of q14)).1) (nzC ((fC_3_1 (kC_of q14)).2)) ?_
    refine s_aload_n hG dX2_weigh_121 4 rfl rfl ?_
    refine s_getI hG hE dX2_weigh_122 fl_X2_117 rfl p2 ?_
    refine s_ck (fun q15 => ?_)
    refine s_iald hG hE dX2_weigh_125 ((fC_3_1 (kC_of q14)).2) q15 ?_
    refine s_lv [2, 4, 1, 0] rfl ?_
    exact s_X2_weigh_L126 w hx hG hE hR hT a0 p0 a2 p2 v4 v7 (gi h12 (gr h12 a0 6 + 2) (gi h12 a2 6).toNatClampNeg) a2 p2 h12
  · refine s_iconst hG dX2_weigh_110 ic_0 ?_
    refine s_goto (tgt := 126) hG dX2_weigh_111 (by decide) ?_
    refine s_lv [2, 4, 1, 0] rfl ?_
    exact s_X2_weigh_L126 w hx hG hE hR hT a0 p0 a2 p2 v4 v7 0 a2 p2 h12

def m_X2_weigh_L38 (a0 : Nat) (a1 : Nat) (a2 : Nat) (t0 : Int32) (t1 : Nat) (h : Hp) : Option (Unit × Hp) := ck (isb t0) (hb (si h t1 2 t0) fun h1 => if (gi h1 a1 9) < (gi h1 a1 1) then m_X2_weigh_L58 a0 a1 a2 0 a2 h1 else m_X2_weigh_L58 a0 a1 a2 1 a2 h1)
set_option maxRecDepth 20000 in
set_option maxHeartbeats 4000000 in
theorem s_X2_weigh_L38 (w : WT) {x : CT} {l : Launch} (hx : xl x = l) (hG : Gd x cX2_weigh 7 RX2) (hE : Ge x (GC w)) (hR : Rm x 4) (hT : Rt x none) (a0 : Nat) (p0 : LC a0 = (3, 0)) (a1 : Nat) (p1 : LC a1 = (1, 0)) (a2 : Nat) (p2 : LC a2 = (6, 0)) (t0 : Int32) (t1 : Nat) (q1 : LC t1 = (6, 0)) (h : Hp) : Sn x 7 (gA (GC w)) (0, 0) (ζM x (GC w) inV) (gW (GC w) h) 38 [(0, .ref (gB (GC w) + a0)), (1, .ref (gB (GC w) + a1)), (2, .ref (gB (GC w) + a2))] [.int t0, .ref (gB (GC w) + t1)] (m_X2_weigh_L38 a0 a1 a2 t0 t1 h) := by
  unfold m_X2_weigh_L38
  refine s_ck (fun q2 => ?_)
  refine s_putZ hG hE dX2_weigh_38 fl_X2_101 rfl rfl (isb_cases q2) q1 (fun h1 => ?_)
  refine s_aload_n hG dX2_weigh_41 2 rfl rfl ?_
  refine s_aload_n hG dX2_weigh_42 1 rfl rfl ?_
  refine s_getI hG hE dX2_weigh_43 fl_X2_98 rfl p1 ?_
  refine s_aload_n hG dX2_weigh_46 1 rfl rfl ?_
  refine s_getI hG hE dX2_weigh_47 fl_X2_79 rfl p1 ?_
  refine s_icmp_lt hG dX2_weigh_50 (tgt := 57) (by decide) (fun q3 => ?_) (fun q3 => ?_)
  · refine s_iconst hG dX2_weigh_57 ic_0 ?_
    exact s_X2_weigh_L58 w hx hG hE hR hT a0 p0 a1 p1 a2 p2 0 a2 p2 h1
  · refine s_iconst hG dX2_weigh_53 ic_1 ?_
    refine s_goto (tgt := 58) hG dX2_weigh_54 (by decide) ?_
    exact s_X2_weigh_L58 w hx hG hE hR hT a0 p0 a1 p1 a2 p2 1 a2 p2 h1

def m_X2_weigh (a0 : Nat) (a1 : Nat) (a2 : Nat) (h : Hp) : Option (Unit × Hp) := hb (si h a2 0 (gi h a1 3)) fun h1 => hb (si h1 a2 1 ((gi h1 a1 1) - (gi h1 a1 3))) fun h2 => if (gi h2 a1 3) < (gi h2 a1 9) then m_X2_weigh_L38 a0 a1 a2 0 a2 h2 else m_X2_weigh_L38 a0 a1 a2 1 a2 h2
set_option maxRecDepth 20000 in
set_option maxHeartbeats 4000000 in
theorem s_X2_weigh (w : WT) {x : CT} {l : Launch} (hx : xl x = l) (hG : Gd x cX2_weigh 7 RX2) (hE : Ge x (GC w)) (hR : Rm x 4) (hT : Rt x none) (a0 : Nat) (p0 : LC a0 = (3, 0)) (a1 : Nat) (p1 : LC a1 = (1, 0)) (a2 : Nat) (p2 : LC a2 = (6, 0)) (h : Hp) : Sn x 7 (gA (GC w)) (0, 0) (ζM x (GC w) inV) (gW (GC w) h) 0 [(0, .ref (gB (GC w) + a0)), (1, .ref (gB (GC w) + a1)), (2, .ref (gB (GC w) + a2))] [] (m_X2_weigh a0 a1 a2 h) := by
  unfold m_X2_weigh
  refine s_aload_n hG dX2_weigh_0 2 rfl rfl ?_
  refine s_aload_n hG dX2_weigh_1 1 rfl rfl ?_
  refine s_getI hG hE dX2_weigh_2 fl_X2_82 rfl p1 ?_
  refine s_putI hG hE dX2_weigh_5 fl_X2_94 rfl rfl p2 (fun h1 => ?_)
  refine s_aload_n hG dX2_weigh_8 2 rfl rfl ?_
  refine s_aload_n hG dX2_weigh_9 1 rfl rfl ?_
  refine s_getI hG hE dX2_weigh_10 fl_X2_79 rfl p1 ?_
  refine s_aload_n hG dX2_weigh_13 1 rfl rfl ?_
  refine s_getI hG hE dX2_weigh_14 fl_X2_82 rfl p1 ?_
  refine s_isub hG dX2_weigh_17 ?_
  refine s_putI hG hE dX2_weigh_18 fl_X2_95 rfl rfl p2 (fun h2 => ?_)
  refine s_aload_n hG dX2_weigh_21 2 rfl rfl ?_
  refine s_aload_n hG dX2_weigh_22 1 rfl rfl ?_
  refine s_getI hG hE dX2_weigh_23 fl_X2_98 rfl p1 ?_
  refine s_aload_n hG dX2_weigh_26 1 rfl rfl ?_
  refine s_getI hG hE dX2_weigh_27 fl_X2_82 rfl p1 ?_
  refine s_icmp_gt hG dX2_weigh_30 (tgt := 37) (by decide) (fun q3 => ?_) (fun q3 => ?_)
  · refine s_iconst hG dX2_weigh_37 ic_0 ?_
    exact s_X2_weigh_L38 w hx hG hE hR hT a0 p0 a1 p1 a2 p2 0 a2 p2 h2
  · refine s_iconst hG dX2_weigh_33 ic_1 ?_
    refine s_goto (tgt := 38) hG dX2_weigh_34 (by decide) ?_
    exact s_X2_weigh_L38 w hx hG hE hR hT a0 p0 a1 p1 a2 p2 1 a2 p2 h2

theorem c_X2_weigh (w : WT) (l : Launch) (a0 : Nat) (p0 : LC a0 = (3, 0)) (a1 : Nat) (p1 : LC a1 = (1, 0)) (a2 : Nat) (p2 : LC a2 = (6, 0)) (h : Hp) : ∀ v h', m_X2_weigh a0 a1 a2 h = some (v, h') → MetM l (GC w) yX2_weigh cX2_weigh 7 none 4 [.ref (gB (GC w) + a0), .ref (gB (GC w) + a1), .ref (gB (GC w) + a2)] h (inV v) h' :=
  met_of (by decide) (lokC w) (Nat.le_of_ble_eq_true rfl) (fun x hx hG hE hR hT => s_X2_weigh w hx hG hE hR hT a0 p0 a1 p1 a2 p2 h)
theorem fl_X2_29 : FL RX2 29 2 4 := ⟨by decide, by decide, gw_at 262 (by decide +kernel) (by decide +kernel), rfl⟩
theorem fC_2_4 {a : Nat} (h : LC a = (3, 0)) : SC a 4 = some (a + 5) ∧ LC (a + 5) = (20, 6) := by
  rcases iC_2 h with rfl | rfl <;> exact ⟨rfl, rfl⟩
theorem fl_X2_25 : FL RX2 25 2 3 := ⟨by decide, by decide, gw_at 261 (by decide +kernel) (by decide +kernel), rfl⟩
theorem fC_2_3 {a : Nat} (h : LC a = (3, 0)) : SC a 3 = some (a + 4) ∧ LC (a + 4) = (23, 6) := by
  rcases iC_2 h with rfl | rfl <;> exact ⟨rfl, rfl⟩
theorem eC_2_3 {a : Nat} {i : Int32} (h : LC a = (3, 0)) (hi : inb i 6 = true) : SC (a + 4) i.toNatClampNeg = some (a + 8 + 2 * i.toNatClampNeg) ∧ LC (a + 8 + 2 * i.toNatClampNeg) = (1, 0) := by
  have hk := inb_lt hi
  generalize i.toNatClampNeg = k at hk
  rcases iC_2 h with rfl | rfl
  · exact (show ∀ k, k < 6 → SC (11 + 4) k = some (11 + 8 + 2 * k) ∧ LC (11 + 8 + 2 * k) = (1, 0) by decide +kernel) k hk
  · exact (show ∀ k, k < 6 → SC (50 + 4) k = some (50 + 8 + 2 * k) ∧ LC (50 + 8 + 2 * k) = (1, 0) by decide +kernel) k hk
theorem vv_X2_53 : VV RX2 53 yX0_copy cX0_copy 2 none 1 := ⟨⟨gw_at 739 (by decide +kernel) (by decide +kernel), gw_at 742 (by decide +kernel) (by decide +kernel), gw_at 90 (by decide +kernel) (by decide +kernel), by decide +kernel, by decide⟩, gw_at 740 (by decide +kernel) (by decide +kernel), gw_at 741 (by decide +kernel) (by decide +kernel)⟩
theorem fl_X2_11 : FL RX2 11 2 0 := ⟨by decide, by decide, gw_at 257 (by decide +kernel) (by decide +kernel), rfl⟩
theorem fC_2_0 {a : Nat} (h : LC a = (3, 0)) : SC a 0 = some (a + 1) ∧ LC (a + 1) = (25, 6) := by
  rcases iC_2 h with rfl | rfl <;> exact ⟨rfl, rfl⟩
theorem fl_X2_17 : FL RX2 17 2 1 := ⟨by decide, by decide, gw_at 259 (by decide +kernel) (by decide +kernel), rfl⟩
theorem fC_2_1 {a : Nat} (h : LC a = (3, 0)) : SC a 1 = some (a + 2) ∧ LC (a + 2) = (25, 6) := by
  rcases iC_2 h with rfl | rfl <;> exact ⟨rfl, rfl⟩
theorem eC_2_1 {a : Nat} {i : Int32} (h : LC a = (3, 0)) (hi : inb i 6 = true) : SC (a + 2) i.toNatClampNeg = some (a + 7 + 2 * i.toNatClampNeg) ∧ LC (a + 7 + 2 * i.toNatClampNeg) = (6, 0) := by
  have hk := inb_lt hi
  generalize i.toNatClampNeg = k at hk
  rcases iC_2 h with rfl | rfl
  · exact (show ∀ k, k < 6 → SC (11 + 2) k = some (11 + 7 + 2 * k) ∧ LC (11 + 7 + 2 * k) = (6, 0) by decide +kernel) k hk
  · exact (show ∀ k, k < 6 → SC (50 + 2) k = some (50 + 7 + 2 * k) ∧ LC (50 + 7 + 2 * k) = (6, 0) by decide +kernel) k hk
theorem nseC_2_0 {a : Nat} {i : Int32} (h : LC a = (3, 0)) (hi : inb i 6 = true) : SC (a + 1) i.toNatClampNeg = none := by
  have hk := inb_lt hi
  generalize i.toNatClampNeg = k at hk
  rcases iC_2 h with rfl | rfl
  · exact (show ∀ k, k < 6 → SC (11 + 1) k = none by decide +kernel) k hk
  · exact (show ∀ k, k < 6 → SC (50 + 1) k = none by decide +kernel) k hk
theorem vv_X2_57 : VV RX2 57 yX2_weigh cX2_weigh 7 none 2 := ⟨⟨gw_at 743 (by decide +kernel) (by decide +kernel), gw_at 746 (by decide +kernel) (by decide +kernel), gw_at 89 (by decide +kernel) (by decide +kernel), by decide +kernel, by decide⟩, gw_at 745 (by decide +kernel) (by decide +kernel), gw_at 16 (by decide +kernel) (by decide +kernel)⟩
def m_X2_bring (a0 : Nat) (a1 : Int32) (a2 : Nat) (h : Hp) : Option (Unit × Hp) := if (gi h a0 10) < 6 then ck (inb (gi h a0 10) 6) (hb (si h (a0 + 5) (gi h a0 10).toNatClampNeg a1) fun h3 => ck (inb (gi h3 a0 10) 6) (cb (m_X0_copy (a0 + 8 + 2 * (gi h3 a0 10).toNatClampNeg) a2 h3) fun _ h6 => ck (inb (gi h6 a0 10) 6) (hb (sr h6 (a0 + 1) (gi h6 a0 10).toNatClampNeg (a0 + 7 + 2 * (gi h6 a0 10).toNatClampNeg)) fun h8 => ck (inb (gi h8 a0 10) 6) (cb (m_X2_weigh a0 a2 (a0 + 7 + 2 * (gi h8 a0 10).toNatClampNeg) h8) fun _ h11 => hb (si h11 a0 10 ((gi h11 a0 10) + 1)) fun h12 => some ((), h12))))) else some ((), h)
set_option maxRecDepth 20000 in
set_option maxHeartbeats 4000000 in
theorem s_X2_bring (w : WT) {x : CT} {l : Launch} (hx : xl x = l) (hG : Gd x cX2_bring 3 RX2) (hE : Ge x (GC w)) (hR : Rm x 5) (hT : Rt x none) (a0 : Nat) (p0 : LC a0 = (3, 0)) (a1 : Int32) (a2 : Nat) (p2 : LC a2 = (1, 0)) (h : Hp) : Sn x 3 (gA (GC w)) (0, 0) (ζM x (GC w) inV) (gW (GC w) h) 0 [(0, .ref (gB (GC w) + a0)), (1, .int a1), (2, .ref (gB (GC w) + a2))] [] (m_X2_bring a0 a1 a2 h) := by
  unfold m_X2_bring
  refine s_aload_n hG dX2_bring_0 0 rfl rfl ?_
  refine s_getI hG hE dX2_bring_1 fl_X2_50 rfl p0 ?_
  refine s_bipush hG dX2_bring_4 bc_6 ?_
  refine s_icmp_lt hG dX2_bring_6 (tgt := 10) (by decide) (fun q1 => ?_) (fun q1 => ?_)
  · refine s_aload_n hG dX2_bring_10 0 rfl rfl ?_
    refine s_getS hG hE dX2_bring_11 fl_X2_29 rfl p0 ((fC_2_4 p0).1) (nzC ((fC_2_4 p0).2)) ?_
    refine s_aload_n hG dX2_bring_14 0 rfl rfl ?_
    refine s_getI hG hE dX2_bring_15 fl_X2_50 rfl p0 ?_
    refine s_iload_n hG dX2_bring_18 1 rfl rfl ?_
    refine s_ck (fun q2 => ?_)
    refine s_iast hG hE dX2_bring_19 ((fC_2_4 p0).2) q2 (fun h3 => ?_)
    refine s_aload_n hG dX2_bring_20 0 rfl rfl ?_
    refine s_getS hG hE dX2_bring_21 fl_X2_25 rfl p0 ((fC_2_3 p0).1) (nzC ((fC_2_3 p0).2)) ?_
    refine s_aload_n hG dX2_bring_24 0 rfl rfl ?_
    refine s_getI hG hE dX2_bring_25 fl_X2_50 rfl p0 ?_
    refine s_ck (fun q4 => ?_)
    refine s_aaldS (j := 0) hG hE dX2_bring_28 (by decide) ((fC_2_3 p0).2) q4 ((eC_2_3 p0 q4).1) (nzC ((eC_2_3 p0 q4).2)) ?_
    refine s_aload_n hG dX2_bring_29 2 rfl rfl ?_
    refine s_callV (a := a0 + 8 + 2 * (gi h3 a0 10).toNatClampNeg) (c := 0) (inj := inV) (As := [.ref (gB (GC w) + a2)]) (st := []) rfl hG hE dX2_bring_30 hR (by decide) vv_X2_53 (by decide) rfl ((eC_2_3 p0 q4).2) rfl (Nat.le_of_ble_eq_true rfl) rfl (fun zv zh zq => c_X0_copy w (xl x) (a0 + 8 + 2 * (gi h3 a0 10).toNatClampNeg) ((eC_2_3 p0 q4).2) a2 p2 h3 zv zh zq) (fun v5 h6 => ?_)
    refine s_aload_n hG dX2_bring_33 0 rfl rfl ?_
    refine s_getS hG hE dX2_bring_34 fl_X2_11 rfl p0 ((fC_2_0 p0).1) (nzC ((fC_2_0 p0).2)) ?_
    refine s_aload_n hG dX2_bring_37 0 rfl rfl ?_
    refine s_getI hG hE dX2_bring_38 fl_X2_50 rfl p0 ?_
    refine s_aload_n hG dX2_bring_41 0 rfl rfl ?_
    refine s_getS hG hE dX2_bring_42 fl_X2_17 rfl p0 ((fC_2_1 p0).1) (nzC ((fC_2_1 p0).2)) ?_
    refine s_aload_n hG dX2_bring_45 0 rfl rfl ?_
    refine s_getI hG hE dX2_bring_46 fl_X2_50 rfl p0 ?_
    refine s_ck (fun q7 => ?_)
    refine s_aaldS (j := 2) hG hE dX2_bring_49 (by decide) ((fC_2_1 p0).2) q7 ((eC_2_1 p0 q7).1) (nzC ((eC_2_1 p0 q7).2)) ?_
    refine s_aast (j := 2) hG hE dX2_bring_50 (by decide) ((fC_2_0 p0).2) q7 ((eC_2_1 p0 q7).2) (nseC_2_0 p0 q7) (fun h8 => ?_)
    refine s_aload_n hG dX2_bring_51 0 rfl rfl ?_
    refine s_aload_n hG dX2_bring_52 2 rfl rfl ?_
    refine s_aload_n hG dX2_bring_53 0 rfl rfl ?_
    refine s_getS hG hE dX2_bring_54 fl_X2_17 rfl p0 ((fC_2_1 p0).1) (nzC ((fC_2_1 p0).2)) ?_
    refine s_aload_n hG dX2_bring_57 0 rfl rfl ?_
    refine s_getI hG hE dX2_bring_58 fl_X2_50 rfl p0 ?_
    refine s_ck (fun q9 => ?_)
    refine s_aaldS (j := 2) hG hE dX2_bring_61 (by decide) ((fC_2_1 p0).2) q9 ((eC_2_1 p0 q9).1) (nzC ((eC_2_1 p0 q9).2)) ?_
    refine s_callV (a := a0) (c := 2) (inj := inV) (As := [.ref (gB (GC w) + a2), .ref (gB (GC w) + (a0 + 7 + 2 * (gi h8 a0 10).toNatClampNeg))]) (st := []) rfl hG hE dX2_bring_62 hR (by decide) vv_X2_57 (by decide) rfl p0 rfl (Nat.le_of_ble_eq_true rfl) rfl (fun zv zh zq => c_X2_weigh w (xl x) a0 p0 a2 p2 (a0 + 7 + 2 * (gi h8 a0 10).toNatClampNeg) ((eC_2_1 p0 q9).2) h8 zv zh zq) (fun v10 h11 => ?_)
    refine s_aload_n hG dX2_bring_65 0 rfl rfl ?_
    refine s_dup hG dX2_bring_66 rfl ?_
    refine s_getI hG hE dX2_bring_67 fl_X2_50 rfl p0 ?_
    refine s_iconst hG dX2_bring_70 ic_1 ?_
    refine s_iadd hG dX2_bring_71 ?_
    refine s_putI hG hE dX2_bring_72 fl_X2_50 rfl rfl p0 (fun h12 => ?_)
    exact s_vret hG hT dX2_bring_75
  · exact s_vret hG hT dX2_bring_9

theorem c_X2_bring (w : WT) (l : Launch) (a0 : Nat) (p0 : LC a0 = (3, 0)) (a1 : Int32) (a2 : Nat) (p2 : LC a2 = (1, 0)) (h : Hp) : ∀ v h', m_X2_bring a0 a1 a2 h = some (v, h') → MetM l (GC w) yX2_bring cX2_bring 3 none 5 [.ref (gB (GC w) + a0), .int a1, .ref (gB (GC w) + a2)] h (inV v) h' :=
  met_of (by decide) (lokC w) (Nat.le_of_ble_eq_true rfl) (fun x hx hG hE hR hT => s_X2_bring w hx hG hE hR hT a0 p0 a1 a2 p2 h)
theorem fl_X5_15 : FL RX5 15 5 5 := ⟨by decide, by decide, gw_at 208 (by decide +kernel) (by decide +kernel), rfl⟩
theorem fl_X5_18 : FL RX5 18 5 7 := ⟨by decide, by decide, gw_at 212 (by decide +kernel) (by decide +kernel), rfl⟩
theorem fl_X5_21 : FL RX5 21 5 8 := ⟨by decide, by decide, gw_at 214 (by decide +kernel) (by decide +kernel), rfl⟩
def m_X5_canBeRolledOnto (a0 : Nat) (h : Hp) : Option (Int32 × Hp) := if (gi h a0 5) = 3 then if (gi h a0 7) = 6 then some (0, h) else if (gi h a0 8) = 0 then some (1, h) else some (0, h) else some (0, h)
set_option maxRecDepth 20000 in
set_option maxHeartbeats 4000000 in
theorem s_X5_canBeRolledOnto (w : WT) {x : CT} {l : Launch} (hx : xl x = l) (hG : Gd x cX5_canBeRolledOnto 1 RX5) (hE : Ge x (GC w)) (hR : Rm x 1) (hT : Rt x (some .boolean)) (a0 : Nat) (p0 : LC a0 = (6, 0)) (h : Hp) : Sn x 1 (gA (GC w)) (0, 0) (ζM x (GC w) inI) (gW (GC w) h) 0 [(0, .ref (gB (GC w) + a0))] [] (m_X5_canBeRolledOnto a0 h) := by
  unfold m_X5_canBeRolledOnto
  refine s_aload_n hG dX5_canBeRolledOnto_0 0 rfl rfl ?_
  refine s_getI hG hE dX5_canBeRolledOnto_1 fl_X5_15 rfl p0 ?_
  refine s_iconst hG dX5_canBeRolledOnto_4 ic_3 ?_
  refine s_icmp_ne hG dX5_canBeRolledOnto_5 (tgt := 28) (by decide) (fun q1 => ?_) (fun q1 => ?_)
  · refine s_aload_n hG dX5_canBeRolledOnto_8 0 rfl rfl ?_
    refine s_getI hG hE dX5_canBeRolledOnto_9 fl_X5_18 rfl p0 ?_
    refine s_bipush hG dX5_canBeRolledOnto_12 bc_6 ?_
    refine s_icmp_eq hG dX5_canBeRolledOnto_14 (tgt := 28) (by decide) (fun q2 => ?_) (fun q2 => ?_)
    · refine s_iconst hG dX5_canBeRolledOnto_28 ic_0 ?_
      exact s_zret hG hT (by decide) dX5_canBeRolledOnto_29
    · refine s_aload_n hG dX5_canBeRolledOnto_17 0 rfl rfl ?_
      refine s_getI hG hE dX5_canBeRolledOnto_18 fl_X5_21 rfl p0 ?_
      refine s_if_ne hG dX5_canBeRolledOnto_21 (tgt := 28) (by decide) (fun q3 => ?_) (fun q3 => ?_)
      · refine s_iconst hG dX5_canBeRolledOnto_24 ic_1 ?_
        refine s_goto (tgt := 29) hG dX5_canBeRolledOnto_25 (by decide) ?_
        exact s_zret hG hT (by decide) dX5_canBeRolledOnto_29
      · refine s_iconst hG dX5_canBeRolledOnto_28 ic_0 ?_
        exact s_zret hG hT (by decide) dX5_canBeRolledOnto_29
  · refine s_iconst hG dX5_canBeRolledOnto_28 ic_0 ?_
    exact s_zret hG hT (by decide) dX5_canBeRolledOnto_29

theorem c_X5_canBeRolledOnto (w : WT) (l : Launch) (a0 : Nat) (p0 : LC a0 = (6, 0)) (h : Hp) : ∀ v h', m_X5_canBeRolledOnto a0 h = some (v, h') → MetM l (GC w) yX5_canBeRolledOnto cX5_canBeRolledOnto 1 (some .boolean) 1 [.ref (gB (GC w) + a0)] h (inI v) h' :=
  met_of (by decide) (lokC w) (Nat.le_of_ble_eq_true rfl) (fun x hx hG hE hR hT => s_X5_canBeRolledOnto w hx hG hE hR hT a0 p0 h)
theorem fl_X5_9 : FL RX5 9 5 10 := ⟨by decide, by decide, gw_at 218 (by decide +kernel) (by decide +kernel), rfl⟩
theorem fl_X5_24 : FL RX5 24 5 6 := ⟨by decide, by decide, gw_at 210 (by decide +kernel) (by decide +kernel), rfl⟩
theorem fl_X5_27 : FL RX5 27 5 11 := ⟨by decide, by decide, gw_at 221 (by decide +kernel) (by decide +kernel), rfl⟩
theorem fl_X5_30 : FL RX5 30 5 12 := ⟨by decide, by decide, gw_at 223 (by decide +kernel) (by decide +kernel), rfl⟩
theorem fl_X5_33 : FL RX5 33 5 13 := ⟨by decide, by decide, gw_at 225 (by decide +kernel) (by decide +kernel), rfl⟩
theorem fl_X5_36 : FL RX5 36 5 9 := ⟨by decide, by decide, gw_at 216 (by decide +kernel) (by decide +kernel), rfl⟩
def m_X5_settleWith (a0 : Nat) (a1 : Nat) (h : Hp) : Option (Unit × Hp) := hb (si h a0 10 (gi h a0 5)) fun h1 => hb (si h1 a0 11 (gi h1 a0 6)) fun h2 => hb (si h2 a0 12 (gi h2 a0 7)) fun h3 => hb (si h3 a0 13 (gi h3 a0 8)) fun h4 => if (gi h4 a0 5) = 4 then if a1 = 0 then hb (si h4 a0 10 5) fun h7 => some ((), h7) else ck (kC 5 a1) (hb (si h4 a0 11 (gi h4 a1 6)) fun h9 => hb (si h9 a0 12 (gi h9 a1 7)) fun h10 => hb (si h10 a0 13 (gi h10 a0 9)) fun h11 => some ((), h11)) else some ((), h4)
set_option maxRecDepth 20000 in
set_option maxHeartbeats 4000000 in
theorem s_X5_settleWith (w : WT) {x : CT} {l : Launch} (hx : xl x = l) (hG : Gd x cX5_settleWith 2 RX5) (hE : Ge x (GC w)) (hR : Rm x 1) (hT : Rt x none) (a0 : Nat) (p0 : LC a0 = (6, 0)) (a1 : Nat) (h : Hp) : Sn x 2 (gA (GC w)) (0, 0) (ζM x (GC w) inV) (gW (GC w) h) 0 [(0, .ref (gB (GC w) + a0)), (1, rv (gB (GC w)) a1)] [] (m_X5_settleWith a0 a1 h) := by
  unfold m_X5_settleWith
  refine s_aload_n hG dX5_settleWith_0 0 rfl rfl ?_
  refine s_aload_n hG dX5_settleWith_1 0 rfl rfl ?_
  refine s_getI hG hE dX5_settleWith_2 fl_X5_15 rfl p0 ?_
  refine s_putI hG hE dX5_settleWith_5 fl_X5_9 rfl rfl p0 (fun h1 => ?_)
  refine s_aload_n hG dX5_settleWith_8 0 rfl rfl ?_
  refine s_aload_n hG dX5_settleWith_9 0 rfl rfl ?_
  refine s_getI hG hE dX5_settleWith_10 fl_X5_24 rfl p0 ?_
  refine s_putI hG hE dX5_settleWith_13 fl_X5_27 rfl rfl p0 (fun h2 => ?_)
  refine s_aload_n hG dX5_settleWith_16 0 rfl rfl ?_
  refine s_aload_n hG dX5_settleWith_17 0 rfl rfl ?_
  refine s_getI hG hE dX5_settleWith_18 fl_X5_18 rfl p0 ?_
  refine s_putI hG hE dX5_settleWith_21 fl_X5_30 rfl rfl p0 (fun h3 => ?_)
  refine s_aload_n hG dX5_settleWith_24 0 rfl rfl ?_
  refine s_aload_n hG dX5_settleWith_25 0 rfl rfl ?_
  refine s_getI hG hE dX5_settleWith_26 fl_X5_21 rfl p0 ?_
  refine s_putI hG hE dX5_settleWith_29 fl_X5_33 rfl rfl p0 (fun h4 => ?_)
  refine s_aload_n hG dX5_settleWith_32 0 rfl rfl ?_
  refine s_getI hG hE dX5_settleWith_33 fl_X5_15 rfl p0 ?_
  refine s_iconst hG dX5_settleWith_36 ic_4 ?_
  refine s_icmp_eq hG dX5_settleWith_37 (tgt := 41) (by decide) (fun q5 => ?_) (fun q5 => ?_)
  · refine s_aload_nQ hG dX5_settleWith_41 1 rfl rfl ?_
    refine s_ifnonnull (tgt := 51) hG dX5_settleWith_42 (by decide) (fun q6 => ?_) (fun q6 => ?_)
    · refine s_aload_n hG dX5_settleWith_45 0 rfl rfl ?_
      refine s_iconst hG dX5_settleWith_46 ic_5 ?_
      refine s_putI hG hE dX5_settleWith_47 fl_X5_9 rfl rfl p0 (fun h7 => ?_)
      exact s_vret hG hT dX5_settleWith_50
    · refine s_ck (fun q8 => ?_)
      refine s_eq (lv' := [(0, .ref (gB (GC w) + a0)), (1, .ref (gB (GC w) + a1))]) (st' := []) (by rw [rv_n _ (nzC (kC_of q8))]) rfl ?_
      refine s_aload_n hG dX5_settleWith_51 0 rfl rfl ?_
      refine s_aload_n hG dX5_settleWith_52 1 rfl rfl ?_
      refine s_getI hG hE dX5_settleWith_53 fl_X5_24 rfl (kC_of q8) ?_
      refine s_putI hG hE dX5_settleWith_56 fl_X5_27 rfl rfl p0 (fun h9 => ?_)
      refine s_aload_n hG dX5_settleWith_59 0 rfl rfl ?_
      refine s_aload_n hG dX5_settleWith_60 1 rfl rfl ?_
      refine s_getI hG hE dX5_settleWith_61 fl_X5_18 rfl (kC_of q8) ?_
      refine s_putI hG hE dX5_settleWith_64 fl_X5_30 rfl rfl p0 (fun h10 => ?_)
      refine s_aload_n hG dX5_settleWith_67 0 rfl rfl ?_
      refine s_aload_n hG dX5_settleWith_68 0 rfl rfl ?_
      refine s_getI hG hE dX5_settleWith_69 fl_X5_36 rfl p0 ?_
      refine s_putI hG hE dX5_settleWith_72 fl_X5_33 rfl rfl p0 (fun h11 => ?_)
      exact s_vret hG hT dX5_settleWith_75
  · exact s_vret hG hT dX5_settleWith_40

theorem c_X5_settleWith (w : WT) (l : Launch) (a0 : Nat) (p0 : LC a0 = (6, 0)) (a1 : Nat) (h : Hp) : ∀ v h', m_X5_settleWith a0 a1 h = some (v, h') → MetM l (GC w) yX5_settleWith cX5_settleWith 2 none 1 [.ref (gB (GC w) + a0), rv (gB (GC w)) a1] h (inV v) h' :=
  met_of (by decide) (lokC w) (by simp [lg_sl, rv_cat, vrf_cat, cat_int, cat_long, cat_ref]) (fun x hx hG hE hR hT => s_X5_settleWith w hx hG hE hR hT a0 p0 a1 h)
theorem vv_X2_68 : VV RX2 68 yX5_settleWith cX5_settleWith 2 none 1 := ⟨⟨gw_at 783 (by decide +kernel) (by decide +kernel), gw_at 786 (by decide +kernel) (by decide +kernel), gw_at 91 (by decide +kernel) (by decide +kernel), by decide +kernel, by decide⟩, gw_at 784 (by decide +kernel) (by decide +kernel), gw_at 785 (by decide +kernel) (by decide +kernel)⟩
theorem fl_X2_61 : FL RX2 61 2 9 := ⟨by decide, by decide, gw_at 267 (by decide +kernel) (by decide +kernel), rfl⟩
theorem vv_X2_64 : VV RX2 64 yX5_canBeRolledOnto cX5_canBeRolledOnto 1 (some .boolean) 0 := ⟨⟨gw_at 779 (by decide +kernel) (by decide +kernel), gw_at 782 (by decide +kernel) (by decide +kernel), gw_at 91 (by decide +kernel) (by decide +kernel), by decide +kernel, by decide⟩, gw_at 780 (by decide +kernel) (by decide +kernel), gw_at 781 (by decide +kernel) (by decide +kernel)⟩
def m_X2_settle_L62 : Nat → Nat → Nat → Int32 → Hp → Option (Unit × Hp)
  | 0, _, _, _, _ => none
  | n + 1, a0, a1, a2, h => if (gi h a0 10) ≤ a2 then some ((), h) else ck (inb a2 6) (ck (kC 5 (gr h (a0 + 1) a2.toNatClampNeg)) (cb (m_X5_settleWith (gr h (a0 + 1) a2.toNatClampNeg) a1 h) fun _ h5 => vb (a2 + 1) fun v6 => m_X2_settle_L62 n a0 a1 v6 h5))
set_option maxRecDepth 20000 in
set_option maxHeartbeats 4000000 in
theorem s_X2_settle_L62 (w : WT) {x : CT} {l : Launch} (hx : xl x = l) (hG : Gd x cX2_settle 3 RX2) (hE : Ge x (GC w)) (hR : Rm x 2) (hT : Rt x none) : ∀ (n : Nat) (a0 : Nat) (p0 : LC a0 = (3, 0)) (a1 : Nat) (a2 : Int32) (h : Hp), Sn x 3 (gA (GC w)) (0, 0) (ζM x (GC w) inV) (gW (GC w) h) 62 [(0, .ref (gB (GC w) + a0)), (1, rv (gB (GC w)) a1), (2, .int a2)] [] (m_X2_settle_L62 n a0 a1 a2 h) := by
  intro n
  induction n with
  | zero => intro a0 p0 a1 a2 h; exact s_none
  | succ n ih =>
    intro a0 p0 a1 a2 h
    rw [m_X2_settle_L62]
    refine s_iload_n hG dX2_settle_62 2 rfl rfl ?_
    refine s_aload_n hG dX2_settle_63 0 rfl rfl ?_
    refine s_getI hG hE dX2_settle_64 fl_X2_50 rfl p0 ?_
    refine s_icmp_ge hG dX2_settle_67 (tgt := 86) (by decide) (fun q1 => ?_) (fun q1 => ?_)
    · exact s_vret hG hT dX2_settle_86
    · refine s_aload_n hG dX2_settle_70 0 rfl rfl ?_
      refine s_getS hG hE dX2_settle_71 fl_X2_11 rfl p0 ((fC_2_0 p0).1) (nzC ((fC_2_0 p0).2)) ?_
      refine s_iload_n hG dX2_settle_74 2 rfl rfl ?_
      refine s_ck (fun q2 => ?_)
      refine s_aald (j := 2) hG hE dX2_settle_75 (by decide) ((fC_2_0 p0).2) q2 ?_
      refine s_ck (fun q3 => ?_)
      refine s_nn (nzC (kC_of q3)) ?_
      refine s_aload_nQ hG dX2_settle_76 1 rfl rfl ?_
      refine s_callV (a := gr h (a0 + 1) a2.toNatClampNeg) (c := 5) (inj := inV) (As := [rv (gB (GC w)) a1]) (st := []) rfl hG hE dX2_settle_77 hR (by decide) vv_X2_68 (by decide) rfl (kC_of q3) rfl (Nat.le_of_ble_eq_true rfl) rfl (fun zv zh zq => c_X5_settleWith w (xl x) (gr h (a0 + 1) a2.toNatClampNeg) (kC_of q3) a1 h zv zh zq) (fun v4 h5 => ?_)
      refine s_iinc hG dX2_settle_80 2 rfl ic_1 (by decide) (fun v6 => [(2, .int v6), (0, .ref (gB (GC w) + a0)), (1, rv (gB (GC w)) a1)]) (fun _ => by simp [rv_cat, vrf_cat, cat_int, cat_long, cat_ref]) (fun v6 => ?_)
      refine s_goto (tgt := 62) hG dX2_settle_83 (by decide) ?_
      refine s_lv [1, 2, 0] rfl ?_
      exact ih a0 p0 a1 v6 h5

def m_X2_settle_L59 (a0 : Nat) (t0 : Nat) (h : Hp) : Option (Unit × Hp) := m_X2_settle_L62 FU a0 t0 0 h
set_option maxRecDepth 20000 in
set_option maxHeartbeats 4000000 in
theorem s_X2_settle_L59 (w : WT) {x : CT} {l : Launch} (hx : xl x = l) (hG : Gd x cX2_settle 3 RX2) (hE : Ge x (GC w)) (hR : Rm x 2) (hT : Rt x none) (a0 : Nat) (p0 : LC a0 = (3, 0)) (t0 : Nat) (h : Hp) : Sn x 3 (gA (GC w)) (0, 0) (ζM x (GC w) inV) (gW (GC w) h) 59 [(0, .ref (gB (GC w) + a0))] [rv (gB (GC w)) t0] (m_X2_settle_L59 a0 t0 h) := by
  unfold m_X2_settle_L59
  refine s_astore_nQ (lv' := [(1, rv (gB (GC w)) t0), (0, .ref (gB (GC w) + a0))]) hG dX2_settle_59 rfl (by decide) (by simp [rv_cat, vrf_cat, cat_int, cat_long, cat_ref]) ?_
  refine s_iconst hG dX2_settle_60 ic_0 ?_
  refine s_istore_n (lv' := [(2, .int 0), (1, rv (gB (GC w)) t0), (0, .ref (gB (GC w) + a0))]) hG dX2_settle_61 rfl (by decide) (by simp [rv_cat, vrf_cat, cat_int, cat_long, cat_ref]) ?_
  refine s_lv [2, 1, 0] rfl ?_
  exact s_X2_settle_L62 w hx hG hE hR hT FU a0 p0 t0 0 h

def m_X2_settle_L12 : Nat → Nat → Int32 → Hp → Option (Unit × Hp)
  | 0, _, _, _ => none
  | n + 1, a0, a1, h => if a1 < 0 then if 0 ≤ (gi h a0 9) then ck (inb (gi h a0 9) 6) (ck (kC 5 (gr h (a0 + 1) (gi h a0 9).toNatClampNeg)) (m_X2_settle_L59 a0 (gr h (a0 + 1) (gi h a0 9).toNatClampNeg) h)) else m_X2_settle_L59 a0 0 h else ck (inb a1 6) (ck (kC 5 (gr h (a0 + 1) a1.toNatClampNeg)) (cb (m_X5_canBeRolledOnto (gr h (a0 + 1) a1.toNatClampNeg) h) fun v7 h8 => if v7 = 0 then vb (a1 + (-1)) fun v10 => m_X2_settle_L12 n a0 v10 h8 else hb (si h8 a0 9 a1) fun h11 => vb (a1 + (-1)) fun v12 => m_X2_settle_L12 n a0 v12 h11))
set_option maxRecDepth 20000 in
set_option maxHeartbeats 4000000 in
theorem s_X2_settle_L12 (w : WT) {x : CT} {l : Launch} (hx : xl x = l) (hG : Gd x cX2_settle 3 RX2) (hE : Ge x (GC w)) (hR : Rm x 2) (hT : Rt x none) : ∀ (n : Nat) (a0 : Nat) (p0 : LC a0 = (3, 0)) (a1 : Int32) (h : Hp), Sn x 3 (gA (GC w)) (0, 0) (ζM x (GC w) inV) (gW (GC w) h) 12 [(0, .ref (gB (GC w) + a0)), (1, .int a1)] [] (m_X2_settle_L12 n a0 a1 h) := by
  intro n
  induction n with
  | zero => intro a0 p0 a1 h; exact s_none
  | succ n ih =>
    intro a0 p0 a1 h
    rw [m_X2_settle_L12]
    refine s_iload_n hG dX2_settle_12 1 rfl rfl ?_
    refine s_if_lt hG dX2_settle_13 (tgt := 39) (by decide) (fun q1 => ?_) (fun q1 => ?_)
    · refine s_aload_n hG dX2_settle_39 0 rfl rfl ?_
      refine s_getI hG hE dX2_settle_40 fl_X2_61 rfl p0 ?_
      refine s_if_ge hG dX2_settle_43 (tgt := 50) (by decide) (fun q2 => ?_) (fun q2 => ?_)
      · refine s_aload_n hG dX2_settle_50 0 rfl rfl ?_
        refine s_getS hG hE dX2_settle_51 fl_X2_11 rfl p0 ((fC_2_0 p0).1) (nzC ((fC_2_0 p0).2)) ?_
        refine s_aload_n hG dX2_settle_54 0 rfl rfl ?_
        refine s_getI hG hE dX2_settle_55 fl_X2_61 rfl p0 ?_
        refine s_ck (fun q3 => ?_)
        refine s_aald (j := 2) hG hE dX2_settle_58 (by decide) ((fC_2_0 p0).2) q3 ?_
        refine s_ck (fun q4 => ?_)
        refine s_nn (nzC (kC_of q4)) ?_
        refine s_lv [0] rfl ?_
        refine s_q (nzC (kC_of q4)) ?_
        exact s_X2_settle_L59 w hx hG hE hR hT a0 p0 (gr h (a0 + 1) (gi h a0 9).toNatClampNeg) h
      · refine s_null (B := gB (GC w)) hG dX2_settle_46 ?_
        refine s_goto (tgt := 59) hG dX2_settle_47 (by decide) ?_
        refine s_lv [0] rfl ?_
        exact s_X2_settle_L59 w hx hG hE hR hT a0 p0 0 h
    · refine s_aload_n hG dX2_settle_16 0 rfl rfl ?_
      refine s_getS hG hE dX2_settle_17 fl_X2_11 rfl p0 ((fC_2_0 p0).1) (nzC ((fC_2_0 p0).2)) ?_
      refine s_iload_n hG dX2_settle_20 1 rfl rfl ?_
      refine s_ck (fun q5 => ?_)
      refine s_aald (j := 2) hG hE dX2_settle_21 (by decide) ((fC_2_0 p0).2) q5 ?_
      refine s_ck (fun q6 => ?_)
      refine s_nn (nzC (kC_of q6)) ?_
      refine s_callV (a := gr h (a0 + 1) a1.toNatClampNeg) (c := 5) (inj := inI) (As := []) (st := []) rfl hG hE dX2_settle_22 hR (by decide) vv_X2_64 (by decide) rfl (kC_of q6) rfl (Nat.le_of_ble_eq_true rfl) rfl (fun zv zh zq => c_X5_canBeRolledOnto w (xl x) (gr h (a0 + 1) a1.toNatClampNeg) (kC_of q6) h zv zh zq) (fun v7 h8 => ?_)
      refine s_if_eq hG dX2_settle_25 (tgt := 33) (by decide) (fun q9 => ?_) (fun q9 => ?_)
      · refine s_iinc hG dX2_settle_33 1 rfl ic_m1 (by decide) (fun v10 => [(1, .int v10), (0, .ref (gB (GC w) + a0))]) (fun _ => rfl) (fun v10 => ?_)
        refine s_goto (tgt := 12) hG dX2_settle_36 (by decide) ?_
        refine s_lv [1, 0] rfl ?_
        exact ih a0 p0 v10 h8
      · refine s_aload_n hG dX2_settle_28 0 rfl rfl ?_
        refine s_iload_n hG dX2_settle_29 1 rfl rfl ?_
        refine s_putI hG hE dX2_settle_30 fl_X2_61 rfl rfl p0 (fun h11 => ?_)
        refine s_iinc hG dX2_settle_33 1 rfl ic_m1 (by decide) (fun v12 => [(1, .int v12), (0, .ref (gB (GC w) + a0))]) (fun _ => rfl) (fun v12 => ?_)
        refine s_goto (tgt := 12) hG dX2_settle_36 (by decide) ?_
        refine s_lv [1, 0] rfl ?_
        exact ih a0 p0 v12 h11

def m_X2_settle (a0 : Nat) (h : Hp) : Option (Unit × Hp) := hb (si h a0 9 (-1)) fun h1 => vb ((gi h1 a0 10) - 1) fun v2 => m_X2_settle_L12 FU a0 v2 h1
set_option maxRecDepth 20000 in
set_option maxHeartbeats 4000000 in
theorem s_X2_settle (w : WT) {x : CT} {l : Launch} (hx : xl x = l) (hG : Gd x cX2_settle 3 RX2) (hE : Ge x (GC w)) (hR : Rm x 2) (hT : Rt x none) (a0 : Nat) (p0 : LC a0 = (3, 0)) (h : Hp) : Sn x 3 (gA (GC w)) (0, 0) (ζM x (GC w) inV) (gW (GC w) h) 0 [(0, .ref (gB (GC w) + a0))] [] (m_X2_settle a0 h) := by
  unfold m_X2_settle
  refine s_aload_n hG dX2_settle_0 0 rfl rfl ?_
  refine s_iconst hG dX2_settle_1 ic_m1 ?_
  refine s_putI hG hE dX2_settle_2 fl_X2_61 rfl rfl p0 (fun h1 => ?_)
  refine s_aload_n hG dX2_settle_5 0 rfl rfl ?_
  refine s_getI hG hE dX2_settle_6 fl_X2_50 rfl p0 ?_
  refine s_iconst hG dX2_settle_9 ic_1 ?_
  refine s_isub hG dX2_settle_10 ?_
  refine s_vI (fun v2 => ?_)
  refine s_istore_n (lv' := [(1, .int v2), (0, .ref (gB (GC w) + a0))]) hG dX2_settle_11 rfl (by decide) rfl ?_
  refine s_lv [1, 0] rfl ?_
  exact s_X2_settle_L12 w hx hG hE hR hT FU a0 p0 v2 h1

theorem c_X2_settle (w : WT) (l : Launch) (a0 : Nat) (p0 : LC a0 = (3, 0)) (h : Hp) : ∀ v h', m_X2_settle a0 h = some (v, h') → MetM l (GC w) yX2_settle cX2_settle 3 none 2 [.ref (gB (GC w) + a0)] h (inV v) h' :=
  met_of (by decide) (lokC w) (Nat.le_of_ble_eq_true rfl) (fun x hx hG hE hR hT => s_X2_settle w hx hG hE hR hT a0 p0 h)
theorem vv_X8_315 : VV RX8 315 yX2_settle cX2_settle 3 none 0 := ⟨⟨gw_at 775 (by decide +kernel) (by decide +kernel), gw_at 778 (by decide +kernel) (by decide +kernel), gw_at 89 (by decide +kernel) (by decide +kernel), by decide +kernel, by decide⟩, gw_at 776 (by decide +kernel) (by decide +kernel), gw_at 777 (by decide +kernel) (by decide +kernel)⟩
theorem vv_X8_311 : VV RX8 311 yX2_bring cX2_bring 3 none 2 := ⟨⟨gw_at 735 (by decide +kernel) (by decide +kernel), gw_at 738 (by decide +kernel) (by decide +kernel), gw_at 89 (by decide +kernel) (by decide +kernel), by decide +kernel, by decide⟩, gw_at 736 (by decide +kernel) (by decide +kernel), gw_at 737 (by decide +kernel) (by decide +kernel)⟩
theorem vv_X8_307 : VV RX8 307 yX2_open cX2_open 4 none 3 := ⟨⟨gw_at 731 (by decide +kernel) (by decide +kernel), gw_at 734 (by decide +kernel) (by decide +kernel), gw_at 89 (by decide +kernel) (by decide +kernel), by decide +kernel, by decide⟩, gw_at 732 (by decide +kernel) (by decide +kernel), gw_at 733 (by decide +kernel) (by decide +kernel)⟩
def m_X8_hear_L41 : Nat → Nat → Int32 → Int32 → Hp → Option (Unit × Hp)
  | 0, _, _, _, _ => none
  | n + 1, a1, a2, a4, h => if (gi h 1 12) ≤ a4 then cb (m_X2_settle a1 h) fun _ h3 => some ((), h3) else ck (inb a4 24) (if (gi h (96 + 2 * a4.toNatClampNeg) 0) = a2 then cb (m_X2_bring a1 a4 (96 + 2 * a4.toNatClampNeg) h) fun _ h8 => vb (a4 + 1) fun v9 => m_X8_hear_L41 n a1 a2 v9 h8 else vb (a4 + 1) fun v6 => m_X8_hear_L41 n a1 a2 v6 h)
set_option maxRecDepth 20000 in
set_option maxHeartbeats 4000000 in
theorem s_X8_hear_L41 (w : WT) {x : CT} {l : Launch} (hx : xl x = l) (hG : Gd x cX8_hear 5 RX8) (hE : Ge x (GC w)) (hR : Rm x 6) (hT : Rt x none) : ∀ (n : Nat) (a1 : Nat) (p1 : LC a1 = (3, 0)) (a2 : Int32) (a4 : Int32) (h : Hp), Sn x 5 (gA (GC w)) (0, 0) (ζM x (GC w) inV) (gW (GC w) h) 41 [(0, .ref (gB (GC w) + 1)), (1, .ref (gB (GC w) + a1)), (2, .int a2), (4, .int a4)] [] (m_X8_hear_L41 n a1 a2 a4 h) := by
  intro n
  induction n with
  | zero => intro a1 p1 a2 a4 h; exact s_none
  | succ n ih =>
    intro a1 p1 a2 a4 h
    rw [m_X8_hear_L41]
    refine s_iload hG dX8_hear_41 3 rfl ?_
    refine s_aload_n hG dX8_hear_43 0 rfl rfl ?_
    refine s_getI hG hE dX8_hear_44 fl_X8_96 rfl kC_1 ?_
    refine s_icmp_ge hG dX8_hear_47 (tgt := 83) (by decide) (fun q1 => ?_) (fun q1 => ?_)
    · refine s_aload_n hG dX8_hear_83 1 rfl rfl ?_
      refine s_callV (a := a1) (c := 2) (inj := inV) (As := []) (st := []) rfl hG hE dX8_hear_84 hR (by decide) vv_X8_315 (by decide) rfl p1 rfl (Nat.le_of_ble_eq_true rfl) rfl (fun zv zh zq => c_X2_settle w (xl x) a1 p1 h zv zh zq) (fun v2 h3 => ?_)
      exact s_vret hG hT dX8_hear_87
    · refine s_aload_n hG dX8_hear_50 0 rfl rfl ?_
      refine s_getS hG hE dX8_hear_51 fl_X8_26 rfl kC_1 fC_8_3 (nzC kC_5) ?_
      refine s_iload hG dX8_hear_54 3 rfl ?_
      refine s_ck (fun q4 => ?_)
      refine s_aaldS (j := 0) hG hE dX8_hear_56 (by decide) kC_5 q4 ((eC_8_3 q4).1) (nzC ((eC_8_3 q4).2)) ?_
      refine s_getI hG hE dX8_hear_57 fl_X8_146 rfl ((eC_8_3 q4).2) ?_
      refine s_iload_n hG dX8_hear_60 2 rfl rfl ?_
      refine s_icmp_ne hG dX8_hear_61 (tgt := 77) (by decide) (fun q5 => ?_) (fun q5 => ?_)
      · refine s_aload_n hG dX8_hear_64 1 rfl rfl ?_
        refine s_iload hG dX8_hear_65 3 rfl ?_
        refine s_aload_n hG dX8_hear_67 0 rfl rfl ?_
        refine s_getS hG hE dX8_hear_68 fl_X8_26 rfl kC_1 fC_8_3 (nzC kC_5) ?_
        refine s_iload hG dX8_hear_71 3 rfl ?_
        refine s_aaldS (j := 0) hG hE dX8_hear_73 (by decide) kC_5 q4 ((eC_8_3 q4).1) (nzC ((eC_8_3 q4).2)) ?_
        refine s_callV (a := a1) (c := 2) (inj := inV) (As := [.int a4, .ref (gB (GC w) + (96 + 2 * a4.toNatClampNeg))]) (st := []) rfl hG hE dX8_hear_74 hR (by decide) vv_X8_311 (by decide) rfl p1 rfl (Nat.le_of_ble_eq_true rfl) rfl (fun zv zh zq => c_X2_bring w (xl x) a1 p1 a4 (96 + 2 * a4.toNatClampNeg) ((eC_8_3 q4).2) h zv zh zq) (fun v7 h8 => ?_)
        refine s_iinc hG dX8_hear_77 3 rfl ic_1 (by decide) (fun v9 => [(4, .int v9), (0, .ref (gB (GC w) + 1)), (1, .ref (gB (GC w) + a1)), (2, .int a2)]) (fun _ => rfl) (fun v9 => ?_)
        refine s_goto (tgt := 41) hG dX8_hear_80 (by decide) ?_
        refine s_lv [1, 2, 3, 0] rfl ?_
        exact ih a1 p1 a2 v9 h8
      · refine s_iinc hG dX8_hear_77 3 rfl ic_1 (by decide) (fun v6 => [(4, .int v6), (0, .ref (gB (GC w) + 1)), (1, .ref (gB (GC w) + a1)), (2, .int a2)]) (fun _ => rfl) (fun v6 => ?_)
        refine s_goto (tgt := 41) hG dX8_hear_80 (by decide) ?_
        refine s_lv [1, 2, 3, 0] rfl ?_
        exact ih a1 p1 a2 v6 h

def m_X8_hear (a1 : Nat) (a2 : Int32) (a3 : Int32) (h : Hp) : Option (Unit × Hp) := ck (inb a3 6) (ck (inb a2 5) (ck (inb (gi h (91 + 1 * a2.toNatClampNeg) 0) 8) (ck (inb (gi h (91 + 1 * a2.toNatClampNeg) 1) 8) (cb (m_X2_open a1 (144 + 6 * a3.toNatClampNeg) (gi h 2 (gi h (91 + 1 * a2.toNatClampNeg) 0).toNatClampNeg) (gi h 2 (gi h (91 + 1 * a2.toNatClampNeg) 1).toNatClampNeg) h) fun _ h6 => m_X8_hear_L41 FU a1 a2 0 h6))))
set_option maxRecDepth 20000 in
set_option maxHeartbeats 4000000 in
theorem s_X8_hear (w : WT) {x : CT} {l : Launch} (hx : xl x = l) (hG : Gd x cX8_hear 5 RX8) (hE : Ge x (GC w)) (hR : Rm x 6) (hT : Rt x none) (a1 : Nat) (p1 : LC a1 = (3, 0)) (a2 : Int32) (a3 : Int32) (h : Hp) : Sn x 5 (gA (GC w)) (0, 0) (ζM x (GC w) inV) (gW (GC w) h) 0 [(0, .ref (gB (GC w) + 1)), (1, .ref (gB (GC w) + a1)), (2, .int a2), (3, .int a3)] [] (m_X8_hear a1 a2 a3 h) := by
  unfold m_X8_hear
  refine s_aload_n hG dX8_hear_0 1 rfl rfl ?_
  refine s_aload_n hG dX8_hear_1 0 rfl rfl ?_
  refine s_getS hG hE dX8_hear_2 fl_X8_35 rfl kC_1 fC_8_5 (nzC kC_7) ?_
  refine s_iload_n hG dX8_hear_5 3 rfl rfl ?_
  refine s_ck (fun q1 => ?_)
  refine s_aaldS (j := 1) hG hE dX8_hear_6 (by decide) kC_7 q1 ((eC_8_5 q1).1) (nzC ((eC_8_5 q1).2)) ?_
  refine s_aload_n hG dX8_hear_7 0 rfl rfl ?_
  refine s_getS hG hE dX8_hear_8 fl_X8_11 rfl kC_1 fC_8_0 (nzC kC_2) ?_
  refine s_aload_n hG dX8_hear_11 0 rfl rfl ?_
  refine s_getS hG hE dX8_hear_12 fl_X8_20 rfl kC_1 fC_8_2 (nzC kC_4) ?_
  refine s_iload_n hG dX8_hear_15 2 rfl rfl ?_
  refine s_ck (fun q2 => ?_)
  refine s_aaldS (j := 3) hG hE dX8_hear_16 (by decide) kC_4 q2 ((eC_8_2 q2).1) (nzC ((eC_8_2 q2).2)) ?_
  refine s_getI hG hE dX8_hear_17 fl_X8_84 rfl ((eC_8_2 q2).2) ?_
  refine s_ck (fun q3 => ?_)
  refine s_iald hG hE dX8_hear_20 kC_2 q3 ?_
  refine s_aload_n hG dX8_hear_21 0 rfl rfl ?_
  refine s_getS hG hE dX8_hear_22 fl_X8_11 rfl kC_1 fC_8_0 (nzC kC_2) ?_
  refine s_aload_n hG dX8_hear_25 0 rfl rfl ?_
  refine s_getS hG hE dX8_hear_26 fl_X8_20 rfl kC_1 fC_8_2 (nzC kC_4) ?_
  refine s_iload_n hG dX8_hear_29 2 rfl rfl ?_
  refine s_aaldS (j := 3) hG hE dX8_hear_30 (by decide) kC_4 q2 ((eC_8_2 q2).1) (nzC ((eC_8_2 q2).2)) ?_
  refine s_getI hG hE dX8_hear_31 fl_X8_87 rfl ((eC_8_2 q2).2) ?_
  refine s_ck (fun q4 => ?_)
  refine s_iald hG hE dX8_hear_34 kC_2 q4 ?_
  refine s_callV (a := a1) (c := 2) (inj := inV) (As := [.ref (gB (GC w) + (144 + 6 * a3.toNatClampNeg)), .int (gi h 2 (gi h (91 + 1 * a2.toNatClampNeg) 0).toNatClampNeg), .int (gi h 2 (gi h (91 + 1 * a2.toNatClampNeg) 1).toNatClampNeg)]) (st := []) rfl hG hE dX8_hear_35 hR (by decide) vv_X8_307 (by decide) rfl p1 rfl (Nat.le_of_ble_eq_true rfl) rfl (fun zv zh zq => c_X2_open w (xl x) a1 p1 (144 + 6 * a3.toNatClampNeg) ((eC_8_5 q1).2) (gi h 2 (gi h (91 + 1 * a2.toNatClampNeg) 0).toNatClampNeg) (gi h 2 (gi h (91 + 1 * a2.toNatClampNeg) 1).toNatClampNeg) h zv zh zq) (fun v5 h6 => ?_)
  refine s_iconst hG dX8_hear_38 ic_0 ?_
  refine s_istore (lv' := [(4, .int 0), (0, .ref (gB (GC w) + 1)), (1, .ref (gB (GC w) + a1)), (2, .int a2), (3, .int a3)]) hG dX8_hear_39 (by decide) rfl ?_
  refine s_lv [1, 2, 3, 0] rfl ?_
  exact s_X8_hear_L41 w hx hG hE hR hT FU a1 p1 a2 0 h6

theorem c_X8_hear (w : WT) (l : Launch) (a1 : Nat) (p1 : LC a1 = (3, 0)) (a2 : Int32) (a3 : Int32) (h : Hp) : ∀ v h', m_X8_hear a1 a2 a3 h = some (v, h') → MetM l (GC w) yX8_hear cX8_hear 5 none 6 [.ref (gB (GC w) + 1), .ref (gB (GC w) + a1), .int a2, .int a3] h (inV v) h' :=
  met_of (by decide) (lokC w) (Nat.le_of_ble_eq_true rfl) (fun x hx hG hE hR hT => s_X8_hear w hx hG hE hR hT a1 p1 a2 a3 h)
def m_X2_placeOf_L2 : Nat → Nat → Int32 → Int32 → Hp → Option (Int32 × Hp)
  | 0, _, _, _, _ => none
  | n + 1, a0, a1, a2, h => if (gi h a0 10) ≤ a2 then some ((-1), h) else ck (inb a2 6) (if (gi h (a0 + 5) a2.toNatClampNeg) = a1 then some (a2, h) else vb (a2 + 1) fun v4 => m_X2_placeOf_L2 n a0 a1 v4 h)
set_option maxRecDepth 20000 in
set_option maxHeartbeats 4000000 in
theorem s_X2_placeOf_L2 (w : WT) {x : CT} {l : Launch} (hx : xl x = l) (hG : Gd x cX2_placeOf 3 RX2) (hE : Ge x (GC w)) (hR : Rm x 1) (hT : Rt x (some .int)) : ∀ (n : Nat) (a0 : Nat) (p0 : LC a0 = (3, 0)) (a1 : Int32) (a2 : Int32) (h : Hp), Sn x 3 (gA (GC w)) (0, 0) (ζM x (GC w) inI) (gW (GC w) h) 2 [(0, .ref (gB (GC w) + a0)), (1, .int a1), (2, .int a2)] [] (m_X2_placeOf_L2 n a0 a1 a2 h) := by
  intro n
  induction n with
  | zero => intro a0 p0 a1 a2 h; exact s_none
  | succ n ih =>
    intro a0 p0 a1 a2 h
    rw [m_X2_placeOf_L2]
    refine s_iload_n hG dX2_placeOf_2 2 rfl rfl ?_
    refine s_aload_n hG dX2_placeOf_3 0 rfl rfl ?_
    refine s_getI hG hE dX2_placeOf_4 fl_X2_50 rfl p0 ?_
    refine s_icmp_ge hG dX2_placeOf_7 (tgt := 28) (by decide) (fun q1 => ?_) (fun q1 => ?_)
    · refine s_iconst hG dX2_placeOf_28 ic_m1 ?_
      exact s_iret hG hT dX2_placeOf_29
    · refine s_aload_n hG dX2_placeOf_10 0 rfl rfl ?_
      refine s_getS hG hE dX2_placeOf_11 fl_X2_29 rfl p0 ((fC_2_4 p0).1) (nzC ((fC_2_4 p0).2)) ?_
      refine s_iload_n hG dX2_placeOf_14 2 rfl rfl ?_
      refine s_ck (fun q2 => ?_)
      refine s_iald hG hE dX2_placeOf_15 ((fC_2_4 p0).2) q2 ?_
      refine s_iload_n hG dX2_placeOf_16 1 rfl rfl ?_
      refine s_icmp_ne hG dX2_placeOf_17 (tgt := 22) (by decide) (fun q3 => ?_) (fun q3 => ?_)
      · refine s_iload_n hG dX2_placeOf_20 2 rfl rfl ?_
        exact s_iret hG hT dX2_placeOf_21
      · refine s_iinc hG dX2_placeOf_22 2 rfl ic_1 (by decide) (fun v4 => [(2, .int v4), (0, .ref (gB (GC w) + a0)), (1, .int a1)]) (fun _ => rfl) (fun v4 => ?_)
        refine s_goto (tgt := 2) hG dX2_placeOf_25 (by decide) ?_
        refine s_lv [1, 2, 0] rfl ?_
        exact ih a0 p0 a1 v4 h

def m_X2_placeOf (a0 : Nat) (a1 : Int32) (h : Hp) : Option (Int32 × Hp) := m_X2_placeOf_L2 FU a0 a1 0 h
set_option maxRecDepth 20000 in
set_option maxHeartbeats 4000000 in
theorem s_X2_placeOf (w : WT) {x : CT} {l : Launch} (hx : xl x = l) (hG : Gd x cX2_placeOf 3 RX2) (hE : Ge x (GC w)) (hR : Rm x 1) (hT : Rt x (some .int)) (a0 : Nat) (p0 : LC a0 = (3, 0)) (a1 : Int32) (h : Hp) : Sn x 3 (gA (GC w)) (0, 0) (ζM x (GC w) inI) (gW (GC w) h) 0 [(0, .ref (gB (GC w) + a0)), (1, .int a1)] [] (m_X2_placeOf a0 a1 h) := by
  unfold m_X2_placeOf
  refine s_iconst hG dX2_placeOf_0 ic_0 ?_
  refine s_istore_n (lv' := [(2, .int 0), (0, .ref (gB (GC w) + a0)), (1, .int a1)]) hG dX2_placeOf_1 rfl (by decide) rfl ?_
  refine s_lv [1, 2, 0] rfl ?_
  exact s_X2_placeOf_L2 w hx hG hE hR hT FU a0 p0 a1 0 h

theorem c_X2_placeOf (w : WT) (l : Launch) (a0 : Nat) (p0 : LC a0 = (3, 0)) (a1 : Int32) (h : Hp) : ∀ v h', m_X2_placeOf a0 a1 h = some (v, h') → MetM l (GC w) yX2_placeOf cX2_placeOf 3 (some .int) 1 [.ref (gB (GC w) + a0), .int a1] h (inI v) h' :=
  met_of (by decide) (lokC w) (Nat.le_of_ble_eq_true rfl) (fun x hx hG hE hR hT => s_X2_placeOf w hx hG hE hR hT a0 p0 a1 h)
theorem vv_X2_72 : VV RX2 72 yX2_placeOf cX2_placeOf 3 (some .int) 1 := ⟨⟨gw_at 791 (by decide +kernel) (by decide +kernel), gw_at 794 (by decide +kernel) (by decide +kernel), gw_at 89 (by decide +kernel) (by decide +kernel), by decide +kernel, by decide⟩, gw_at 793 (by decide +kernel) (by decide +kernel), gw_at 19 (by decide +kernel) (by decide +kernel)⟩
theorem fl_X2_76 : FL RX2 76 5 10 := ⟨by decide, by decide, gw_at 219 (by decide +kernel) (by decide +kernel), rfl⟩
def m_X2_comesOf (a0 : Nat) (a1 : Int32) (h : Hp) : Option (Int32 × Hp) := cb (m_X2_placeOf a0 a1 h) fun v1 h2 => if 0 ≤ v1 then ck (inb v1 6) (ck (kC 5 (gr h2 (a0 + 1) v1.toNatClampNeg)) (some (gi h2 (gr h2 (a0 + 1) v1.toNatClampNeg) 10, h2))) else some ((-1), h2)
set_option maxRecDepth 20000 in
set_option maxHeartbeats 4000000 in
theorem s_X2_comesOf (w : WT) {x : CT} {l : Launch} (hx : xl x = l) (hG : Gd x cX2_comesOf 3 RX2) (hE : Ge x (GC w)) (hR : Rm x 2) (hT : Rt x (some .int)) (a0 : Nat) (p0 : LC a0 = (3, 0)) (a1 : Int32) (h : Hp) : Sn x 3 (gA (GC w)) (0, 0) (ζM x (GC w) inI) (gW (GC w) h) 0 [(0, .ref (gB (GC w) + a0)), (1, .int a1)] [] (m_X2_comesOf a0 a1 h) := by
  unfold m_X2_comesOf
  refine s_aload_n hG dX2_comesOf_0 0 rfl rfl ?_
  refine s_iload_n hG dX2_comesOf_1 1 rfl rfl ?_
  refine s_callV (a := a0) (c := 2) (inj := inI) (As := [.int a1]) (st := []) rfl hG hE dX2_comesOf_2 hR (by decide) vv_X2_72 (by decide) rfl p0 rfl (Nat.le_of_ble_eq_true rfl) rfl (fun zv zh zq => c_X2_placeOf w (xl x) a0 p0 a1 h zv zh zq) (fun v1 h2 => ?_)
  refine s_istore_n (lv' := [(2, .int v1), (0, .ref (gB (GC w) + a0)), (1, .int a1)]) hG dX2_comesOf_5 rfl (by decide) rfl ?_
  refine s_iload_n hG dX2_comesOf_6 0 rfl rfl ?_
  refine s_if_ge hG dX2_comesOf_7 (tgt := 14) (by decide) (fun q3 => ?_) (fun q3 => ?_)
  · refine s_aload_n hG dX2_comesOf_14 1 rfl rfl ?_
    refine s_getS hG hE dX2_comesOf_15 fl_X2_11 rfl p0 ((fC_2_0 p0).1) (nzC ((fC_2_0 p0).2)) ?_
    refine s_iload_n hG dX2_comesOf_18 0 rfl rfl ?_
    refine s_ck (fun q4 => ?_)
    refine s_aald (j := 2) hG hE dX2_comesOf_19 (by decide) ((fC_2_0 p0).2) q4 ?_
    refine s_ck (fun q5 => ?_)
    refine s_nn (nzC (kC_of q5)) ?_
    refine s_getI hG hE dX2_comesOf_20 fl_X2_76 rfl (kC_of q5) ?_
    exact s_iret hG hT dX2_comesOf_23
  · refine s_iconst hG dX2_comesOf_10 ic_m1 ?_
    refine s_goto (tgt := 23) hG dX2_comesOf_11 (by decide) ?_
    exact s_iret hG hT dX2_comesOf_23

theorem c_X2_comesOf (w : WT) (l : Launch) (a0 : Nat) (p0 : LC a0 = (3, 0)) (a1 : Int32) (h : Hp) : ∀ v h', m_X2_comesOf a0 a1 h = some (v, h') → MetM l (GC w) yX2_comesOf cX2_comesOf 3 (some .int) 2 [.ref (gB (GC w) + a0), .int a1] h (inI v) h' :=
  met_of (by decide) (lokC w) (Nat.le_of_ble_eq_true rfl) (fun x hx hG hE hR hT => s_X2_comesOf w hx hG hE hR hT a0 p0 a1 h)
theorem fl_X8_55 : FL RX8 55 8 8 := ⟨by decide, by decide, gw_at 419 (by decide +kernel) (by decide +kernel), rfl⟩
theorem fC_8_8 : SC 1 8 = some 11 := rfl
theorem kC_11 : LC 11 = (3, 0) := rfl
theorem vv_X8_149 : VV RX8 149 yX8_hear cX8_hear 5 none 3 := ⟨⟨gw_at 727 (by decide +kernel) (by decide +kernel), gw_at 730 (by decide +kernel) (by decide +kernel), gw_at 87 (by decide +kernel) (by decide +kernel), by decide +kernel, by decide⟩, gw_at 729 (by decide +kernel) (by decide +kernel), gw_at 15 (by decide +kernel) (by decide +kernel)⟩
theorem vv_X8_153 : VV RX8 153 yX2_comesOf cX2_comesOf 3 (some .int) 1 := ⟨⟨gw_at 787 (by decide +kernel) (by decide +kernel), gw_at 790 (by decide +kernel) (by decide +kernel), gw_at 89 (by decide +kernel) (by decide +kernel), by decide +kernel, by decide⟩, gw_at 788 (by decide +kernel) (by decide +kernel), gw_at 789 (by decide +kernel) (by decide +kernel)⟩
def m_X8_comes (a1 : Int32) (h : Hp) : Option (Int32 × Hp) := cb (m_X8_isClaim a1 h) fun v1 h2 => if v1 = 0 then some ((-1), h2) else ck (inb a1 24) (vb (gi h2 (96 + 2 * a1.toNatClampNeg) 0) fun v5 => ck (inb v5 5) (cb (m_X8_hear 11 v5 (gi h2 (91 + 1 * v5.toNatClampNeg) 2) h2) fun _ h8 => cb (m_X2_comesOf 11 a1 h8) fun v9 h10 => some (v9, h10)))
set_option maxRecDepth 20000 in
set_option maxHeartbeats 4000000 in
theorem s_X8_comes (w : WT) {x : CT} {l : Launch} (hx : xl x = l) (hG : Gd x cX8_comes 3 RX8) (hE : Ge x (GC w)) (hR : Rm x 7) (hT : Rt x (some .int)) (a1 : Int32) (h : Hp) : Sn x 3 (gA (GC w)) (0, 0) (ζM x (GC w) inI) (gW (GC w) h) 0 [(0, .ref (gB (GC w) + 1)), (1, .int a1)] [] (m_X8_comes a1 h) := by
  unfold m_X8_comes
  refine s_aload_n hG dX8_comes_0 0 rfl rfl ?_
  refine s_iload_n hG dX8_comes_1 1 rfl rfl ?_
  refine s_callV (a := 1) (c := 8) (inj := inI) (As := [.int a1]) (st := []) rfl hG hE dX8_comes_2 hR (by decide) vv_X8_107 (by decide) rfl kC_1 rfl (Nat.le_of_ble_eq_true rfl) rfl (fun zv zh zq => c_X8_isClaim w (xl x) a1 h zv zh zq) (fun v1 h2 => ?_)
  refine s_if_ne hG dX8_comes_5 (tgt := 10) (by decide) (fun q3 => ?_) (fun q3 => ?_)
  · refine s_iconst hG dX8_comes_8 ic_m1 ?_
    exact s_iret hG hT dX8_comes_9
  · refine s_aload_n hG dX8_comes_10 0 rfl rfl ?_
    refine s_getS hG hE dX8_comes_11 fl_X8_26 rfl kC_1 fC_8_3 (nzC kC_5) ?_
    refine s_iload_n hG dX8_comes_14 1 rfl rfl ?_
    refine s_ck (fun q4 => ?_)
    refine s_aaldS (j := 0) hG hE dX8_comes_15 (by decide) kC_5 q4 ((eC_8_3 q4).1) (nzC ((eC_8_3 q4).2)) ?_
    refine s_getI hG hE dX8_comes_16 fl_X8_146 rfl ((eC_8_3 q4).2) ?_
    refine s_vI (fun v5 => ?_)
    refine s_istore_n (lv' := [(2, .int v5), (0, .ref (gB (GC w) + 1)), (1, .int a1)]) hG dX8_comes_19 rfl (by decide) rfl ?_
    refine s_aload_n hG dX8_comes_20 1 rfl rfl ?_
    refine s_aload_n hG dX8_comes_21 1 rfl rfl ?_
    refine s_getS hG hE dX8_comes_22 fl_X8_55 rfl kC_1 fC_8_8 (nzC kC_11) ?_
    refine s_iload_n hG dX8_comes_25 0 rfl rfl ?_
    refine s_aload_n hG dX8_comes_26 1 rfl rfl ?_
    refine s_getS hG hE dX8_comes_27 fl_X8_20 rfl kC_1 fC_8_2 (nzC kC_4) ?_
    refine s_iload_n hG dX8_comes_30 0 rfl rfl ?_
    refine s_ck (fun q6 => ?_)
    refine s_aaldS (j := 3) hG hE dX8_comes_31 (by decide) kC_4 q6 ((eC_8_2 q6).1) (nzC ((eC_8_2 q6).2)) ?_
    refine s_getI hG hE dX8_comes_32 fl_X8_90 rfl ((eC_8_2 q6).2) ?_
    refine s_callV (a := 1) (c := 8) (inj := inV) (As := [.ref (gB (GC w) + 11), .int v5, .int (gi h2 (91 + 1 * v5.toNatClampNeg) 2)]) (st := []) rfl hG hE dX8_comes_35 hR (by decide) vv_X8_149 (by decide) rfl kC_1 rfl (Nat.le_of_ble_eq_true rfl) rfl (fun zv zh zq => c_X8_hear w (xl x) 11 kC_11 v5 (gi h2 (91 + 1 * v5.toNatClampNeg) 2) h2 zv zh zq) (fun v7 h8 => ?_)
    refine s_aload_n hG dX8_comes_38 1 rfl rfl ?_
    refine s_getS hG hE dX8_comes_39 fl_X8_55 rfl kC_1 fC_8_8 (nzC kC_11) ?_
    refine s_iload_n hG dX8_comes_42 2 rfl rfl ?_
    refine s_callV (a := 11) (c := 2) (inj := inI) (As := [.int a1]) (st := []) rfl hG hE dX8_comes_43 hR (by decide) vv_X8_153 (by decide) rfl kC_11 rfl (Nat.le_of_ble_eq_true rfl) rfl (fun zv zh zq => c_X2_comesOf w (xl x) 11 kC_11 a1 h8 zv zh zq) (fun v9 h10 => ?_)
    exact s_iret hG hT dX8_comes_46

theorem c_X8_comes (w : WT) (l : Launch) (a1 : Int32) (h : Hp) : ∀ v h', m_X8_comes a1 h = some (v, h') → MetM l (GC w) yX8_comes cX8_comes 3 (some .int) 7 [.ref (gB (GC w) + 1), .int a1] h (inI v) h' :=
  met_of (by decide) (lokC w) (Nat.le_of_ble_eq_true rfl) (fun x hx hG hE hR hT => s_X8_comes w hx hG hE hR hT a1 h)
def m_X2_standingOfNumber (a0 : Nat) (a1 : Int32) (h : Hp) : Option (Nat × Hp) := cb (m_X2_placeOf a0 a1 h) fun v1 h2 => if 0 ≤ v1 then ck (inb v1 6) (ck (kC 5 (gr h2 (a0 + 1) v1.toNatClampNeg)) (some (gr h2 (a0 + 1) v1.toNatClampNeg, h2))) else some (0, h2)
set_option maxRecDepth 20000 in
set_option maxHeartbeats 4000000 in
theorem s_X2_standingOfNumber (w : WT) {x : CT} {l : Launch} (hx : xl x = l) (hG : Gd x cX2_standingOfNumber 3 RX2) (hE : Ge x (GC w)) (hR : Rm x 2) (hT : Rt x (some (.object "WhoMustSwear$Standing"))) (a0 : Nat) (p0 : LC a0 = (3, 0)) (a1 : Int32) (h : Hp) : Sn x 3 (gA (GC w)) (0, 0) (ζM x (GC w) (inR (gB (GC w)))) (gW (GC w) h) 0 [(0, .ref (gB (GC w) + a0)), (1, .int a1)] [] (m_X2_standingOfNumber a0 a1 h) := by
  unfold m_X2_standingOfNumber
  refine s_aload_n hG dX2_standingOfNumber_0 0 rfl rfl ?_
  refine s_iload_n hG dX2_standingOfNumber_1 1 rfl rfl ?_
  refine s_callV (a := a0) (c := 2) (inj := inI) (As := [.int a1]) (st := []) rfl hG hE dX2_standingOfNumber_2 hR (by decide) vv_X2_72 (by decide) rfl p0 rfl (Nat.le_of_ble_eq_true rfl) rfl (fun zv zh zq => c_X2_placeOf w (xl x) a0 p0 a1 h zv zh zq) (fun v1 h2 => ?_)
  refine s_istore_n (lv' := [(2, .int v1), (0, .ref (gB (GC w) + a0)), (1, .int a1)]) hG dX2_standingOfNumber_5 rfl (by decide) rfl ?_
  refine s_iload_n hG dX2_standingOfNumber_6 0 rfl rfl ?_
  refine s_if_ge hG dX2_standingOfNumber_7 (tgt := 14) (by decide) (fun q3 => ?_) (fun q3 => ?_)
  · refine s_aload_n hG dX2_standingOfNumber_14 1 rfl rfl ?_
    refine s_getS hG hE dX2_standingOfNumber_15 fl_X2_11 rfl p0 ((fC_2_0 p0).1) (nzC ((fC_2_0 p0).2)) ?_
    refine s_iload_n hG dX2_standingOfNumber_18 0 rfl rfl ?_
    refine s_ck (fun q4 => ?_)
    refine s_aald (j := 2) hG hE dX2_standingOfNumber_19 (by decide) ((fC_2_0 p0).2) q4 ?_
    refine s_ck (fun q5 => ?_)
    refine s_nn (nzC (kC_of q5)) ?_
    refine s_q (nzC (kC_of q5)) ?_
    exact s_aret hG hT dX2_standingOfNumber_20
  · refine s_null (B := gB (GC w)) hG dX2_standingOfNumber_10 ?_
    refine s_goto (tgt := 20) hG dX2_standingOfNumber_11 (by decide) ?_
    exact s_aret hG hT dX2_standingOfNumber_20

theorem c_X2_standingOfNumber (w : WT) (l : Launch) (a0 : Nat) (p0 : LC a0 = (3, 0)) (a1 : Int32) (h : Hp) : ∀ v h', m_X2_standingOfNumber a0 a1 h = some (v, h') → MetM l (GC w) yX2_standingOfNumber cX2_standingOfNumber 3 (some (.object "WhoMustSwear$Standing")) 2 [.ref (gB (GC w) + a0), .int a1] h ((inR (gB (GC w))) v) h' :=
  met_of (by decide) (lokC w) (Nat.le_of_ble_eq_true rfl) (fun x hx hG hE hR hT => s_X2_standingOfNumber w hx hG hE hR hT a0 p0 a1 h)
def m_X5_hasOath (a0 : Nat) (h : Hp) : Option (Int32 × Hp) := if (gi h a0 10) = 3 then some (1, h) else if (gi h a0 10) = 4 then some (1, h) else some (0, h)
set_option maxRecDepth 20000 in
set_option maxHeartbeats 4000000 in
theorem s_X5_hasOath (w : WT) {x : CT} {l : Launch} (hx : xl x = l) (hG : Gd x cX5_hasOath 1 RX5) (hE : Ge x (GC w)) (hR : Rm x 1) (hT : Rt x (some .boolean)) (a0 : Nat) (p0 : LC a0 = (6, 0)) (h : Hp) : Sn x 1 (gA (GC w)) (0, 0) (ζM x (GC w) inI) (gW (GC w) h) 0 [(0, .ref (gB (GC w) + a0))] [] (m_X5_hasOath a0 h) := by
  unfold m_X5_hasOath
  refine s_aload_n hG dX5_hasOath_0 0 rfl rfl ?_
  refine s_getI hG hE dX5_hasOath_1 fl_X5_9 rfl p0 ?_
  refine s_iconst hG dX5_hasOath_4 ic_3 ?_
  refine s_icmp_eq hG dX5_hasOath_5 (tgt := 16) (by decide) (fun q1 => ?_) (fun q1 => ?_)
  · refine s_iconst hG dX5_hasOath_16 ic_1 ?_
    refine s_goto (tgt := 21) hG dX5_hasOath_17 (by decide) ?_
    exact s_zret hG hT (by decide) dX5_hasOath_21
  · refine s_aload_n hG dX5_hasOath_8 0 rfl rfl ?_
    refine s_getI hG hE dX5_hasOath_9 fl_X5_9 rfl p0 ?_
    refine s_iconst hG dX5_hasOath_12 ic_4 ?_
    refine s_icmp_ne hG dX5_hasOath_13 (tgt := 20) (by decide) (fun q2 => ?_) (fun q2 => ?_)
    · refine s_iconst hG dX5_hasOath_16 ic_1 ?_
      refine s_goto (tgt := 21) hG dX5_hasOath_17 (by decide) ?_
      exact s_zret hG hT (by decide) dX5_hasOath_21
    · refine s_iconst hG dX5_hasOath_20 ic_0 ?_
      exact s_zret hG hT (by decide) dX5_hasOath_21

theorem c_X5_hasOath (w : WT) (l : Launch) (a0 : Nat) (p0 : LC a0 = (6, 0)) (h : Hp) : ∀ v h', m_X5_hasOath a0 h = some (v, h') → MetM l (GC w) yX5_hasOath cX5_hasOath 1 (some .boolean) 1 [.ref (gB (GC w) + a0)] h (inI v) h' :=
  met_of (by decide) (lokC w) (Nat.le_of_ble_eq_true rfl) (fun x hx hG hE hR hT => s_X5_hasOath w hx hG hE hR hT a0 p0 h)
theorem vv_X8_156 : VV RX8 156 yX2_standingOfNumber cX2_standingOfNumber 3 (some (.object "WhoMustSwear$Standing")) 1 := ⟨⟨gw_at 799 (by decide +kernel) (by decide +kernel), gw_at 802 (by decide +kernel) (by decide +kernel), gw_at 89 (by decide +kernel) (by decide +kernel), by decide +kernel, by decide⟩, gw_at 800 (by decide +kernel) (by decide +kernel), gw_at 801 (by decide +kernel) (by decide +kernel)⟩
theorem bc_m5 : (Int8.ofInt (-5)).toInt32 = (-5) := by decide
theorem vv_X8_160 : VV RX8 160 yX5_hasOath cX5_hasOath 1 (some .boolean) 0 := ⟨⟨gw_at 803 (by decide +kernel) (by decide +kernel), gw_at 806 (by decide +kernel) (by decide +kernel), gw_at 91 (by decide +kernel) (by decide +kernel), by decide +kernel, by decide⟩, gw_at 804 (by decide +kernel) (by decide +kernel), gw_at 805 (by decide +kernel) (by decide +kernel)⟩
theorem fl_X8_172 : FL RX8 172 5 13 := ⟨by decide, by decide, gw_at 226 (by decide +kernel) (by decide +kernel), rfl⟩
theorem fl_X8_169 : FL RX8 169 5 11 := ⟨by decide, by decide, gw_at 222 (by decide +kernel) (by decide +kernel), rfl⟩
theorem fl_X8_166 : FL RX8 166 5 12 := ⟨by decide, by decide, gw_at 224 (by decide +kernel) (by decide +kernel), rfl⟩
def m_X8_due (a1 : Int32) (a2 : Int32) (h : Hp) : Option (Int32 × Hp) := cb (m_X8_isClaim a1 h) fun v1 h2 => if v1 = 0 then some ((-1), h2) else if a2 < 0 then some ((-1), h2) else if a2 ≤ 2 then ck (inb a1 24) (vb (gi h2 (96 + 2 * a1.toNatClampNeg) 0) fun v7 => ck (inb v7 5) (cb (m_X8_hear 11 v7 (gi h2 (91 + 1 * v7.toNatClampNeg) 2) h2) fun _ h10 => cb (m_X2_standingOfNumber 11 a1 h10) fun v11 h12 => if v11 = 0 then some ((-5), h12) else ck (kC 5 v11) (cb (m_X5_hasOath v11 h12) fun v15 h16 => if v15 = 0 then some ((-5), h16) else if a2 = 0 then some (gi h16 v11 12, h16) else if a2 = 1 then some (gi h16 v11 11, h16) else some (gi h16 v11 13, h16)))) else some ((-1), h2)
set_option maxRecDepth 20000 in
set_option maxHeartbeats 4000000 in
theorem s_X8_due (w : WT) {x : CT} {l : Launch} (hx : xl x = l) (hG : Gd x cX8_due 5 RX8) (hE : Ge x (GC w)) (hR : Rm x 7) (hT : Rt x (some .int)) (a1 : Int32) (a2 : Int32) (h : Hp) : Sn x 5 (gA (GC w)) (0, 0) (ζM x (GC w) inI) (gW (GC w) h) 0 [(0, .ref (gB (GC w) + 1)), (1, .int a1), (2, .int a2)] [] (m_X8_due a1 a2 h) := by
  unfold m_X8_due
  refine s_aload_n hG dX8_due_0 0 rfl rfl ?_
  refine s_iload_n hG dX8_due_1 1 rfl rfl ?_
  refine s_callV (a := 1) (c := 8) (inj := inI) (As := [.int a1]) (st := []) rfl hG hE dX8_due_2 hR (by decide) vv_X8_107 (by decide) rfl kC_1 rfl (Nat.le_of_ble_eq_true rfl) rfl (fun zv zh zq => c_X8_isClaim w (xl x) a1 h zv zh zq) (fun v1 h2 => ?_)
  refine s_if_eq hG dX8_due_5 (tgt := 17) (by decide) (fun q3 => ?_) (fun q3 => ?_)
  · refine s_iconst hG dX8_due_17 ic_m1 ?_
    exact s_iret hG hT dX8_due_18
  · refine s_iload_n hG dX8_due_8 2 rfl rfl ?_
    refine s_if_lt hG dX8_due_9 (tgt := 17) (by decide) (fun q4 => ?_) (fun q4 => ?_)
    · refine s_iconst hG dX8_due_17 ic_m1 ?_
      exact s_iret hG hT dX8_due_18
    · refine s_iload_n hG dX8_due_12 2 rfl rfl ?_
      refine s_iconst hG dX8_due_13 ic_2 ?_
      refine s_icmp_le hG dX8_due_14 (tgt := 19) (by decide) (fun q5 => ?_) (fun q5 => ?_)
      · refine s_aload_n hG dX8_due_19 0 rfl rfl ?_
        refine s_getS hG hE dX8_due_20 fl_X8_26 rfl kC_1 fC_8_3 (nzC kC_5) ?_
        refine s_iload_n hG dX8_due_23 1 rfl rfl ?_
        refine s_ck (fun q6 => ?_)
        refine s_aaldS (j := 0) hG hE dX8_due_24 (by decide) kC_5 q6 ((eC_8_3 q6).1) (nzC ((eC_8_3 q6).2)) ?_
        refine s_getI hG hE dX8_due_25 fl_X8_146 rfl ((eC_8_3 q6).2) ?_
        refine s_vI (fun v7 => ?_)
        refine s_istore_n (lv' := [(3, .int v7), (0, .ref (gB (GC w) + 1)), (1, .int a1), (2, .int a2)]) hG dX8_due_28 rfl (by decide) rfl ?_
        refine s_aload_n hG dX8_due_29 1 rfl rfl ?_
        refine s_aload_n hG dX8_due_30 1 rfl rfl ?_
        refine s_getS hG hE dX8_due_31 fl_X8_55 rfl kC_1 fC_8_8 (nzC kC_11) ?_
        refine s_iload_n hG dX8_due_34 0 rfl rfl ?_
        refine s_aload_n hG dX8_due_35 1 rfl rfl ?_
        refine s_getS hG hE dX8_due_36 fl_X8_20 rfl kC_1 fC_8_2 (nzC kC_4) ?_
        refine s_iload_n hG dX8_due_39 0 rfl rfl ?_
        refine s_ck (fun q8 => ?_)
        refine s_aaldS (j := 3) hG hE dX8_due_40 (by decide) kC_4 q8 ((eC_8_2 q8).1) (nzC ((eC_8_2 q8).2)) ?_
        refine s_getI hG hE dX8_due_41 fl_X8_90 rfl ((eC_8_2 q8).2) ?_
        refine s_callV (a := 1) (c := 8) (inj := inV) (As := [.ref (gB (GC w) + 11), .int v7, .int (gi h2 (91 + 1 * v7.toNatClampNeg) 2)]) (st := []) rfl hG hE dX8_due_44 hR (by decide) vv_X8_149 (by decide) rfl kC_1 rfl (Nat.le_of_ble_eq_true rfl) rfl (fun zv zh zq => c_X8_hear w (xl x) 11 kC_11 v7 (gi h2 (91 + 1 * v7.toNatClampNeg) 2) h2 zv zh zq) (fun v9 h10 => ?_)
        refine s_aload_n hG dX8_due_47 1 rfl rfl ?_
        refine s_getS hG hE dX8_due_48 fl_X8_55 rfl kC_1 fC_8_8 (nzC kC_11) ?_
        refine s_iload_n hG dX8_due_51 2 rfl rfl ?_
        refine s_callV (a := 11) (c := 2) (inj := (inR (gB (GC w)))) (As := [.int a1]) (st := []) rfl hG hE dX8_due_52 hR (by decide) vv_X8_156 (by decide) rfl kC_11 rfl (Nat.le_of_ble_eq_true rfl) rfl (fun zv zh zq => c_X2_standingOfNumber w (xl x) 11 kC_11 a1 h10 zv zh zq) (fun v11 h12 => ?_)
        refine s_astoreQ (lv' := [(4, rv (gB (GC w)) v11), (3, .int v7), (0, .ref (gB (GC w) + 1)), (1, .int a1), (2, .int a2)]) hG dX8_due_55 (by decide) (by simp [rv_cat, vrf_cat, cat_int, cat_long, cat_ref]) ?_
        refine s_aloadQ hG dX8_due_57 0 rfl ?_
        refine s_ifnull (tgt := 70) hG dX8_due_59 (by decide) (fun q13 => ?_) (fun q13 => ?_)
        · refine s_bipush hG dX8_due_70 bc_m5 ?_
          exact s_iret hG hT dX8_due_72
        · refine s_ck (fun q14 => ?_)
          refine s_eq (lv' := [(4, .ref (gB (GC w) + v11)), (3, .int v7), (0, .ref (gB (GC w) + 1)), (1, .int a1), (2, .int a2)]) (st' := []) (by rw [rv_n _ (nzC (kC_of q14))]) rfl ?_
          refine s_aload hG dX8_due_62 0 rfl ?_
          refine s_callV (a := v11) (c := 5) (inj := inI) (As := []) (st := []) rfl hG hE dX8_due_64 hR (by decide) vv_X8_160 (by decide) rfl (kC_of q14) rfl (Nat.le_of_ble_eq_true rfl) rfl (fun zv zh zq => c_X5_hasOath w (xl x) v11 (kC_of q14) h12 zv zh zq) (fun v15 h16 => ?_)
          refine s_if_ne hG dX8_due_67 (tgt := 73) (by decide) (fun q17 => ?_) (fun q17 => ?_)
          · refine s_bipush hG dX8_due_70 bc_m5 ?_
            exact s_iret hG hT dX8_due_72
          · refine s_iload_n hG dX8_due_73 4 rfl rfl ?_
            refine s_if_ne hG dX8_due_74 (tgt := 83) (by decide) (fun q18 => ?_) (fun q18 => ?_)
            · refine s_aload hG dX8_due_77 0 rfl ?_
              refine s_getI hG hE dX8_due_79 fl_X8_166 rfl (kC_of q14) ?_
              exact s_iret hG hT dX8_due_82
            · refine s_iload_n hG dX8_due_83 4 rfl rfl ?_
              refine s_iconst hG dX8_due_84 ic_1 ?_
              refine s_icmp_ne hG dX8_due_85 (tgt := 96) (by decide) (fun q19 => ?_) (fun q19 => ?_)
              · refine s_aload hG dX8_due_88 0 rfl ?_
                refine s_getI hG hE dX8_due_90 fl_X8_169 rfl (kC_of q14) ?_
                refine s_goto (tgt := 101) hG dX8_due_93 (by decide) ?_
                exact s_iret hG hT dX8_due_101
              · refine s_aload hG dX8_due_96 0 rfl ?_
                refine s_getI hG hE dX8_due_98 fl_X8_172 rfl (kC_of q14) ?_
                exact s_iret hG hT dX8_due_101
      · refine s_iconst hG dX8_due_17 ic_m1 ?_
        exact s_iret hG hT dX8_due_18

theorem c_X8_due (w : WT) (l : Launch) (a1 : Int32) (a2 : Int32) (h : Hp) : ∀ v h', m_X8_due a1 a2 h = some (v, h') → MetM l (GC w) yX8_due cX8_due 5 (some .int) 7 [.ref (gB (GC w) + 1), .int a1, .int a2] h (inI v) h' :=
  met_of (by decide) (lokC w) (Nat.le_of_ble_eq_true rfl) (fun x hx hG hE hR hT => s_X8_due w hx hG hE hR hT a1 a2 h)
def m_X8_isPart (a0 : Int32) (h : Hp) : Option (Int32 × Hp) := if a0 = 0 then some (1, h) else if a0 = 1 then some (1, h) else some (0, h)
set_option maxRecDepth 20000 in
set_option maxHeartbeats 4000000 in
theorem s_X8_isPart (w : WT) {x : CT} {l : Launch} (hx : xl x = l) (hG : Gd x cX8_isPart 1 RX8) (hE : Ge x (GC w)) (hR : Rm x 1) (hT : Rt x (some .boolean)) (a0 : Int32) (h : Hp) : Sn x 1 (gA (GC w)) (0, 0) (ζM x (GC w) inI) (gW (GC w) h) 0 [(0, .int a0)] [] (m_X8_isPart a0 h) := by
  unfold m_X8_isPart
  refine s_iload_n hG dX8_isPart_0 0 rfl rfl ?_
  refine s_if_eq hG dX8_isPart_1 (tgt := 9) (by decide) (fun q1 => ?_) (fun q1 => ?_)
  · refine s_iconst hG dX8_isPart_9 ic_1 ?_
    refine s_goto (tgt := 14) hG dX8_isPart_10 (by decide) ?_
    exact s_zret hG hT (by decide) dX8_isPart_14
  · refine s_iload_n hG dX8_isPart_4 0 rfl rfl ?_
    refine s_iconst hG dX8_isPart_5 ic_1 ?_
    refine s_icmp_ne hG dX8_isPart_6 (tgt := 13) (by decide) (fun q2 => ?_) (fun q2 => ?_)
    · refine s_iconst hG dX8_isPart_9 ic_1 ?_
      refine s_goto (tgt := 14) hG dX8_isPart_10 (by decide) ?_
      exact s_zret hG hT (by decide) dX8_isPart_14
    · refine s_iconst hG dX8_isPart_13 ic_0 ?_
      exact s_zret hG hT (by decide) dX8_isPart_14

theorem c_X8_isPart (w : WT) (l : Launch) (a0 : Int32) (h : Hp) : ∀ v h', m_X8_isPart a0 h = some (v, h') → MetM l (GC w) yX8_isPart cX8_isPart 1 (some .boolean) 1 [.int a0] h (inI v) h' :=
  met_of (by decide) (lokC w) (Nat.le_of_ble_eq_true rfl) (fun x hx hG hE hR hT => s_X8_isPart w hx hG hE hR hT a0 h)
theorem fl_X2_149 : FL RX2 149 3 8 := ⟨by decide, by decide, gw_at 358 (by decide +kernel) (by decide +kernel), rfl⟩
theorem fl_X2_152 : FL RX2 152 3 10 := ⟨by decide, by decide, gw_at 364 (by decide +kernel) (by decide +kernel), rfl⟩
def m_X2_below (a0 : Nat) (h : Hp) : Option (Int64 × Hp) := ck (kC 3 (gr h a0 6)) (some (((gi h (gr h a0 6) 8).toInt64) * ((gi h (gr h a0 6) 10).toInt64), h))
set_option maxRecDepth 20000 in
set_option maxHeartbeats 4000000 in
theorem s_X2_below (w : WT) {x : CT} {l : Launch} (hx : xl x = l) (hG : Gd x cX2_below 1 RX2) (hE : Ge x (GC w)) (hR : Rm x 1) (hT : Rt x (some .long)) (a0 : Nat) (p0 : LC a0 = (3, 0)) (h : Hp) : Sn x 1 (gA (GC w)) (0, 0) (ζM x (GC w) inL) (gW (GC w) h) 0 [(0, .ref (gB (GC w) + a0))] [] (m_X2_below a0 h) := by
  unfold m_X2_below
  refine s_aload_n hG dX2_below_0 0 rfl rfl ?_
  refine s_getR hG hE dX2_below_1 fl_X2_39 rfl p0 ?_
  refine s_ck (fun q1 => ?_)
  refine s_nn (nzC (kC_of q1)) ?_
  refine s_getI hG hE dX2_below_4 fl_X2_149 rfl (kC_of q1) ?_
  refine s_i2l hG dX2_below_7 ?_
  refine s_aload_n hG dX2_below_8 0 rfl rfl ?_
  refine s_getR hG hE dX2_below_9 fl_X2_39 rfl p0 ?_
  refine s_nn (nzC (kC_of q1)) ?_
  refine s_getI hG hE dX2_below_12 fl_X2_152 rfl (kC_of q1) ?_
  refine s_i2l hG dX2_below_15 ?_
  refine s_lmul hG dX2_below_16 ?_
  exact s_lret hG hT dX2_below_17

theorem c_X2_below (w : WT) (l : Launch) (a0 : Nat) (p0 : LC a0 = (3, 0)) (h : Hp) : ∀ v h', m_X2_below a0 h = some (v, h') → MetM l (GC w) yX2_below cX2_below 1 (some .long) 1 [.ref (gB (GC w) + a0)] h (inL v) h' :=
  met_of (by decide) (lokC w) (Nat.le_of_ble_eq_true rfl) (fun x hx hG hE hR hT => s_X2_below w hx hG hE hR hT a0 p0 h)
theorem fl_X2_166 : FL RX2 166 5 13 := ⟨by decide, by decide, gw_at 227 (by decide +kernel) (by decide +kernel), rfl⟩
theorem fl_X2_172 : FL RX2 172 3 7 := ⟨by decide, by decide, gw_at 355 (by decide +kernel) (by decide +kernel), rfl⟩
theorem vv_X2_155 : VV RX2 155 yX2_below cX2_below 1 (some .long) 0 := ⟨⟨gw_at 819 (by decide +kernel) (by decide +kernel), gw_at 822 (by decide +kernel) (by decide +kernel), gw_at 89 (by decide +kernel) (by decide +kernel), by decide +kernel, by decide⟩, gw_at 820 (by decide +kernel) (by decide +kernel), gw_at 821 (by decide +kernel) (by decide +kernel)⟩
theorem fl_X2_169 : FL RX2 169 3 9 := ⟨by decide, by decide, gw_at 361 (by decide +kernel) (by decide +kernel), rfl⟩
def m_X2_openByOath (a0 : Nat) (a1 : Nat) (a2 : Int32) (a3 : Int32) (h : Hp) : Option (Int64 × Hp) := if (gi h a1 13) = 2 then ck (kC 3 (gr h a0 6)) (some ((((gi h a1 1).toInt64) * ((gi h (gr h a0 6) 9).toInt64)) * ((gi h (gr h a0 6) 8).toInt64), h)) else if (gi h a1 13) = 1 then if a2 = 0 then some (0, h) else cb (m_X2_below a0 h) fun v10 h11 => some (((gi h a1 1).toInt64) * v10, h11) else if a2 = 0 then if (gi h a1 4) = 0 then ck (kC 3 (gr h a0 6)) (some ((((gi h a1 1).toInt64) * ((gi h (gr h a0 6) 7).toInt64)) * ((gi h (gr h a0 6) 10).toInt64), h)) else if a3 = 0 then some (0, h) else cb (m_X2_below a0 h) fun v7 h8 => some (((gi h a1 1).toInt64) * v7, h8) else some (0, h)
set_option maxRecDepth 20000 in
set_option maxHeartbeats 4000000 in
theorem s_X2_openByOath (w : WT) {x : CT} {l : Launch} (hx : xl x = l) (hG : Gd x cX2_openByOath 4 RX2) (hE : Ge x (GC w)) (hR : Rm x 2) (hT : Rt x (some .long)) (a0 : Nat) (p0 : LC a0 = (3, 0)) (a1 : Nat) (p1 : LC a1 = (6, 0)) (a2 : Int32) (a3 : Int32) (h : Hp) : Sn x 4 (gA (GC w)) (0, 0) (ζM x (GC w) inL) (gW (GC w) h) 0 [(0, .ref (gB (GC w) + a0)), (1, .ref (gB (GC w) + a1)), (2, .int a2), (3, .int a3)] [] (m_X2_openByOath a0 a1 a2 a3 h) := by
  unfold m_X2_openByOath
  refine s_aload_n hG dX2_openByOath_0 1 rfl rfl ?_
  refine s_getI hG hE dX2_openByOath_1 fl_X2_166 rfl p1 ?_
  refine s_iconst hG dX2_openByOath_4 ic_2 ?_
  refine s_icmp_ne hG dX2_openByOath_5 (tgt := 32) (by decide) (fun q1 => ?_) (fun q1 => ?_)
  · refine s_aload_n hG dX2_openByOath_8 1 rfl rfl ?_
    refine s_getI hG hE dX2_openByOath_9 fl_X2_95 rfl p1 ?_
    refine s_i2l hG dX2_openByOath_12 ?_
    refine s_aload_n hG dX2_openByOath_13 0 rfl rfl ?_
    refine s_getR hG hE dX2_openByOath_14 fl_X2_39 rfl p0 ?_
    refine s_ck (fun q12 => ?_)
    refine s_nn (nzC (kC_of q12)) ?_
    refine s_getI hG hE dX2_openByOath_17 fl_X2_169 rfl (kC_of q12) ?_
    refine s_i2l hG dX2_openByOath_20 ?_
    refine s_lmul hG dX2_openByOath_21 ?_
    refine s_aload_n hG dX2_openByOath_22 0 rfl rfl ?_
    refine s_getR hG hE dX2_openByOath_23 fl_X2_39 rfl p0 ?_
    refine s_nn (nzC (kC_of q12)) ?_
    refine s_getI hG hE dX2_openByOath_26 fl_X2_149 rfl (kC_of q12) ?_
    refine s_i2l hG dX2_openByOath_29 ?_
    refine s_lmul hG dX2_openByOath_30 ?_
    exact s_lret hG hT dX2_openByOath_31
  · refine s_aload_n hG dX2_openByOath_32 1 rfl rfl ?_
    refine s_getI hG hE dX2_openByOath_33 fl_X2_166 rfl p1 ?_
    refine s_iconst hG dX2_openByOath_36 ic_1 ?_
    refine s_icmp_ne hG dX2_openByOath_37 (tgt := 59) (by decide) (fun q2 => ?_) (fun q2 => ?_)
    · refine s_iload_n hG dX2_openByOath_40 2 rfl rfl ?_
      refine s_if_eq hG dX2_openByOath_41 (tgt := 57) (by decide) (fun q9 => ?_) (fun q9 => ?_)
      · refine s_lconst hG dX2_openByOath_57 lc_0 ?_
        exact s_lret hG hT dX2_openByOath_58
      · refine s_aload_n hG dX2_openByOath_44 1 rfl rfl ?_
        refine s_getI hG hE dX2_openByOath_45 fl_X2_95 rfl p1 ?_
        refine s_i2l hG dX2_openByOath_48 ?_
        refine s_aload_n hG dX2_openByOath_49 0 rfl rfl ?_
        refine s_callV (a := a0) (c := 2) (inj := inL) (As := []) (st := [.long ((gi h a1 1).toInt64)]) rfl hG hE dX2_openByOath_50 hR (by decide) vv_X2_155 (by decide) rfl p0 rfl (Nat.le_of_ble_eq_true rfl) rfl (fun zv zh zq => c_X2_below w (xl x) a0 p0 h zv zh zq) (fun v10 h11 => ?_)
        refine s_lmul hG dX2_openByOath_53 ?_
        refine s_goto (tgt := 58) hG dX2_openByOath_54 (by decide) ?_
        exact s_lret hG hT dX2_openByOath_58
    · refine s_iload_n hG dX2_openByOath_59 2 rfl rfl ?_
      refine s_if_eq hG dX2_openByOath_60 (tgt := 65) (by decide) (fun q3 => ?_) (fun q3 => ?_)
      · refine s_aload_n hG dX2_openByOath_65 1 rfl rfl ?_
        refine s_getI hG hE dX2_openByOath_66 fl_X2_137 rfl p1 ?_
        refine s_if_eq hG dX2_openByOath_69 (tgt := 91) (by decide) (fun q4 => ?_) (fun q4 => ?_)
        · refine s_aload_n hG dX2_openByOath_91 1 rfl rfl ?_
          refine s_getI hG hE dX2_openByOath_92 fl_X2_95 rfl p1 ?_
          refine s_i2l hG dX2_openByOath_95 ?_
          refine s_aload_n hG dX2_openByOath_96 0 rfl rfl ?_
          refine s_getR hG hE dX2_openByOath_97 fl_X2_39 rfl p0 ?_
          refine s_ck (fun q5 => ?_)
          refine s_nn (nzC (kC_of q5)) ?_
          refine s_getI hG hE dX2_openByOath_100 fl_X2_172 rfl (kC_of q5) ?_
          refine s_i2l hG dX2_openByOath_103 ?_
          refine s_lmul hG dX2_openByOath_104 ?_
          refine s_aload_n hG dX2_openByOath_105 0 rfl rfl ?_
          refine s_getR hG hE dX2_openByOath_106 fl_X2_39 rfl p0 ?_
          refine s_nn (nzC (kC_of q5)) ?_
          refine s_getI hG hE dX2_openByOath_109 fl_X2_152 rfl (kC_of q5) ?_
          refine s_i2l hG dX2_openByOath_112 ?_
          refine s_lmul hG dX2_openByOath_113 ?_
          exact s_lret hG hT dX2_openByOath_114
        · refine s_iload_n hG dX2_openByOath_72 3 rfl rfl ?_
          refine s_if_eq hG dX2_openByOath_73 (tgt := 89) (by decide) (fun q6 => ?_) (fun q6 => ?_)
          · refine s_lconst hG dX2_openByOath_89 lc_0 ?_
            exact s_lret hG hT dX2_openByOath_90
          · refine s_aload_n hG dX2_openByOath_76 1 rfl rfl ?_
            refine s_getI hG hE dX2_openByOath_77 fl_X2_95 rfl p1 ?_
            refine s_i2l hG dX2_openByOath_80 ?_
            refine s_aload_n hG dX2_openByOath_81 0 rfl rfl ?_
            refine s_callV (a := a0) (c := 2) (inj := inL) (As := []) (st := [.long ((gi h a1 1).toInt64)]) rfl hG hE dX2_openByOath_82 hR (by decide) vv_X2_155 (by decide) rfl p0 rfl (Nat.le_of_ble_eq_true rfl) rfl (fun zv zh zq => c_X2_below w (xl x) a0 p0 h zv zh zq) (fun v7 h8 => ?_)
            refine s_lmul hG dX2_openByOath_85 ?_
            refine s_goto (tgt := 90) hG dX2_openByOath_86 (by decide) ?_
            exact s_lret hG hT dX2_openByOath_90
      · refine s_lconst hG dX2_openByOath_63 lc_0 ?_
        exact s_lret hG hT dX2_openByOath_64

theorem c_X2_openByOath (w : WT) (l : Launch) (a0 : Nat) (p0 : LC a0 = (3, 0)) (a1 : Nat) (p1 : LC a1 = (6, 0)) (a2 : Int32) (a3 : Int32) (h : Hp) : ∀ v h', m_X2_openByOath a0 a1 a2 a3 h = some (v, h') → MetM l (GC w) yX2_openByOath cX2_openByOath 4 (some .long) 2 [.ref (gB (GC w) + a0), .ref (gB (GC w) + a1), .int a2, .int a3] h (inL v) h' :=
  met_of (by decide) (lokC w) (Nat.le_of_ble_eq_true rfl) (fun x hx hG hE hR hT => s_X2_openByOath w hx hG hE hR hT a0 p0 a1 p1 a2 a3 h)
theorem vv_X2_159 : VV RX2 159 yX5_hasOath cX5_hasOath 1 (some .boolean) 0 := ⟨⟨gw_at 823 (by decide +kernel) (by decide +kernel), gw_at 806 (by decide +kernel) (by decide +kernel), gw_at 91 (by decide +kernel) (by decide +kernel), by decide +kernel, by decide⟩, gw_at 804 (by decide +kernel) (by decide +kernel), gw_at 805 (by decide +kernel) (by decide +kernel)⟩
theorem vv_X2_162 : VV RX2 162 yX2_openByOath cX2_openByOath 4 (some .long) 3 := ⟨⟨gw_at 824 (by decide +kernel) (by decide +kernel), gw_at 827 (by decide +kernel) (by decide +kernel), gw_at 89 (by decide +kernel) (by decide +kernel), by decide +kernel, by decide⟩, gw_at 826 (by decide +kernel) (by decide +kernel), gw_at 20 (by decide +kernel) (by decide +kernel)⟩
def m_X2_paidWhen_L42 (a0 : Nat) (a1 : Nat) (a4 : Int64) (h : Hp) : Option (Int64 × Hp) := cb (m_X2_below a0 h) fun v1 h2 => some ((((gi h a1 0).toInt64) * v1) + a4, h2)
set_option maxRecDepth 20000 in
set_option maxHeartbeats 4000000 in
theorem s_X2_paidWhen_L42 (w : WT) {x : CT} {l : Launch} (hx : xl x = l) (hG : Gd x cX2_paidWhen 6 RX2) (hE : Ge x (GC w)) (hR : Rm x 3) (hT : Rt x (some .long)) (a0 : Nat) (p0 : LC a0 = (3, 0)) (a1 : Nat) (p1 : LC a1 = (6, 0)) (a4 : Int64) (h : Hp) : Sn x 6 (gA (GC w)) (0, 0) (ζM x (GC w) inL) (gW (GC w) h) 42 [(0, .ref (gB (GC w) + a0)), (1, .ref (gB (GC w) + a1)), (4, .long a4)] [] (m_X2_paidWhen_L42 a0 a1 a4 h) := by
  unfold m_X2_paidWhen_L42
  refine s_aload_n hG dX2_paidWhen_42 1 rfl rfl ?_
  refine s_getI hG hE dX2_paidWhen_43 fl_X2_94 rfl p1 ?_
  refine s_i2l hG dX2_paidWhen_46 ?_
  refine s_aload_n hG dX2_paidWhen_47 0 rfl rfl ?_
  refine s_callV (a := a0) (c := 2) (inj := inL) (As := []) (st := [.long ((gi h a1 0).toInt64)]) rfl hG hE dX2_paidWhen_48 hR (by decide) vv_X2_155 (by decide) rfl p0 rfl (Nat.le_of_ble_eq_true rfl) rfl (fun zv zh zq => c_X2_below w (xl x) a0 p0 h zv zh zq) (fun v1 h2 => ?_)
  refine s_lmul hG dX2_paidWhen_51 ?_
  refine s_lload hG dX2_paidWhen_52 2 rfl ?_
  refine s_ladd hG dX2_paidWhen_54 ?_
  exact s_lret hG hT dX2_paidWhen_55

def m_X2_paidWhen (a0 : Nat) (a1 : Nat) (a2 : Int32) (a3 : Int32) (h : Hp) : Option (Int64 × Hp) := if (gi h a1 10) = 2 then cb (m_X2_below a0 h) fun v7 h8 => vb (((gi h a1 1).toInt64) * v7) fun v9 => m_X2_paidWhen_L42 a0 a1 v9 h8 else cb (m_X5_hasOath a1 h) fun v2 h3 => if v2 = 0 then m_X2_paidWhen_L42 a0 a1 0 h3 else cb (m_X2_openByOath a0 a1 a2 a3 h3) fun v5 h6 => m_X2_paidWhen_L42 a0 a1 v5 h6
set_option maxRecDepth 20000 in
set_option maxHeartbeats 4000000 in
theorem s_X2_paidWhen (w : WT) {x : CT} {l : Launch} (hx : xl x = l) (hG : Gd x cX2_paidWhen 6 RX2) (hE : Ge x (GC w)) (hR : Rm x 3) (hT : Rt x (some .long)) (a0 : Nat) (p0 : LC a0 = (3, 0)) (a1 : Nat) (p1 : LC a1 = (6, 0)) (a2 : Int32) (a3 : Int32) (h : Hp) : Sn x 6 (gA (GC w)) (0, 0) (ζM x (GC w) inL) (gW (GC w) h) 0 [(0, .ref (gB (GC w) + a0)), (1, .ref (gB (GC w) + a1)), (2, .int a2), (3, .int a3)] [] (m_X2_paidWhen a0 a1 a2 a3 h) := by
  unfold m_X2_paidWhen
  refine s_lconst hG dX2_paidWhen_0 lc_0 ?_
  refine s_lstore (lv' := [(4, .long 0), (0, .ref (gB (GC w) + a0)), (1, .ref (gB (GC w) + a1)), (2, .int a2), (3, .int a3)]) hG dX2_paidWhen_1 (by decide) rfl ?_
  refine s_aload_n hG dX2_paidWhen_3 2 rfl rfl ?_
  refine s_getI hG hE dX2_paidWhen_4 fl_X2_76 rfl p1 ?_
  refine s_iconst hG dX2_paidWhen_7 ic_2 ?_
  refine s_icmp_ne hG dX2_paidWhen_8 (tgt := 26) (by decide) (fun q1 => ?_) (fun q1 => ?_)
  · refine s_aload_n hG dX2_paidWhen_11 2 rfl rfl ?_
    refine s_getI hG hE dX2_paidWhen_12 fl_X2_95 rfl p1 ?_
    refine s_i2l hG dX2_paidWhen_15 ?_
    refine s_aload_n hG dX2_paidWhen_16 1 rfl rfl ?_
    refine s_callV (a := a0) (c := 2) (inj := inL) (As := []) (st := [.long ((gi h a1 1).toInt64)]) rfl hG hE dX2_paidWhen_17 hR (by decide) vv_X2_155 (by decide) rfl p0 rfl (Nat.le_of_ble_eq_true rfl) rfl (fun zv zh zq => c_X2_below w (xl x) a0 p0 h zv zh zq) (fun v7 h8 => ?_)
    refine s_lmul hG dX2_paidWhen_20 ?_
    refine s_vL (fun v9 => ?_)
    refine s_lstore (lv' := [(4, .long v9), (0, .ref (gB (GC w) + a0)), (1, .ref (gB (GC w) + a1)), (2, .int a2), (3, .int a3)]) hG dX2_paidWhen_21 (by decide) rfl ?_
    refine s_goto (tgt := 42) hG dX2_paidWhen_23 (by decide) ?_
    refine s_lv [1, 2, 0] rfl ?_
    exact s_X2_paidWhen_L42 w hx hG hE hR hT a0 p0 a1 p1 v9 h8
  · refine s_aload_n hG dX2_paidWhen_26 2 rfl rfl ?_
    refine s_callV (a := a1) (c := 5) (inj := inI) (As := []) (st := []) rfl hG hE dX2_paidWhen_27 hR (by decide) vv_X2_159 (by decide) rfl p1 rfl (Nat.le_of_ble_eq_true rfl) rfl (fun zv zh zq => c_X5_hasOath w (xl x) a1 p1 h zv zh zq) (fun v2 h3 => ?_)
    refine s_if_eq hG dX2_paidWhen_30 (tgt := 42) (by decide) (fun q4 => ?_) (fun q4 => ?_)
    · refine s_lv [1, 2, 0] rfl ?_
      exact s_X2_paidWhen_L42 w hx hG hE hR hT a0 p0 a1 p1 0 h3
    · refine s_aload_n hG dX2_paidWhen_33 1 rfl rfl ?_
      refine s_aload_n hG dX2_paidWhen_34 2 rfl rfl ?_
      refine s_iload_n hG dX2_paidWhen_35 3 rfl rfl ?_
      refine s_iload_n hG dX2_paidWhen_36 4 rfl rfl ?_
      refine s_callV (a := a0) (c := 2) (inj := inL) (As := [.ref (gB (GC w) + a1), .int a2, .int a3]) (st := []) rfl hG hE dX2_paidWhen_37 hR (by decide) vv_X2_162 (by decide) rfl p0 rfl (Nat.le_of_ble_eq_true rfl) rfl (fun zv zh zq => c_X2_openByOath w (xl x) a0 p0 a1 p1 a2 a3 h3 zv zh zq) (fun v5 h6 => ?_)
      refine s_lstore (lv' := [(4, .long v5), (0, .ref (gB (GC w) + a0)), (1, .ref (gB (GC w) + a1)), (2, .int a2), (3, .int a3)]) hG dX2_paidWhen_40 (by decide) rfl ?_
      refine s_lv [1, 2, 0] rfl ?_
      exact s_X2_paidWhen_L42 w hx hG hE hR hT a0 p0 a1 p1 v5 h6

theorem c_X2_paidWhen (w : WT) (l : Launch) (a0 : Nat) (p0 : LC a0 = (3, 0)) (a1 : Nat) (p1 : LC a1 = (6, 0)) (a2 : Int32) (a3 : Int32) (h : Hp) : ∀ v h', m_X2_paidWhen a0 a1 a2 a3 h = some (v, h') → MetM l (GC w) yX2_paidWhen cX2_paidWhen 6 (some .long) 3 [.ref (gB (GC w) + a0), .ref (gB (GC w) + a1), .int a2, .int a3] h (inL v) h' :=
  met_of (by decide) (lokC w) (Nat.le_of_ble_eq_true rfl) (fun x hx hG hE hR hT => s_X2_paidWhen w hx hG hE hR hT a0 p0 a1 p1 a2 a3 h)
theorem sc_1000 : (Int16.ofInt 1000).toInt32 = 1000 := by decide
def m_X8_commonDivisor_L9 : Nat → Int64 → Int64 → Int32 → Hp → Option (Int64 × Hp)
  | 0, _, _, _, _ => none
  | n + 1, a4, a6, a8, h => if 1000 ≤ a8 then some (a4, h) else if a6 = 0 then some (a4, h) else ck (decide (¬ a6 = 0)) (vb (a4 - a4 / a6 * a6) fun v4 => vb (a8 + 1) fun v5 => m_X8_commonDivisor_L9 n a6 v4 v5 h)
set_option maxRecDepth 20000 in
set_option maxHeartbeats 4000000 in
theorem s_X8_commonDivisor_L9 (w : WT) {x : CT} {l : Launch} (hx : xl x = l) (hG : Gd x cX8_commonDivisor 11 RX8) (hE : Ge x (GC w)) (hR : Rm x 1) (hT : Rt x (some .long)) : ∀ (n : Nat) (a4 : Int64) (a6 : Int64) (a8 : Int32) (h : Hp), Sn x 11 (gA (GC w)) (0, 0) (ζM x (GC w) inL) (gW (GC w) h) 9 [(4, .long a4), (6, .long a6), (8, .int a8)] [] (m_X8_commonDivisor_L9 n a4 a6 a8 h) := by
  intro n
  induction n with
  | zero => intro a4 a6 a8 h; exact s_none
  | succ n ih =>
    intro a4 a6 a8 h
    rw [m_X8_commonDivisor_L9]
    refine s_iload hG dX8_commonDivisor_9 2 rfl ?_
    refine s_sipush hG dX8_commonDivisor_11 sc_1000 ?_
    refine s_icmp_ge hG dX8_commonDivisor_14 (tgt := 45) (by decide) (fun q1 => ?_) (fun q1 => ?_)
    · refine s_lload hG dX8_commonDivisor_45 0 rfl ?_
      exact s_lret hG hT dX8_commonDivisor_47
    · refine s_lload hG dX8_commonDivisor_17 1 rfl ?_
      refine s_lconst hG dX8_commonDivisor_19 lc_0 ?_
      refine s_lcmp_eq hG dX8_commonDivisor_20 dX8_commonDivisor_21 (tgt := 45) (by decide) (fun q2 => ?_) (fun q2 => ?_)
      · refine s_lload hG dX8_commonDivisor_45 0 rfl ?_
        exact s_lret hG hT dX8_commonDivisor_47
      · refine s_lload hG dX8_commonDivisor_24 0 rfl ?_
        refine s_lload hG dX8_commonDivisor_26 1 rfl ?_
        refine s_ck (fun q3 => ?_)
        refine s_lrem hG dX8_commonDivisor_28 (of_decide_eq_true q3) ?_
        refine s_vL (fun v4 => ?_)
        refine s_lstore (lv' := [(9, .long v4), (4, .long a4), (6, .long a6), (8, .int a8)]) hG dX8_commonDivisor_29 (by decide) rfl ?_
        refine s_lload hG dX8_commonDivisor_31 2 rfl ?_
        refine s_lstore (lv' := [(4, .long a6), (9, .long v4), (6, .long a6), (8, .int a8)]) hG dX8_commonDivisor_33 (by decide) rfl ?_
        refine s_lload hG dX8_commonDivisor_35 1 rfl ?_
        refine s_lstore (lv' := [(6, .long v4), (4, .long a6), (9, .long v4), (8, .int a8)]) hG dX8_commonDivisor_37 (by decide) rfl ?_
        refine s_iinc hG dX8_commonDivisor_39 3 rfl ic_1 (by decide) (fun v5 => [(8, .int v5), (6, .long v4), (4, .long a6), (9, .long v4)]) (fun _ => rfl) (fun v5 => ?_)
        refine s_goto (tgt := 9) hG dX8_commonDivisor_42 (by decide) ?_
        refine s_lv [2, 1, 0] rfl ?_
        exact ih a6 v4 v5 h

def m_X8_commonDivisor (a0 : Int64) (a2 : Int64) (h : Hp) : Option (Int64 × Hp) := m_X8_commonDivisor_L9 FU a0 a2 0 h
set_option maxRecDepth 20000 in
set_option maxHeartbeats 4000000 in
theorem s_X8_commonDivisor (w : WT) {x : CT} {l : Launch} (hx : xl x = l) (hG : Gd x cX8_commonDivisor 11 RX8) (hE : Ge x (GC w)) (hR : Rm x 1) (hT : Rt x (some .long)) (a0 : Int64) (a2 : Int64) (h : Hp) : Sn x 11 (gA (GC w)) (0, 0) (ζM x (GC w) inL) (gW (GC w) h) 0 [(0, .long a0), (2, .long a2)] [] (m_X8_commonDivisor a0 a2 h) := by
  unfold m_X8_commonDivisor
  refine s_lload_n hG dX8_commonDivisor_0 0 rfl rfl ?_
  refine s_lstore (lv' := [(4, .long a0), (0, .long a0), (2, .long a2)]) hG dX8_commonDivisor_1 (by decide) rfl ?_
  refine s_lload_n hG dX8_commonDivisor_3 2 rfl rfl ?_
  refine s_lstore (lv' := [(6, .long a2), (4, .long a0), (0, .long a0), (2, .long a2)]) hG dX8_commonDivisor_4 (by decide) rfl ?_
  refine s_iconst hG dX8_commonDivisor_6 ic_0 ?_
  refine s_istore (lv' := [(8, .int 0), (6, .long a2), (4, .long a0), (0, .long a0), (2, .long a2)]) hG dX8_commonDivisor_7 (by decide) rfl ?_
  refine s_lv [2, 1, 0] rfl ?_
  exact s_X8_commonDivisor_L9 w hx hG hE hR hT FU a0 a2 0 h

theorem c_X8_commonDivisor (w : WT) (l : Launch) (a0 : Int64) (a2 : Int64) (h : Hp) : ∀ v h', m_X8_commonDivisor a0 a2 h = some (v, h') → MetM l (GC w) yX8_commonDivisor cX8_commonDivisor 11 (some .long) 1 [.long a0, .long a2] h (inL v) h' :=
  met_of (by decide) (lokC w) (Nat.le_of_ble_eq_true rfl) (fun x hx hG hE hR hT => s_X8_commonDivisor w hx hG hE hR hT a0 a2 h)
theorem wd_832 : Cond.methodLink RX8 322 Lib.MathLoose.abs_long.x ∈ GW := gw_at 832 (by decide +kernel) (by decide +kernel)
theorem wd_833 : Cond.static Lib.MathLoose.abs_long.x ∈ GW := gw_at 833 (by decide +kernel) (by decide +kernel)
theorem wd_834 : Cond.code Lib.MathLoose.abs_long.x Lib.MathLoose.abs_long.code 2 (some .long) ∈ GW := gw_at 834 (by decide +kernel) (by decide +kernel)
theorem vs_X8_327 : VS RX8 327 yX8_commonDivisor cX8_commonDivisor 11 (some .long) 2 := ⟨⟨gw_at 835 (by decide +kernel) (by decide +kernel), gw_at 837 (by decide +kernel) (by decide +kernel), gw_at 87 (by decide +kernel) (by decide +kernel), by decide +kernel, by decide⟩, gw_at 836 (by decide +kernel) (by decide +kernel)⟩
theorem wd_814 : Jvm.Cond.constantLong RX8 178 (-9223372036854775808) ∈ GW := gw_at 814 (by decide +kernel) (by decide +kernel)
def m_X8_lowest (a0 : Int64) (a2 : Int64) (a4 : Int32) (h : Hp) : Option (Int64 × Hp) := cb (m_X8_commonDivisor (if 0 < a0 then a0 else -a0) a2 h) fun v1 h2 => if v1 = 0 then some ((-9223372036854775808), h2) else if a4 = 0 then ck (decide (¬ v1 = 0)) (some (a0 / v1, h2)) else ck (decide (¬ v1 = 0)) (some (a2 / v1, h2))
set_option maxRecDepth 20000 in
set_option maxHeartbeats 4000000 in
theorem s_X8_lowest (w : WT) {x : CT} {l : Launch} (hx : xl x = l) (hG : Gd x cX8_lowest 7 RX8) (hE : Ge x (GC w)) (hR : Rm x 2) (hT : Rt x (some .long)) (a0 : Int64) (a2 : Int64) (a4 : Int32) (h : Hp) : Sn x 7 (gA (GC w)) (0, 0) (ζM x (GC w) inL) (gW (GC w) h) 0 [(0, .long a0), (2, .long a2), (4, .int a4)] [] (m_X8_lowest a0 a2 a4 h) := by
  unfold m_X8_lowest
  refine s_lload_n hG dX8_lowest_0 0 rfl rfl ?_
  refine s_mabsL hG hR (by decide) dX8_lowest_1 wd_832 wd_833 wd_101 wd_834 (Nat.le_of_ble_eq_true rfl) ?_
  refine s_lload_n hG dX8_lowest_4 1 rfl rfl ?_
  refine s_callS (inj := inL) (As := [.long (if 0 < a0 then a0 else -a0), .long a2]) (st := []) rfl hG hE dX8_lowest_5 hR (by decide) vs_X8_327 rfl (Nat.le_of_ble_eq_true rfl) rfl (fun zv zh zq => c_X8_commonDivisor w (xl x) (if 0 < a0 then a0 else -a0) a2 h zv zh zq) (fun v1 h2 => ?_)
  refine s_lstore (lv' := [(5, .long v1), (0, .long a0), (2, .long a2), (4, .int a4)]) hG dX8_lowest_8 (by decide) rfl ?_
  refine s_lload hG dX8_lowest_10 0 rfl ?_
  refine s_lconst hG dX8_lowest_12 lc_0 ?_
  refine s_lcmp_ne hG dX8_lowest_13 dX8_lowest_14 (tgt := 21) (by decide) (fun q3 => ?_) (fun q3 => ?_)
  · refine s_ldc2 hG dX8_lowest_17 wd_814 ?_
    exact s_lret hG hT dX8_lowest_20
  · refine s_iload hG dX8_lowest_21 3 rfl ?_
    refine s_if_ne hG dX8_lowest_23 (tgt := 30) (by decide) (fun q4 => ?_) (fun q4 => ?_)
    · refine s_lload_n hG dX8_lowest_26 1 rfl rfl ?_
      refine s_goto (tgt := 31) hG dX8_lowest_27 (by decide) ?_
      refine s_lload hG dX8_lowest_31 0 rfl ?_
      refine s_ck (fun q6 => ?_)
      refine s_ldiv hG dX8_lowest_33 (of_decide_eq_true q6) ?_
      exact s_lret hG hT dX8_lowest_34
    · refine s_lload_n hG dX8_lowest_30 2 rfl rfl ?_
      refine s_lload hG dX8_lowest_31 0 rfl ?_
      refine s_ck (fun q5 => ?_)
      refine s_ldiv hG dX8_lowest_33 (of_decide_eq_true q5) ?_
      exact s_lret hG hT dX8_lowest_34

theorem c_X8_lowest (w : WT) (l : Launch) (a0 : Int64) (a2 : Int64) (a4 : Int32) (h : Hp) : ∀ v h', m_X8_lowest a0 a2 a4 h = some (v, h') → MetM l (GC w) yX8_lowest cX8_lowest 7 (some .long) 2 [.long a0, .long a2, .int a4] h (inL v) h' :=
  met_of (by decide) (lokC w) (Nat.le_of_ble_eq_true rfl) (fun x hx hG hE hR hT => s_X8_lowest w hx hG hE hR hT a0 a2 a4 h)
theorem vs_X8_175 : VS RX8 175 yX8_isPart cX8_isPart 1 (some .boolean) 1 := ⟨⟨gw_at 811 (by decide +kernel) (by decide +kernel), gw_at 813 (by decide +kernel) (by decide +kernel), gw_at 87 (by decide +kernel) (by decide +kernel), by decide +kernel, by decide⟩, gw_at 812 (by decide +kernel) (by decide +kernel)⟩
theorem vv_X8_180 : VV RX8 180 yX2_paidWhen cX2_paidWhen 6 (some .long) 3 := ⟨⟨gw_at 815 (by decide +kernel) (by decide +kernel), gw_at 818 (by decide +kernel) (by decide +kernel), gw_at 89 (by decide +kernel) (by decide +kernel), by decide +kernel, by decide⟩, gw_at 816 (by decide +kernel) (by decide +kernel), gw_at 817 (by decide +kernel) (by decide +kernel)⟩
theorem vv_X8_184 : VV RX8 184 yX2_below cX2_below 1 (some .long) 0 := ⟨⟨gw_at 828 (by decide +kernel) (by decide +kernel), gw_at 822 (by decide +kernel) (by decide +kernel), gw_at 89 (by decide +kernel) (by decide +kernel), by decide +kernel, by decide⟩, gw_at 820 (by decide +kernel) (by decide +kernel), gw_at 821 (by decide +kernel) (by decide +kernel)⟩
theorem vs_X8_188 : VS RX8 188 yX8_lowest cX8_lowest 7 (some .long) 3 := ⟨⟨gw_at 829 (by decide +kernel) (by decide +kernel), gw_at 831 (by decide +kernel) (by decide +kernel), gw_at 87 (by decide +kernel) (by decide +kernel), by decide +kernel, by decide⟩, gw_at 830 (by decide +kernel) (by decide +kernel)⟩
def m_X8_paid (a1 : Int32) (a2 : Int32) (a3 : Int32) (h : Hp) : Option (Int64 × Hp) := cb (m_X8_isClaim a1 h) fun v1 h2 => if v1 = 0 then some ((-9223372036854775808), h2) else cb (m_X8_isPart a3 h2) fun v4 h5 => if v4 = 0 then some ((-9223372036854775808), h5) else ck (inb a1 24) (vb (gi h5 (96 + 2 * a1.toNatClampNeg) 0) fun v8 => ck (inb v8 5) (cb (m_X8_hear 11 v8 (gi h5 (91 + 1 * v8.toNatClampNeg) 2) h5) fun _ h11 => cb (m_X2_standingOfNumber 11 a1 h11) fun v12 h13 => if v12 = 0 then some ((-9223372036854775808), h13) else ck (kC 5 v12) (cb (m_X2_paidWhen 11 v12 a2 1 h13) fun v16 h17 => cb (m_X2_below 11 h17) fun v18 h19 => cb (m_X8_lowest v16 v18 a3 h19) fun v20 h21 => some (v20, h21))))
set_option maxRecDepth 20000 in
set_option maxHeartbeats 4000000 in
theorem s_X8_paid (w : WT) {x : CT} {l : Launch} (hx : xl x = l) (hG : Gd x cX8_paid 6 RX8) (hE : Ge x (GC w)) (hR : Rm x 7) (hT : Rt x (some .long)) (a1 : Int32) (a2 : Int32) (a3 : Int32) (h : Hp) : Sn x 6 (gA (GC w)) (0, 0) (ζM x (GC w) inL) (gW (GC w) h) 0 [(0, .ref (gB (GC w) + 1)), (1, .int a1), (2, .int a2), (3, .int a3)] [] (m_X8_paid a1 a2 a3 h) := by
  unfold m_X8_paid
  refine s_aload_n hG dX8_paid_0 0 rfl rfl ?_
  refine s_iload_n hG dX8_paid_1 1 rfl rfl ?_
  refine s_callV (a := 1) (c := 8) (inj := inI) (As := [.int a1]) (st := []) rfl hG hE dX8_paid_2 hR (by decide) vv_X8_107 (by decide) rfl kC_1 rfl (Nat.le_of_ble_eq_true rfl) rfl (fun zv zh zq => c_X8_isClaim w (xl x) a1 h zv zh zq) (fun v1 h2 => ?_)
  refine s_if_eq hG dX8_paid_5 (tgt := 15) (by decide) (fun q3 => ?_) (fun q3 => ?_)
  · refine s_ldc2 hG dX8_paid_15 wd_814 ?_
    exact s_lret hG hT dX8_paid_18
  · refine s_iload_n hG dX8_paid_8 3 rfl rfl ?_
    refine s_callS (inj := inI) (As := [.int a3]) (st := []) rfl hG hE dX8_paid_9 hR (by decide) vs_X8_175 rfl (Nat.le_of_ble_eq_true rfl) rfl (fun zv zh zq => c_X8_isPart w (xl x) a3 h2 zv zh zq) (fun v4 h5 => ?_)
    refine s_if_ne hG dX8_paid_12 (tgt := 19) (by decide) (fun q6 => ?_) (fun q6 => ?_)
    · refine s_ldc2 hG dX8_paid_15 wd_814 ?_
      exact s_lret hG hT dX8_paid_18
    · refine s_aload_n hG dX8_paid_19 0 rfl rfl ?_
      refine s_getS hG hE dX8_paid_20 fl_X8_26 rfl kC_1 fC_8_3 (nzC kC_5) ?_
      refine s_iload_n hG dX8_paid_23 1 rfl rfl ?_
      refine s_ck (fun q7 => ?_)
      refine s_aaldS (j := 0) hG hE dX8_paid_24 (by decide) kC_5 q7 ((eC_8_3 q7).1) (nzC ((eC_8_3 q7).2)) ?_
      refine s_getI hG hE dX8_paid_25 fl_X8_146 rfl ((eC_8_3 q7).2) ?_
      refine s_vI (fun v8 => ?_)
      refine s_istore (lv' := [(4, .int v8), (0, .ref (gB (GC w) + 1)), (1, .int a1), (2, .int a2), (3, .int a3)]) hG dX8_paid_28 (by decide) rfl ?_
      refine s_aload_n hG dX8_paid_30 1 rfl rfl ?_
      refine s_aload_n hG dX8_paid_31 1 rfl rfl ?_
      refine s_getS hG hE dX8_paid_32 fl_X8_55 rfl kC_1 fC_8_8 (nzC kC_11) ?_
      refine s_iload hG dX8_paid_35 0 rfl ?_
      refine s_aload_n hG dX8_paid_37 1 rfl rfl ?_
      refine s_getS hG hE dX8_paid_38 fl_X8_20 rfl kC_1 fC_8_2 (nzC kC_4) ?_
      refine s_iload hG dX8_paid_41 0 rfl ?_
      refine s_ck (fun q9 => ?_)
      refine s_aaldS (j := 3) hG hE dX8_paid_43 (by decide) kC_4 q9 ((eC_8_2 q9).1) (nzC ((eC_8_2 q9).2)) ?_
      refine s_getI hG hE dX8_paid_44 fl_X8_90 rfl ((eC_8_2 q9).2) ?_
      refine s_callV (a := 1) (c := 8) (inj := inV) (As := [.ref (gB (GC w) + 11), .int v8, .int (gi h5 (91 + 1 * v8.toNatClampNeg) 2)]) (st := []) rfl hG hE dX8_paid_47 hR (by decide) vv_X8_149 (by decide) rfl kC_1 rfl (Nat.le_of_ble_eq_true rfl) rfl (fun zv zh zq => c_X8_hear w (xl x) 11 kC_11 v8 (gi h5 (91 + 1 * v8.toNatClampNeg) 2) h5 zv zh zq) (fun v10 h11 => ?_)
      refine s_aload_n hG dX8_paid_50 1 rfl rfl ?_
      refine s_getS hG hE dX8_paid_51 fl_X8_55 rfl kC_1 fC_8_8 (nzC kC_11) ?_
      refine s_iload_n hG dX8_paid_54 2 rfl rfl ?_
      refine s_callV (a := 11) (c := 2) (inj := (inR (gB (GC w)))) (As := [.int a1]) (st := []) rfl hG hE dX8_paid_55 hR (by decide) vv_X8_156 (by decide) rfl kC_11 rfl (Nat.le_of_ble_eq_true rfl) rfl (fun zv zh zq => c_X2_standingOfNumber w (xl x) 11 kC_11 a1 h11 zv zh zq) (fun v12 h13 => ?_)
      refine s_astoreQ (lv' := [(5, rv (gB (GC w)) v12), (4, .int v8), (0, .ref (gB (GC w) + 1)), (1, .int a1), (2, .int a2), (3, .int a3)]) hG dX8_paid_58 (by decide) (by simp [rv_cat, vrf_cat, cat_int, cat_long, cat_ref]) ?_
      refine s_aloadQ hG dX8_paid_60 0 rfl ?_
      refine s_ifnonnull (tgt := 69) hG dX8_paid_62 (by decide) (fun q14 => ?_) (fun q14 => ?_)
      · refine s_ldc2 hG dX8_paid_65 wd_814 ?_
        exact s_lret hG hT dX8_paid_68
      · refine s_ck (fun q15 => ?_)
        refine s_eq (lv' := [(5, .ref (gB (GC w) + v12)), (4, .int v8), (0, .ref (gB (GC w) + 1)), (1, .int a1), (2, .int a2), (3, .int a3)]) (st' := []) (by rw [rv_n _ (nzC (kC_of q15))]) rfl ?_
        refine s_aload_n hG dX8_paid_69 2 rfl rfl ?_
        refine s_getS hG hE dX8_paid_70 fl_X8_55 rfl kC_1 fC_8_8 (nzC kC_11) ?_
        refine s_aload hG dX8_paid_73 0 rfl ?_
        refine s_iload_n hG dX8_paid_75 4 rfl rfl ?_
        refine s_iconst hG dX8_paid_76 ic_1 ?_
        refine s_callV (a := 11) (c := 2) (inj := inL) (As := [.ref (gB (GC w) + v12), .int a2, .int 1]) (st := []) rfl hG hE dX8_paid_77 hR (by decide) vv_X8_180 (by decide) rfl kC_11 rfl (Nat.le_of_ble_eq_true rfl) rfl (fun zv zh zq => c_X2_paidWhen w (xl x) 11 kC_11 v12 (kC_of q15) a2 1 h13 zv zh zq) (fun v16 h17 => ?_)
        refine s_aload_n hG dX8_paid_80 2 rfl rfl ?_
        refine s_getS hG hE dX8_paid_81 fl_X8_55 rfl kC_1 fC_8_8 (nzC kC_11) ?_
        refine s_callV (a := 11) (c := 2) (inj := inL) (As := []) (st := [.long v16]) rfl hG hE dX8_paid_84 hR (by decide) vv_X8_184 (by decide) rfl kC_11 rfl (Nat.le_of_ble_eq_true rfl) rfl (fun zv zh zq => c_X2_below w (xl x) 11 kC_11 h17 zv zh zq) (fun v18 h19 => ?_)
        refine s_iload_n hG dX8_paid_87 5 rfl rfl ?_
        refine s_callS (inj := inL) (As := [.long v16, .long v18, .int a3]) (st := []) rfl hG hE dX8_paid_88 hR (by decide) vs_X8_188 rfl (Nat.le_of_ble_eq_true rfl) rfl (fun zv zh zq => c_X8_lowest w (xl x) v16 v18 a3 h19 zv zh zq) (fun v20 h21 => ?_)
        exact s_lret hG hT dX8_paid_91

theorem c_X8_paid (w : WT) (l : Launch) (a1 : Int32) (a2 : Int32) (a3 : Int32) (h : Hp) : ∀ v h', m_X8_paid a1 a2 a3 h = some (v, h') → MetM l (GC w) yX8_paid cX8_paid 6 (some .long) 7 [.ref (gB (GC w) + 1), .int a1, .int a2, .int a3] h (inL v) h' :=
  met_of (by decide) (lokC w) (Nat.le_of_ble_eq_true rfl) (fun x hx hG hE hR hT => s_X8_paid w hx hG hE hR hT a1 a2 a3 h)
