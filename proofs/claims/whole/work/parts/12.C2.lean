theorem vv_X2_175 : VV RX2 175 yX2_paidWhen cX2_paidWhen 6 (some .long) 3 := ⟨⟨gw_at 846 (by decide +kernel) (by decide +kernel), gw_at 818 (by decide +kernel) (by decide +kernel), gw_at 89 (by decide +kernel) (by decide +kernel), by decide +kernel, by decide⟩, gw_at 816 (by decide +kernel) (by decide +kernel), gw_at 817 (by decide +kernel) (by decide +kernel)⟩
def m_X2_paidBy_L38 (k5 : Nat → Int32 → Int64 → Int32 → Hp → Option (Int64 × Hp)) (a0 : Nat) (a1 : Int32) (a4 : Int32) (t0 : Int32) (t1 : Nat) (t2 : Nat) (t3 : Int64) (h : Hp) : Option (Int64 × Hp) := cb (m_X2_paidWhen t2 t1 t0 1 h) fun v1 h2 => vb (t3 + v1) fun v3 => vb (a4 + 1) fun v4 => k5 a0 a1 v3 v4 h2
set_option maxRecDepth 20000 in
set_option maxHeartbeats 4000000 in
theorem s_X2_paidBy_L38 (w : WT) {x : CT} {l : Launch} (hx : xl x = l) (hG : Gd x cX2_paidBy 5 RX2) (hE : Ge x (GC w)) (hR : Rm x 4) (hT : Rt x (some .long)) (k5 : Nat → Int32 → Int64 → Int32 → Hp → Option (Int64 × Hp)) (hk5 : ∀ (a0 : Nat) (p0 : LC a0 = (3, 0)) (a1 : Int32) (a2 : Int64) (a4 : Int32) (h : Hp), Sn x 5 (gA (GC w)) (0, 0) (ζM x (GC w) inL) (gW (GC w) h) 5 [(0, .ref (gB (GC w) + a0)), (1, .int a1), (2, .long a2), (4, .int a4)] [] (k5 a0 a1 a2 a4 h)) (a0 : Nat) (p0 : LC a0 = (3, 0)) (a1 : Int32) (a4 : Int32) (t0 : Int32) (t1 : Nat) (q1 : LC t1 = (6, 0)) (t2 : Nat) (q2 : LC t2 = (3, 0)) (t3 : Int64) (h : Hp) : Sn x 5 (gA (GC w)) (0, 0) (ζM x (GC w) inL) (gW (GC w) h) 38 [(0, .ref (gB (GC w) + a0)), (1, .int a1), (4, .int a4)] [.int t0, .ref (gB (GC w) + t1), .ref (gB (GC w) + t2), .long t3] (m_X2_paidBy_L38 k5 a0 a1 a4 t0 t1 t2 t3 h) := by
  unfold m_X2_paidBy_L38
  refine s_iconst hG dX2_paidBy_38 ic_1 ?_
  refine s_callV (a := t2) (c := 2) (inj := inL) (As := [.ref (gB (GC w) + t1), .int t0, .int 1]) (st := [.long t3]) rfl hG hE dX2_paidBy_39 hR (by decide) vv_X2_175 (by decide) rfl q2 rfl (Nat.le_of_ble_eq_true rfl) rfl (fun zv zh zq => c_X2_paidWhen w (xl x) t2 q2 t1 q1 t0 1 h zv zh zq) (fun v1 h2 => ?_)
  refine s_ladd hG dX2_paidBy_42 ?_
  refine s_vL (fun v3 => ?_)
  refine s_lstore_n (lv' := [(2, .long v3), (0, .ref (gB (GC w) + a0)), (1, .int a1), (4, .int a4)]) hG dX2_paidBy_43 rfl (by decide) rfl ?_
  refine s_iinc hG dX2_paidBy_44 3 rfl ic_1 (by decide) (fun v4 => [(4, .int v4), (2, .long v3), (0, .ref (gB (GC w) + a0)), (1, .int a1)]) (fun _ => rfl) (fun v4 => ?_)
  refine s_goto (tgt := 5) hG dX2_paidBy_47 (by decide) ?_
  refine s_lv [2, 3, 1, 0] rfl ?_
  exact hk5 a0 p0 a1 v3 v4 h2

def m_X2_paidBy_L5 : Nat → Nat → Int32 → Int64 → Int32 → Hp → Option (Int64 × Hp)
  | 0, _, _, _, _, _ => none
  | n + 1, a0, a1, a2, a4, h => if (gi h a0 10) ≤ a4 then some (a2, h) else ck (inb a4 6) (ck (kC 5 (gr h (a0 + 1) a4.toNatClampNeg)) (if ((a1 >>> (a4 &&& 31)) &&& 1) = 1 then m_X2_paidBy_L38 (m_X2_paidBy_L5 n) a0 a1 a4 1 (gr h (a0 + 1) a4.toNatClampNeg) a0 a2 h else m_X2_paidBy_L38 (m_X2_paidBy_L5 n) a0 a1 a4 0 (gr h (a0 + 1) a4.toNatClampNeg) a0 a2 h))
set_option maxRecDepth 20000 in
set_option maxHeartbeats 4000000 in
theorem s_X2_paidBy_L5 (w : WT) {x : CT} {l : Launch} (hx : xl x = l) (hG : Gd x cX2_paidBy 5 RX2) (hE : Ge x (GC w)) (hR : Rm x 4) (hT : Rt x (some .long)) : ∀ (n : Nat) (a0 : Nat) (p0 : LC a0 = (3, 0)) (a1 : Int32) (a2 : Int64) (a4 : Int32) (h : Hp), Sn x 5 (gA (GC w)) (0, 0) (ζM x (GC w) inL) (gW (GC w) h) 5 [(0, .ref (gB (GC w) + a0)), (1, .int a1), (2, .long a2), (4, .int a4)] [] (m_X2_paidBy_L5 n a0 a1 a2 a4 h) := by
  intro n
  induction n with
  | zero => intro a0 p0 a1 a2 a4 h; exact s_none
  | succ n ih =>
    intro a0 p0 a1 a2 a4 h
    rw [m_X2_paidBy_L5]
    refine s_iload hG dX2_paidBy_5 3 rfl ?_
    refine s_aload_n hG dX2_paidBy_7 0 rfl rfl ?_
    refine s_getI hG hE dX2_paidBy_8 fl_X2_50 rfl p0 ?_
    refine s_icmp_ge hG dX2_paidBy_11 (tgt := 50) (by decide) (fun q1 => ?_) (fun q1 => ?_)
    · refine s_lload_n hG dX2_paidBy_50 2 rfl rfl ?_
      exact s_lret hG hT dX2_paidBy_51
    · refine s_lload_n hG dX2_paidBy_14 2 rfl rfl ?_
      refine s_aload_n hG dX2_paidBy_15 0 rfl rfl ?_
      refine s_aload_n hG dX2_paidBy_16 0 rfl rfl ?_
      refine s_getS hG hE dX2_paidBy_17 fl_X2_11 rfl p0 ((fC_2_0 p0).1) (nzC ((fC_2_0 p0).2)) ?_
      refine s_iload hG dX2_paidBy_20 3 rfl ?_
      refine s_ck (fun q2 => ?_)
      refine s_aald (j := 2) hG hE dX2_paidBy_22 (by decide) ((fC_2_0 p0).2) q2 ?_
      refine s_ck (fun q3 => ?_)
      refine s_nn (nzC (kC_of q3)) ?_
      refine s_iload_n hG dX2_paidBy_23 1 rfl rfl ?_
      refine s_iload hG dX2_paidBy_24 3 rfl ?_
      refine s_ishr hG dX2_paidBy_26 ?_
      refine s_iconst hG dX2_paidBy_27 ic_1 ?_
      refine s_iand hG dX2_paidBy_28 ?_
      refine s_iconst hG dX2_paidBy_29 ic_1 ?_
      refine s_icmp_ne hG dX2_paidBy_30 (tgt := 37) (by decide) (fun q4 => ?_) (fun q4 => ?_)
      · refine s_iconst hG dX2_paidBy_33 ic_1 ?_
        refine s_goto (tgt := 38) hG dX2_paidBy_34 (by decide) ?_
        refine s_lv [0, 1, 3] rfl ?_
        exact s_X2_paidBy_L38 w hx hG hE hR hT (m_X2_paidBy_L5 n) ih a0 p0 a1 a4 1 (gr h (a0 + 1) a4.toNatClampNeg) (kC_of q3) a0 p0 a2 h
      · refine s_iconst hG dX2_paidBy_37 ic_0 ?_
        refine s_lv [0, 1, 3] rfl ?_
        exact s_X2_paidBy_L38 w hx hG hE hR hT (m_X2_paidBy_L5 n) ih a0 p0 a1 a4 0 (gr h (a0 + 1) a4.toNatClampNeg) (kC_of q3) a0 p0 a2 h

def m_X2_paidBy (a0 : Nat) (a1 : Int32) (h : Hp) : Option (Int64 × Hp) := m_X2_paidBy_L5 FU a0 a1 0 0 h
set_option maxRecDepth 20000 in
set_option maxHeartbeats 4000000 in
theorem s_X2_paidBy (w : WT) {x : CT} {l : Launch} (hx : xl x = l) (hG : Gd x cX2_paidBy 5 RX2) (hE : Ge x (GC w)) (hR : Rm x 4) (hT : Rt x (some .long)) (a0 : Nat) (p0 : LC a0 = (3, 0)) (a1 : Int32) (h : Hp) : Sn x 5 (gA (GC w)) (0, 0) (ζM x (GC w) inL) (gW (GC w) h) 0 [(0, .ref (gB (GC w) + a0)), (1, .int a1)] [] (m_X2_paidBy a0 a1 h) := by
  unfold m_X2_paidBy
  refine s_lconst hG dX2_paidBy_0 lc_0 ?_
  refine s_lstore_n (lv' := [(2, .long 0), (0, .ref (gB (GC w) + a0)), (1, .int a1)]) hG dX2_paidBy_1 rfl (by decide) rfl ?_
  refine s_iconst hG dX2_paidBy_2 ic_0 ?_
  refine s_istore (lv' := [(4, .int 0), (2, .long 0), (0, .ref (gB (GC w) + a0)), (1, .int a1)]) hG dX2_paidBy_3 (by decide) rfl ?_
  refine s_lv [2, 3, 1, 0] rfl ?_
  exact s_X2_paidBy_L5 w hx hG hE hR hT FU a0 p0 a1 0 0 h

theorem c_X2_paidBy (w : WT) (l : Launch) (a0 : Nat) (p0 : LC a0 = (3, 0)) (a1 : Int32) (h : Hp) : ∀ v h', m_X2_paidBy a0 a1 h = some (v, h') → MetM l (GC w) yX2_paidBy cX2_paidBy 5 (some .long) 4 [.ref (gB (GC w) + a0), .int a1] h (inL v) h' :=
  met_of (by decide) (lokC w) (Nat.le_of_ble_eq_true rfl) (fun x hx hG hE hR hT => s_X2_paidBy w hx hG hE hR hT a0 p0 a1 h)
theorem vv_X8_192 : VV RX8 192 yX2_paidBy cX2_paidBy 5 (some .long) 1 := ⟨⟨gw_at 842 (by decide +kernel) (by decide +kernel), gw_at 845 (by decide +kernel) (by decide +kernel), gw_at 89 (by decide +kernel) (by decide +kernel), by decide +kernel, by decide⟩, gw_at 843 (by decide +kernel) (by decide +kernel), gw_at 844 (by decide +kernel) (by decide +kernel)⟩
def m_X8_all (a1 : Int32) (a2 : Int32) (a3 : Int32) (h : Hp) : Option (Int64 × Hp) := cb (m_X8_isSuit a1 h) fun v1 h2 => if v1 = 0 then some ((-9223372036854775808), h2) else cb (m_X8_isPart a3 h2) fun v4 h5 => if v4 = 0 then some ((-9223372036854775808), h5) else if a2 < 0 then some ((-9223372036854775808), h5) else cb (m_X8_claimsOfSuit a1 h5) fun v8 h9 => if a2 < (1 <<< (v8 &&& 31)) then ck (inb a1 5) (cb (m_X8_hear 11 a1 (gi h9 (91 + 1 * a1.toNatClampNeg) 2) h9) fun _ h13 => cb (m_X2_paidBy 11 a2 h13) fun v14 h15 => cb (m_X2_below 11 h15) fun v16 h17 => cb (m_X8_lowest v14 v16 a3 h17) fun v18 h19 => some (v18, h19)) else some ((-9223372036854775808), h9)
set_option maxRecDepth 20000 in
set_option maxHeartbeats 4000000 in
theorem s_X8_all (w : WT) {x : CT} {l : Launch} (hx : xl x = l) (hG : Gd x cX8_all 4 RX8) (hE : Ge x (GC w)) (hR : Rm x 7) (hT : Rt x (some .long)) (a1 : Int32) (a2 : Int32) (a3 : Int32) (h : Hp) : Sn x 4 (gA (GC w)) (0, 0) (ζM x (GC w) inL) (gW (GC w) h) 0 [(0, .ref (gB (GC w) + 1)), (1, .int a1), (2, .int a2), (3, .int a3)] [] (m_X8_all a1 a2 a3 h) := by
  unfold m_X8_all
  refine s_aload_n hG dX8_all_0 0 rfl rfl ?_
  refine s_iload_n hG dX8_all_1 1 rfl rfl ?_
  refine s_callV (a := 1) (c := 8) (inj := inI) (As := [.int a1]) (st := []) rfl hG hE dX8_all_2 hR (by decide) vv_X8_93 (by decide) rfl kC_1 rfl (Nat.le_of_ble_eq_true rfl) rfl (fun zv zh zq => c_X8_isSuit w (xl x) a1 h zv zh zq) (fun v1 h2 => ?_)
  refine s_if_eq hG dX8_all_5 (tgt := 15) (by decide) (fun q3 => ?_) (fun q3 => ?_)
  · refine s_ldc2 hG dX8_all_15 wd_814 ?_
    exact s_lret hG hT dX8_all_18
  · refine s_iload_n hG dX8_all_8 3 rfl rfl ?_
    refine s_callS (inj := inI) (As := [.int a3]) (st := []) rfl hG hE dX8_all_9 hR (by decide) vs_X8_175 rfl (Nat.le_of_ble_eq_true rfl) rfl (fun zv zh zq => c_X8_isPart w (xl x) a3 h2 zv zh zq) (fun v4 h5 => ?_)
    refine s_if_ne hG dX8_all_12 (tgt := 19) (by decide) (fun q6 => ?_) (fun q6 => ?_)
    · refine s_ldc2 hG dX8_all_15 wd_814 ?_
      exact s_lret hG hT dX8_all_18
    · refine s_iload_n hG dX8_all_19 2 rfl rfl ?_
      refine s_if_lt hG dX8_all_20 (tgt := 34) (by decide) (fun q7 => ?_) (fun q7 => ?_)
      · refine s_ldc2 hG dX8_all_34 wd_814 ?_
        exact s_lret hG hT dX8_all_37
      · refine s_iload_n hG dX8_all_23 2 rfl rfl ?_
        refine s_iconst hG dX8_all_24 ic_1 ?_
        refine s_aload_n hG dX8_all_25 0 rfl rfl ?_
        refine s_iload_n hG dX8_all_26 1 rfl rfl ?_
        refine s_callV (a := 1) (c := 8) (inj := inI) (As := [.int a1]) (st := [.int 1, .int a2]) rfl hG hE dX8_all_27 hR (by decide) vv_X8_99 (by decide) rfl kC_1 rfl (Nat.le_of_ble_eq_true rfl) rfl (fun zv zh zq => c_X8_claimsOfSuit w (xl x) a1 h5 zv zh zq) (fun v8 h9 => ?_)
        refine s_ishl hG dX8_all_30 ?_
        refine s_icmp_lt hG dX8_all_31 (tgt := 38) (by decide) (fun q10 => ?_) (fun q10 => ?_)
        · refine s_aload_n hG dX8_all_38 0 rfl rfl ?_
          refine s_aload_n hG dX8_all_39 0 rfl rfl ?_
          refine s_getS hG hE dX8_all_40 fl_X8_55 rfl kC_1 fC_8_8 (nzC kC_11) ?_
          refine s_iload_n hG dX8_all_43 1 rfl rfl ?_
          refine s_aload_n hG dX8_all_44 0 rfl rfl ?_
          refine s_getS hG hE dX8_all_45 fl_X8_20 rfl kC_1 fC_8_2 (nzC kC_4) ?_
          refine s_iload_n hG dX8_all_48 1 rfl rfl ?_
          refine s_ck (fun q11 => ?_)
          refine s_aaldS (j := 3) hG hE dX8_all_49 (by decide) kC_4 q11 ((eC_8_2 q11).1) (nzC ((eC_8_2 q11).2)) ?_
          refine s_getI hG hE dX8_all_50 fl_X8_90 rfl ((eC_8_2 q11).2) ?_
          refine s_callV (a := 1) (c := 8) (inj := inV) (As := [.ref (gB (GC w) + 11), .int a1, .int (gi h9 (91 + 1 * a1.toNatClampNeg) 2)]) (st := []) rfl hG hE dX8_all_53 hR (by decide) vv_X8_149 (by decide) rfl kC_1 rfl (Nat.le_of_ble_eq_true rfl) rfl (fun zv zh zq => c_X8_hear w (xl x) 11 kC_11 a1 (gi h9 (91 + 1 * a1.toNatClampNeg) 2) h9 zv zh zq) (fun v12 h13 => ?_)
          refine s_aload_n hG dX8_all_56 0 rfl rfl ?_
          refine s_getS hG hE dX8_all_57 fl_X8_55 rfl kC_1 fC_8_8 (nzC kC_11) ?_
          refine s_iload_n hG dX8_all_60 2 rfl rfl ?_
          refine s_callV (a := 11) (c := 2) (inj := inL) (As := [.int a2]) (st := []) rfl hG hE dX8_all_61 hR (by decide) vv_X8_192 (by decide) rfl kC_11 rfl (Nat.le_of_ble_eq_true rfl) rfl (fun zv zh zq => c_X2_paidBy w (xl x) 11 kC_11 a2 h13 zv zh zq) (fun v14 h15 => ?_)
          refine s_aload_n hG dX8_all_64 0 rfl rfl ?_
          refine s_getS hG hE dX8_all_65 fl_X8_55 rfl kC_1 fC_8_8 (nzC kC_11) ?_
          refine s_callV (a := 11) (c := 2) (inj := inL) (As := []) (st := [.long v14]) rfl hG hE dX8_all_68 hR (by decide) vv_X8_184 (by decide) rfl kC_11 rfl (Nat.le_of_ble_eq_true rfl) rfl (fun zv zh zq => c_X2_below w (xl x) 11 kC_11 h15 zv zh zq) (fun v16 h17 => ?_)
          refine s_iload_n hG dX8_all_71 3 rfl rfl ?_
          refine s_callS (inj := inL) (As := [.long v14, .long v16, .int a3]) (st := []) rfl hG hE dX8_all_72 hR (by decide) vs_X8_188 rfl (Nat.le_of_ble_eq_true rfl) rfl (fun zv zh zq => c_X8_lowest w (xl x) v14 v16 a3 h17 zv zh zq) (fun v18 h19 => ?_)
          exact s_lret hG hT dX8_all_75
        · refine s_ldc2 hG dX8_all_34 wd_814 ?_
          exact s_lret hG hT dX8_all_37

theorem c_X8_all (w : WT) (l : Launch) (a1 : Int32) (a2 : Int32) (a3 : Int32) (h : Hp) : ∀ v h', m_X8_all a1 a2 a3 h = some (v, h') → MetM l (GC w) yX8_all cX8_all 4 (some .long) 7 [.ref (gB (GC w) + 1), .int a1, .int a2, .int a3] h (inL v) h' :=
  met_of (by decide) (lokC w) (Nat.le_of_ble_eq_true rfl) (fun x hx hG hE hR hT => s_X8_all w hx hG hE hR hT a1 a2 a3 h)
theorem vv_X5_39 : VV RX5 39 yX5_hasOath cX5_hasOath 1 (some .boolean) 0 := ⟨⟨gw_at 859 (by decide +kernel) (by decide +kernel), gw_at 806 (by decide +kernel) (by decide +kernel), gw_at 91 (by decide +kernel) (by decide +kernel), by decide +kernel, by decide⟩, gw_at 804 (by decide +kernel) (by decide +kernel), gw_at 805 (by decide +kernel) (by decide +kernel)⟩
theorem fl_X5_47 : FL RX5 47 5 2 := ⟨by decide, by decide, gw_at 203 (by decide +kernel) (by decide +kernel), rfl⟩
theorem fl_X5_43 : FL RX5 43 5 3 := ⟨by decide, by decide, gw_at 205 (by decide +kernel) (by decide +kernel), rfl⟩
def m_X5_swearsInTruth (a0 : Nat) (h : Hp) : Option (Int32 × Hp) := cb (m_X5_hasOath a0 h) fun v1 h2 => if v1 = 0 then some (0, h2) else if (gi h2 a0 13) = 2 then some (0, h2) else if (gi h2 a0 13) = 1 then ck (isb (gi h2 a0 3)) (some (gi h2 a0 3, h2)) else if (gi h2 a0 2) = 0 then if (gi h2 a0 12) = 4 then some (1, h2) else some (0, h2) else some (1, h2)
set_option maxRecDepth 20000 in
set_option maxHeartbeats 4000000 in
theorem s_X5_swearsInTruth (w : WT) {x : CT} {l : Launch} (hx : xl x = l) (hG : Gd x cX5_swearsInTruth 1 RX5) (hE : Ge x (GC w)) (hR : Rm x 2) (hT : Rt x (some .boolean)) (a0 : Nat) (p0 : LC a0 = (6, 0)) (h : Hp) : Sn x 1 (gA (GC w)) (0, 0) (ζM x (GC w) inI) (gW (GC w) h) 0 [(0, .ref (gB (GC w) + a0))] [] (m_X5_swearsInTruth a0 h) := by
  unfold m_X5_swearsInTruth
  refine s_aload_n hG dX5_swearsInTruth_0 0 rfl rfl ?_
  refine s_callV (a := a0) (c := 5) (inj := inI) (As := []) (st := []) rfl hG hE dX5_swearsInTruth_1 hR (by decide) vv_X5_39 (by decide) rfl p0 rfl (Nat.le_of_ble_eq_true rfl) rfl (fun zv zh zq => c_X5_hasOath w (xl x) a0 p0 h zv zh zq) (fun v1 h2 => ?_)
  refine s_if_eq hG dX5_swearsInTruth_4 (tgt := 15) (by decide) (fun q3 => ?_) (fun q3 => ?_)
  · refine s_iconst hG dX5_swearsInTruth_15 ic_0 ?_
    exact s_zret hG hT (by decide) dX5_swearsInTruth_16
  · refine s_aload_n hG dX5_swearsInTruth_7 0 rfl rfl ?_
    refine s_getI hG hE dX5_swearsInTruth_8 fl_X5_33 rfl p0 ?_
    refine s_iconst hG dX5_swearsInTruth_11 ic_2 ?_
    refine s_icmp_ne hG dX5_swearsInTruth_12 (tgt := 17) (by decide) (fun q4 => ?_) (fun q4 => ?_)
    · refine s_iconst hG dX5_swearsInTruth_15 ic_0 ?_
      exact s_zret hG hT (by decide) dX5_swearsInTruth_16
    · refine s_aload_n hG dX5_swearsInTruth_17 0 rfl rfl ?_
      refine s_getI hG hE dX5_swearsInTruth_18 fl_X5_33 rfl p0 ?_
      refine s_iconst hG dX5_swearsInTruth_21 ic_1 ?_
      refine s_icmp_ne hG dX5_swearsInTruth_22 (tgt := 30) (by decide) (fun q5 => ?_) (fun q5 => ?_)
      · refine s_aload_n hG dX5_swearsInTruth_25 0 rfl rfl ?_
        refine s_getI hG hE dX5_swearsInTruth_26 fl_X5_43 rfl p0 ?_
        refine s_ck (fun q8 => ?_)
        exact s_zret hG hT (isb_cases q8) dX5_swearsInTruth_29
      · refine s_aload_n hG dX5_swearsInTruth_30 0 rfl rfl ?_
        refine s_getI hG hE dX5_swearsInTruth_31 fl_X5_47 rfl p0 ?_
        refine s_if_ne hG dX5_swearsInTruth_34 (tgt := 45) (by decide) (fun q6 => ?_) (fun q6 => ?_)
        · refine s_aload_n hG dX5_swearsInTruth_37 0 rfl rfl ?_
          refine s_getI hG hE dX5_swearsInTruth_38 fl_X5_30 rfl p0 ?_
          refine s_iconst hG dX5_swearsInTruth_41 ic_4 ?_
          refine s_icmp_ne hG dX5_swearsInTruth_42 (tgt := 49) (by decide) (fun q7 => ?_) (fun q7 => ?_)
          · refine s_iconst hG dX5_swearsInTruth_45 ic_1 ?_
            refine s_goto (tgt := 50) hG dX5_swearsInTruth_46 (by decide) ?_
            exact s_zret hG hT (by decide) dX5_swearsInTruth_50
          · refine s_iconst hG dX5_swearsInTruth_49 ic_0 ?_
            exact s_zret hG hT (by decide) dX5_swearsInTruth_50
        · refine s_iconst hG dX5_swearsInTruth_45 ic_1 ?_
          refine s_goto (tgt := 50) hG dX5_swearsInTruth_46 (by decide) ?_
          exact s_zret hG hT (by decide) dX5_swearsInTruth_50

theorem c_X5_swearsInTruth (w : WT) (l : Launch) (a0 : Nat) (p0 : LC a0 = (6, 0)) (h : Hp) : ∀ v h', m_X5_swearsInTruth a0 h = some (v, h') → MetM l (GC w) yX5_swearsInTruth cX5_swearsInTruth 1 (some .boolean) 2 [.ref (gB (GC w) + a0)] h (inI v) h' :=
  met_of (by decide) (lokC w) (Nat.le_of_ble_eq_true rfl) (fun x hx hG hE hR hT => s_X5_swearsInTruth w hx hG hE hR hT a0 p0 h)
theorem vv_X2_184 : VV RX2 184 yX5_swearsInTruth cX5_swearsInTruth 1 (some .boolean) 0 := ⟨⟨gw_at 855 (by decide +kernel) (by decide +kernel), gw_at 858 (by decide +kernel) (by decide +kernel), gw_at 91 (by decide +kernel) (by decide +kernel), by decide +kernel, by decide⟩, gw_at 856 (by decide +kernel) (by decide +kernel), gw_at 857 (by decide +kernel) (by decide +kernel)⟩
def m_X2_paidInTruth_L4 : Nat → Nat → Int64 → Int32 → Hp → Option (Int64 × Hp)
  | 0, _, _, _, _ => none
  | n + 1, a0, a1, a3, h => if (gi h a0 10) ≤ a3 then some (a1, h) else ck (inb a3 6) (ck (kC 5 (gr h (a0 + 1) a3.toNatClampNeg)) (cb (m_X5_swearsInTruth (gr h (a0 + 1) a3.toNatClampNeg) h) fun v4 h5 => cb (m_X2_paidWhen a0 (gr h (a0 + 1) a3.toNatClampNeg) v4 (gi h5 (gr h (a0 + 1) a3.toNatClampNeg) 3) h5) fun v6 h7 => vb (a1 + v6) fun v8 => vb (a3 + 1) fun v9 => m_X2_paidInTruth_L4 n a0 v8 v9 h7))
set_option maxRecDepth 20000 in
set_option maxHeartbeats 4000000 in
theorem s_X2_paidInTruth_L4 (w : WT) {x : CT} {l : Launch} (hx : xl x = l) (hG : Gd x cX2_paidInTruth 5 RX2) (hE : Ge x (GC w)) (hR : Rm x 4) (hT : Rt x (some .long)) : ∀ (n : Nat) (a0 : Nat) (p0 : LC a0 = (3, 0)) (a1 : Int64) (a3 : Int32) (h : Hp), Sn x 5 (gA (GC w)) (0, 0) (ζM x (GC w) inL) (gW (GC w) h) 4 [(0, .ref (gB (GC w) + a0)), (1, .long a1), (3, .int a3)] [] (m_X2_paidInTruth_L4 n a0 a1 a3 h) := by
  intro n
  induction n with
  | zero => intro a0 p0 a1 a3 h; exact s_none
  | succ n ih =>
    intro a0 p0 a1 a3 h
    rw [m_X2_paidInTruth_L4]
    refine s_iload_n hG dX2_paidInTruth_4 2 rfl rfl ?_
    refine s_aload_n hG dX2_paidInTruth_5 0 rfl rfl ?_
    refine s_getI hG hE dX2_paidInTruth_6 fl_X2_50 rfl p0 ?_
    refine s_icmp_ge hG dX2_paidInTruth_9 (tgt := 45) (by decide) (fun q1 => ?_) (fun q1 => ?_)
    · refine s_lload_n hG dX2_paidInTruth_45 1 rfl rfl ?_
      exact s_lret hG hT dX2_paidInTruth_46
    · refine s_aload_n hG dX2_paidInTruth_12 0 rfl rfl ?_
      refine s_getS hG hE dX2_paidInTruth_13 fl_X2_11 rfl p0 ((fC_2_0 p0).1) (nzC ((fC_2_0 p0).2)) ?_
      refine s_iload_n hG dX2_paidInTruth_16 2 rfl rfl ?_
      refine s_ck (fun q2 => ?_)
      refine s_aald (j := 2) hG hE dX2_paidInTruth_17 (by decide) ((fC_2_0 p0).2) q2 ?_
      refine s_ck (fun q3 => ?_)
      refine s_nn (nzC (kC_of q3)) ?_
      refine s_astore (lv' := [(4, .ref (gB (GC w) + (gr h (a0 + 1) a3.toNatClampNeg))), (0, .ref (gB (GC w) + a0)), (1, .long a1), (3, .int a3)]) hG dX2_paidInTruth_18 (by decide) rfl ?_
      refine s_lload_n hG dX2_paidInTruth_20 2 rfl rfl ?_
      refine s_aload_n hG dX2_paidInTruth_21 1 rfl rfl ?_
      refine s_aload hG dX2_paidInTruth_22 0 rfl ?_
      refine s_aload hG dX2_paidInTruth_24 0 rfl ?_
      refine s_callV (a := gr h (a0 + 1) a3.toNatClampNeg) (c := 5) (inj := inI) (As := []) (st := [.ref (gB (GC w) + (gr h (a0 + 1) a3.toNatClampNeg)), .ref (gB (GC w) + a0), .long a1]) rfl hG hE dX2_paidInTruth_26 hR (by decide) vv_X2_184 (by decide) rfl (kC_of q3) rfl (Nat.le_of_ble_eq_true rfl) rfl (fun zv zh zq => c_X5_swearsInTruth w (xl x) (gr h (a0 + 1) a3.toNatClampNeg) (kC_of q3) h zv zh zq) (fun v4 h5 => ?_)
      refine s_aload hG dX2_paidInTruth_29 0 rfl ?_
      refine s_getI hG hE dX2_paidInTruth_31 fl_X2_105 rfl (kC_of q3) ?_
      refine s_callV (a := a0) (c := 2) (inj := inL) (As := [.ref (gB (GC w) + (gr h (a0 + 1) a3.toNatClampNeg)), .int v4, .int (gi h5 (gr h (a0 + 1) a3.toNatClampNeg) 3)]) (st := [.long a1]) rfl hG hE dX2_paidInTruth_34 hR (by decide) vv_X2_175 (by decide) rfl p0 rfl (Nat.le_of_ble_eq_true rfl) rfl (fun zv zh zq => c_X2_paidWhen w (xl x) a0 p0 (gr h (a0 + 1) a3.toNatClampNeg) (kC_of q3) v4 (gi h5 (gr h (a0 + 1) a3.toNatClampNeg) 3) h5 zv zh zq) (fun v6 h7 => ?_)
      refine s_ladd hG dX2_paidInTruth_37 ?_
      refine s_vL (fun v8 => ?_)
      refine s_lstore_n (lv' := [(1, .long v8), (4, .ref (gB (GC w) + (gr h (a0 + 1) a3.toNatClampNeg))), (0, .ref (gB (GC w) + a0)), (3, .int a3)]) hG dX2_paidInTruth_38 rfl (by decide) rfl ?_
      refine s_iinc hG dX2_paidInTruth_39 3 rfl ic_1 (by decide) (fun v9 => [(3, .int v9), (1, .long v8), (4, .ref (gB (GC w) + (gr h (a0 + 1) a3.toNatClampNeg))), (0, .ref (gB (GC w) + a0))]) (fun _ => rfl) (fun v9 => ?_)
      refine s_goto (tgt := 4) hG dX2_paidInTruth_42 (by decide) ?_
      refine s_lv [3, 1, 0] rfl ?_
      exact ih a0 p0 v8 v9 h7

def m_X2_paidInTruth (a0 : Nat) (h : Hp) : Option (Int64 × Hp) := m_X2_paidInTruth_L4 FU a0 0 0 h
set_option maxRecDepth 20000 in
set_option maxHeartbeats 4000000 in
theorem s_X2_paidInTruth (w : WT) {x : CT} {l : Launch} (hx : xl x = l) (hG : Gd x cX2_paidInTruth 5 RX2) (hE : Ge x (GC w)) (hR : Rm x 4) (hT : Rt x (some .long)) (a0 : Nat) (p0 : LC a0 = (3, 0)) (h : Hp) : Sn x 5 (gA (GC w)) (0, 0) (ζM x (GC w) inL) (gW (GC w) h) 0 [(0, .ref (gB (GC w) + a0))] [] (m_X2_paidInTruth a0 h) := by
  unfold m_X2_paidInTruth
  refine s_lconst hG dX2_paidInTruth_0 lc_0 ?_
  refine s_lstore_n (lv' := [(1, .long 0), (0, .ref (gB (GC w) + a0))]) hG dX2_paidInTruth_1 rfl (by decide) rfl ?_
  refine s_iconst hG dX2_paidInTruth_2 ic_0 ?_
  refine s_istore_n (lv' := [(3, .int 0), (1, .long 0), (0, .ref (gB (GC w) + a0))]) hG dX2_paidInTruth_3 rfl (by decide) rfl ?_
  refine s_lv [2, 1, 0] rfl ?_
  exact s_X2_paidInTruth_L4 w hx hG hE hR hT FU a0 p0 0 0 h

theorem c_X2_paidInTruth (w : WT) (l : Launch) (a0 : Nat) (p0 : LC a0 = (3, 0)) (h : Hp) : ∀ v h', m_X2_paidInTruth a0 h = some (v, h') → MetM l (GC w) yX2_paidInTruth cX2_paidInTruth 5 (some .long) 4 [.ref (gB (GC w) + a0)] h (inL v) h' :=
  met_of (by decide) (lokC w) (Nat.le_of_ble_eq_true rfl) (fun x hx hG hE hR hT => s_X2_paidInTruth w hx hG hE hR hT a0 p0 h)
theorem wd_867 : Cond.methodLink RX2 182 Lib.MathLoose.min_long.x ∈ GW := gw_at 867 (by decide +kernel) (by decide +kernel)
theorem wd_868 : Cond.static Lib.MathLoose.min_long.x ∈ GW := gw_at 868 (by decide +kernel) (by decide +kernel)
theorem wd_869 : Cond.code Lib.MathLoose.min_long.x Lib.MathLoose.min_long.code 4 (some .long) ∈ GW := gw_at 869 (by decide +kernel) (by decide +kernel)
theorem wd_864 : Cond.methodLink RX2 178 Lib.MathLoose.max_long.x ∈ GW := gw_at 864 (by decide +kernel) (by decide +kernel)
theorem wd_865 : Cond.static Lib.MathLoose.max_long.x ∈ GW := gw_at 865 (by decide +kernel) (by decide +kernel)
theorem wd_866 : Cond.code Lib.MathLoose.max_long.x Lib.MathLoose.max_long.code 4 (some .long) ∈ GW := gw_at 866 (by decide +kernel) (by decide +kernel)
def m_X2_paidAtEnd_L66 (k5 : Nat → Int32 → Int64 → Int32 → Hp → Option (Int64 × Hp)) (a0 : Nat) (a1 : Int32) (a4 : Int32) (t0 : Int64) (t1 : Int64) (h : Hp) : Option (Int64 × Hp) := vb (t1 + t0) fun v1 => vb (a4 + 1) fun v2 => k5 a0 a1 v1 v2 h
set_option maxRecDepth 20000 in
set_option maxHeartbeats 4000000 in
theorem s_X2_paidAtEnd_L66 (w : WT) {x : CT} {l : Launch} (hx : xl x = l) (hG : Gd x cX2_paidAtEnd 9 RX2) (hE : Ge x (GC w)) (hR : Rm x 4) (hT : Rt x (some .long)) (k5 : Nat → Int32 → Int64 → Int32 → Hp → Option (Int64 × Hp)) (hk5 : ∀ (a0 : Nat) (p0 : LC a0 = (3, 0)) (a1 : Int32) (a2 : Int64) (a4 : Int32) (h : Hp), Sn x 9 (gA (GC w)) (0, 0) (ζM x (GC w) inL) (gW (GC w) h) 5 [(0, .ref (gB (GC w) + a0)), (1, .int a1), (2, .long a2), (4, .int a4)] [] (k5 a0 a1 a2 a4 h)) (a0 : Nat) (p0 : LC a0 = (3, 0)) (a1 : Int32) (a4 : Int32) (t0 : Int64) (t1 : Int64) (h : Hp) : Sn x 9 (gA (GC w)) (0, 0) (ζM x (GC w) inL) (gW (GC w) h) 66 [(0, .ref (gB (GC w) + a0)), (1, .int a1), (4, .int a4)] [.long t0, .long t1] (m_X2_paidAtEnd_L66 k5 a0 a1 a4 t0 t1 h) := by
  unfold m_X2_paidAtEnd_L66
  refine s_ladd hG dX2_paidAtEnd_66 ?_
  refine s_vL (fun v1 => ?_)
  refine s_lstore_n (lv' := [(2, .long v1), (0, .ref (gB (GC w) + a0)), (1, .int a1), (4, .int a4)]) hG dX2_paidAtEnd_67 rfl (by decide) rfl ?_
  refine s_iinc hG dX2_paidAtEnd_68 3 rfl ic_1 (by decide) (fun v2 => [(4, .int v2), (2, .long v1), (0, .ref (gB (GC w) + a0)), (1, .int a1)]) (fun _ => rfl) (fun v2 => ?_)
  refine s_goto (tgt := 5) hG dX2_paidAtEnd_71 (by decide) ?_
  refine s_lv [2, 3, 1, 0] rfl ?_
  exact hk5 a0 p0 a1 v1 v2 h

def m_X2_paidAtEnd_L5 : Nat → Nat → Int32 → Int64 → Int32 → Hp → Option (Int64 × Hp)
  | 0, _, _, _, _, _ => none
  | n + 1, a0, a1, a2, a4, h => if (gi h a0 10) ≤ a4 then some (a2, h) else ck (inb a4 6) (ck (kC 5 (gr h (a0 + 1) a4.toNatClampNeg)) (cb (m_X2_paidWhen a0 (gr h (a0 + 1) a4.toNatClampNeg) 1 1 h) fun v4 h5 => ck (kC 5 (gr h5 (a0 + 1) a4.toNatClampNeg)) (cb (m_X2_paidWhen a0 (gr h5 (a0 + 1) a4.toNatClampNeg) 0 1 h5) fun v7 h8 => if a1 = 0 then m_X2_paidAtEnd_L66 (m_X2_paidAtEnd_L5 n) a0 a1 a4 (if v7 < v4 then v7 else v4) a2 h8 else m_X2_paidAtEnd_L66 (m_X2_paidAtEnd_L5 n) a0 a1 a4 (if v7 < v4 then v4 else v7) a2 h8)))
set_option maxRecDepth 20000 in
set_option maxHeartbeats 4000000 in
theorem s_X2_paidAtEnd_L5 (w : WT) {x : CT} {l : Launch} (hx : xl x = l) (hG : Gd x cX2_paidAtEnd 9 RX2) (hE : Ge x (GC w)) (hR : Rm x 4) (hT : Rt x (some .long)) : ∀ (n : Nat) (a0 : Nat) (p0 : LC a0 = (3, 0)) (a1 : Int32) (a2 : Int64) (a4 : Int32) (h : Hp), Sn x 9 (gA (GC w)) (0, 0) (ζM x (GC w) inL) (gW (GC w) h) 5 [(0, .ref (gB (GC w) + a0)), (1, .int a1), (2, .long a2), (4, .int a4)] [] (m_X2_paidAtEnd_L5 n a0 a1 a2 a4 h) := by
  intro n
  induction n with
  | zero => intro a0 p0 a1 a2 a4 h; exact s_none
  | succ n ih =>
    intro a0 p0 a1 a2 a4 h
    rw [m_X2_paidAtEnd_L5]
    refine s_iload hG dX2_paidAtEnd_5 3 rfl ?_
    refine s_aload_n hG dX2_paidAtEnd_7 0 rfl rfl ?_
    refine s_getI hG hE dX2_paidAtEnd_8 fl_X2_50 rfl p0 ?_
    refine s_icmp_ge hG dX2_paidAtEnd_11 (tgt := 74) (by decide) (fun q1 => ?_) (fun q1 => ?_)
    · refine s_lload_n hG dX2_paidAtEnd_74 2 rfl rfl ?_
      exact s_lret hG hT dX2_paidAtEnd_75
    · refine s_aload_n hG dX2_paidAtEnd_14 0 rfl rfl ?_
      refine s_aload_n hG dX2_paidAtEnd_15 0 rfl rfl ?_
      refine s_getS hG hE dX2_paidAtEnd_16 fl_X2_11 rfl p0 ((fC_2_0 p0).1) (nzC ((fC_2_0 p0).2)) ?_
      refine s_iload hG dX2_paidAtEnd_19 3 rfl ?_
      refine s_ck (fun q2 => ?_)
      refine s_aald (j := 2) hG hE dX2_paidAtEnd_21 (by decide) ((fC_2_0 p0).2) q2 ?_
      refine s_ck (fun q3 => ?_)
      refine s_nn (nzC (kC_of q3)) ?_
      refine s_iconst hG dX2_paidAtEnd_22 ic_1 ?_
      refine s_iconst hG dX2_paidAtEnd_23 ic_1 ?_
      refine s_callV (a := a0) (c := 2) (inj := inL) (As := [.ref (gB (GC w) + (gr h (a0 + 1) a4.toNatClampNeg)), .int 1, .int 1]) (st := []) rfl hG hE dX2_paidAtEnd_24 hR (by decide) vv_X2_175 (by decide) rfl p0 rfl (Nat.le_of_ble_eq_true rfl) rfl (fun zv zh zq => c_X2_paidWhen w (xl x) a0 p0 (gr h (a0 + 1) a4.toNatClampNeg) (kC_of q3) 1 1 h zv zh zq) (fun v4 h5 => ?_)
      refine s_lstore (lv' := [(5, .long v4), (0, .ref (gB (GC w) + a0)), (1, .int a1), (2, .long a2), (4, .int a4)]) hG dX2_paidAtEnd_27 (by decide) rfl ?_
      refine s_aload_n hG dX2_paidAtEnd_29 1 rfl rfl ?_
      refine s_aload_n hG dX2_paidAtEnd_30 1 rfl rfl ?_
      refine s_getS hG hE dX2_paidAtEnd_31 fl_X2_11 rfl p0 ((fC_2_0 p0).1) (nzC ((fC_2_0 p0).2)) ?_
      refine s_iload hG dX2_paidAtEnd_34 4 rfl ?_
      refine s_aald (j := 2) hG hE dX2_paidAtEnd_36 (by decide) ((fC_2_0 p0).2) q2 ?_
      refine s_ck (fun q6 => ?_)
      refine s_nn (nzC (kC_of q6)) ?_
      refine s_iconst hG dX2_paidAtEnd_37 ic_0 ?_
      refine s_iconst hG dX2_paidAtEnd_38 ic_1 ?_
      refine s_callV (a := a0) (c := 2) (inj := inL) (As := [.ref (gB (GC w) + (gr h5 (a0 + 1) a4.toNatClampNeg)), .int 0, .int 1]) (st := []) rfl hG hE dX2_paidAtEnd_39 hR (by decide) vv_X2_175 (by decide) rfl p0 rfl (Nat.le_of_ble_eq_true rfl) rfl (fun zv zh zq => c_X2_paidWhen w (xl x) a0 p0 (gr h5 (a0 + 1) a4.toNatClampNeg) (kC_of q6) 0 1 h5 zv zh zq) (fun v7 h8 => ?_)
      refine s_lstore (lv' := [(7, .long v7), (5, .long v4), (0, .ref (gB (GC w) + a0)), (1, .int a1), (2, .long a2), (4, .int a4)]) hG dX2_paidAtEnd_42 (by decide) rfl ?_
      refine s_lload_n hG dX2_paidAtEnd_44 4 rfl rfl ?_
      refine s_iload_n hG dX2_paidAtEnd_45 3 rfl rfl ?_
      refine s_if_eq hG dX2_paidAtEnd_46 (tgt := 59) (by decide) (fun q9 => ?_) (fun q9 => ?_)
      · refine s_lload hG dX2_paidAtEnd_59 1 rfl ?_
        refine s_lload hG dX2_paidAtEnd_61 0 rfl ?_
        refine s_mminL hG hR (by decide) dX2_paidAtEnd_63 wd_867 wd_868 wd_101 wd_869 (Nat.le_of_ble_eq_true rfl) ?_
        refine s_lv [2, 3, 5] rfl ?_
        exact s_X2_paidAtEnd_L66 w hx hG hE hR hT (m_X2_paidAtEnd_L5 n) ih a0 p0 a1 a4 (if v7 < v4 then v7 else v4) a2 h8
      · refine s_lload hG dX2_paidAtEnd_49 1 rfl ?_
        refine s_lload hG dX2_paidAtEnd_51 0 rfl ?_
        refine s_mmaxL hG hR (by decide) dX2_paidAtEnd_53 wd_864 wd_865 wd_101 wd_866 (Nat.le_of_ble_eq_true rfl) ?_
        refine s_goto (tgt := 66) hG dX2_paidAtEnd_56 (by decide) ?_
        refine s_lv [2, 3, 5] rfl ?_
        exact s_X2_paidAtEnd_L66 w hx hG hE hR hT (m_X2_paidAtEnd_L5 n) ih a0 p0 a1 a4 (if v7 < v4 then v4 else v7) a2 h8

def m_X2_paidAtEnd (a0 : Nat) (a1 : Int32) (h : Hp) : Option (Int64 × Hp) := m_X2_paidAtEnd_L5 FU a0 a1 0 0 h
set_option maxRecDepth 20000 in
set_option maxHeartbeats 4000000 in
theorem s_X2_paidAtEnd (w : WT) {x : CT} {l : Launch} (hx : xl x = l) (hG : Gd x cX2_paidAtEnd 9 RX2) (hE : Ge x (GC w)) (hR : Rm x 4) (hT : Rt x (some .long)) (a0 : Nat) (p0 : LC a0 = (3, 0)) (a1 : Int32) (h : Hp) : Sn x 9 (gA (GC w)) (0, 0) (ζM x (GC w) inL) (gW (GC w) h) 0 [(0, .ref (gB (GC w) + a0)), (1, .int a1)] [] (m_X2_paidAtEnd a0 a1 h) := by
  unfold m_X2_paidAtEnd
  refine s_lconst hG dX2_paidAtEnd_0 lc_0 ?_
  refine s_lstore_n (lv' := [(2, .long 0), (0, .ref (gB (GC w) + a0)), (1, .int a1)]) hG dX2_paidAtEnd_1 rfl (by decide) rfl ?_
  refine s_iconst hG dX2_paidAtEnd_2 ic_0 ?_
  refine s_istore (lv' := [(4, .int 0), (2, .long 0), (0, .ref (gB (GC w) + a0)), (1, .int a1)]) hG dX2_paidAtEnd_3 (by decide) rfl ?_
  refine s_lv [2, 3, 1, 0] rfl ?_
  exact s_X2_paidAtEnd_L5 w hx hG hE hR hT FU a0 p0 a1 0 0 h

theorem c_X2_paidAtEnd (w : WT) (l : Launch) (a0 : Nat) (p0 : LC a0 = (3, 0)) (a1 : Int32) (h : Hp) : ∀ v h', m_X2_paidAtEnd a0 a1 h = some (v, h') → MetM l (GC w) yX2_paidAtEnd cX2_paidAtEnd 9 (some .long) 4 [.ref (gB (GC w) + a0), .int a1] h (inL v) h' :=
  met_of (by decide) (lokC w) (Nat.le_of_ble_eq_true rfl) (fun x hx hG hE hR hT => s_X2_paidAtEnd w hx hG hE hR hT a0 p0 a1 h)
theorem vv_X8_199 : VV RX8 199 yX2_paidAtEnd cX2_paidAtEnd 9 (some .long) 1 := ⟨⟨gw_at 860 (by decide +kernel) (by decide +kernel), gw_at 863 (by decide +kernel) (by decide +kernel), gw_at 89 (by decide +kernel) (by decide +kernel), by decide +kernel, by decide⟩, gw_at 861 (by decide +kernel) (by decide +kernel), gw_at 862 (by decide +kernel) (by decide +kernel)⟩
theorem vv_X8_196 : VV RX8 196 yX2_paidInTruth cX2_paidInTruth 5 (some .long) 0 := ⟨⟨gw_at 851 (by decide +kernel) (by decide +kernel), gw_at 854 (by decide +kernel) (by decide +kernel), gw_at 89 (by decide +kernel) (by decide +kernel), by decide +kernel, by decide⟩, gw_at 852 (by decide +kernel) (by decide +kernel), gw_at 853 (by decide +kernel) (by decide +kernel)⟩
def m_X8_ends_L78 (a3 : Int32) (t0 : Int64) (h : Hp) : Option (Int64 × Hp) := cb (m_X2_below 11 h) fun v1 h2 => cb (m_X8_lowest t0 v1 a3 h2) fun v3 h4 => some (v3, h4)
set_option maxRecDepth 20000 in
set_option maxHeartbeats 4000000 in
theorem s_X8_ends_L78 (w : WT) {x : CT} {l : Launch} (hx : xl x = l) (hG : Gd x cX8_ends 6 RX8) (hE : Ge x (GC w)) (hR : Rm x 7) (hT : Rt x (some .long)) (a3 : Int32) (t0 : Int64) (h : Hp) : Sn x 6 (gA (GC w)) (0, 0) (ζM x (GC w) inL) (gW (GC w) h) 78 [(0, .ref (gB (GC w) + 1)), (3, .int a3)] [.long t0] (m_X8_ends_L78 a3 t0 h) := by
  unfold m_X8_ends_L78
  refine s_lstore (lv' := [(4, .long t0), (0, .ref (gB (GC w) + 1)), (3, .int a3)]) hG dX8_ends_78 (by decide) rfl ?_
  refine s_lload hG dX8_ends_80 0 rfl ?_
  refine s_aload_n hG dX8_ends_82 1 rfl rfl ?_
  refine s_getS hG hE dX8_ends_83 fl_X8_55 rfl kC_1 fC_8_8 (nzC kC_11) ?_
  refine s_callV (a := 11) (c := 2) (inj := inL) (As := []) (st := [.long t0]) rfl hG hE dX8_ends_86 hR (by decide) vv_X8_184 (by decide) rfl kC_11 rfl (Nat.le_of_ble_eq_true rfl) rfl (fun zv zh zq => c_X2_below w (xl x) 11 kC_11 h zv zh zq) (fun v1 h2 => ?_)
  refine s_iload_n hG dX8_ends_89 2 rfl rfl ?_
  refine s_callS (inj := inL) (As := [.long t0, .long v1, .int a3]) (st := []) rfl hG hE dX8_ends_90 hR (by decide) vs_X8_188 rfl (Nat.le_of_ble_eq_true rfl) rfl (fun zv zh zq => c_X8_lowest w (xl x) t0 v1 a3 h2 zv zh zq) (fun v3 h4 => ?_)
  exact s_lret hG hT dX8_ends_93

def m_X8_ends_L75 (a3 : Int32) (t0 : Int32) (t1 : Nat) (h : Hp) : Option (Int64 × Hp) := cb (m_X2_paidAtEnd t1 t0 h) fun v1 h2 => m_X8_ends_L78 a3 v1 h2
set_option maxRecDepth 20000 in
set_option maxHeartbeats 4000000 in
theorem s_X8_ends_L75 (w : WT) {x : CT} {l : Launch} (hx : xl x = l) (hG : Gd x cX8_ends 6 RX8) (hE : Ge x (GC w)) (hR : Rm x 7) (hT : Rt x (some .long)) (a3 : Int32) (t0 : Int32) (t1 : Nat) (q1 : LC t1 = (3, 0)) (h : Hp) : Sn x 6 (gA (GC w)) (0, 0) (ζM x (GC w) inL) (gW (GC w) h) 75 [(0, .ref (gB (GC w) + 1)), (3, .int a3)] [.int t0, .ref (gB (GC w) + t1)] (m_X8_ends_L75 a3 t0 t1 h) := by
  unfold m_X8_ends_L75
  refine s_callV (a := t1) (c := 2) (inj := inL) (As := [.int t0]) (st := []) rfl hG hE dX8_ends_75 hR (by decide) vv_X8_199 (by decide) rfl q1 rfl (Nat.le_of_ble_eq_true rfl) rfl (fun zv zh zq => c_X2_paidAtEnd w (xl x) t1 q1 t0 h zv zh zq) (fun v1 h2 => ?_)
  exact s_X8_ends_L78 w hx hG hE hR hT a3 v1 h2

def m_X8_ends (a1 : Int32) (a2 : Int32) (a3 : Int32) (h : Hp) : Option (Int64 × Hp) := cb (m_X8_isSuit a1 h) fun v1 h2 => if v1 = 0 then some ((-9223372036854775808), h2) else if a2 < 0 then some ((-9223372036854775808), h2) else if 2 < a2 then some ((-9223372036854775808), h2) else cb (m_X8_isPart a3 h2) fun v6 h7 => if v6 = 0 then some ((-9223372036854775808), h7) else ck (inb a1 5) (cb (m_X8_hear 11 a1 (gi h7 (91 + 1 * a1.toNatClampNeg) 2) h7) fun _ h11 => if a2 = 2 then cb (m_X2_paidInTruth 11 h11) fun v14 h15 => m_X8_ends_L78 a3 v14 h15 else if a2 = 1 then m_X8_ends_L75 a3 1 11 h11 else m_X8_ends_L75 a3 0 11 h11)
set_option maxRecDepth 20000 in
set_option maxHeartbeats 4000000 in
theorem s_X8_ends (w : WT) {x : CT} {l : Launch} (hx : xl x = l) (hG : Gd x cX8_ends 6 RX8) (hE : Ge x (GC w)) (hR : Rm x 7) (hT : Rt x (some .long)) (a1 : Int32) (a2 : Int32) (a3 : Int32) (h : Hp) : Sn x 6 (gA (GC w)) (0, 0) (ζM x (GC w) inL) (gW (GC w) h) 0 [(0, .ref (gB (GC w) + 1)), (1, .int a1), (2, .int a2), (3, .int a3)] [] (m_X8_ends a1 a2 a3 h) := by
  unfold m_X8_ends
  refine s_aload_n hG dX8_ends_0 0 rfl rfl ?_
  refine s_iload_n hG dX8_ends_1 1 rfl rfl ?_
  refine s_callV (a := 1) (c := 8) (inj := inI) (As := [.int a1]) (st := []) rfl hG hE dX8_ends_2 hR (by decide) vv_X8_93 (by decide) rfl kC_1 rfl (Nat.le_of_ble_eq_true rfl) rfl (fun zv zh zq => c_X8_isSuit w (xl x) a1 h zv zh zq) (fun v1 h2 => ?_)
  refine s_if_eq hG dX8_ends_5 (tgt := 24) (by decide) (fun q3 => ?_) (fun q3 => ?_)
  · refine s_ldc2 hG dX8_ends_24 wd_814 ?_
    exact s_lret hG hT dX8_ends_27
  · refine s_iload_n hG dX8_ends_8 2 rfl rfl ?_
    refine s_if_lt hG dX8_ends_9 (tgt := 24) (by decide) (fun q4 => ?_) (fun q4 => ?_)
    · refine s_ldc2 hG dX8_ends_24 wd_814 ?_
      exact s_lret hG hT dX8_ends_27
    · refine s_iload_n hG dX8_ends_12 2 rfl rfl ?_
      refine s_iconst hG dX8_ends_13 ic_2 ?_
      refine s_icmp_gt hG dX8_ends_14 (tgt := 24) (by decide) (fun q5 => ?_) (fun q5 => ?_)
      · refine s_ldc2 hG dX8_ends_24 wd_814 ?_
        exact s_lret hG hT dX8_ends_27
      · refine s_iload_n hG dX8_ends_17 3 rfl rfl ?_
        refine s_callS (inj := inI) (As := [.int a3]) (st := []) rfl hG hE dX8_ends_18 hR (by decide) vs_X8_175 rfl (Nat.le_of_ble_eq_true rfl) rfl (fun zv zh zq => c_X8_isPart w (xl x) a3 h2 zv zh zq) (fun v6 h7 => ?_)
        refine s_if_ne hG dX8_ends_21 (tgt := 28) (by decide) (fun q8 => ?_) (fun q8 => ?_)
        · refine s_ldc2 hG dX8_ends_24 wd_814 ?_
          exact s_lret hG hT dX8_ends_27
        · refine s_aload_n hG dX8_ends_28 0 rfl rfl ?_
          refine s_aload_n hG dX8_ends_29 0 rfl rfl ?_
          refine s_getS hG hE dX8_ends_30 fl_X8_55 rfl kC_1 fC_8_8 (nzC kC_11) ?_
          refine s_iload_n hG dX8_ends_33 1 rfl rfl ?_
          refine s_aload_n hG dX8_ends_34 0 rfl rfl ?_
          refine s_getS hG hE dX8_ends_35 fl_X8_20 rfl kC_1 fC_8_2 (nzC kC_4) ?_
          refine s_iload_n hG dX8_ends_38 1 rfl rfl ?_
          refine s_ck (fun q9 => ?_)
          refine s_aaldS (j := 3) hG hE dX8_ends_39 (by decide) kC_4 q9 ((eC_8_2 q9).1) (nzC ((eC_8_2 q9).2)) ?_
          refine s_getI hG hE dX8_ends_40 fl_X8_90 rfl ((eC_8_2 q9).2) ?_
          refine s_callV (a := 1) (c := 8) (inj := inV) (As := [.ref (gB (GC w) + 11), .int a1, .int (gi h7 (91 + 1 * a1.toNatClampNeg) 2)]) (st := []) rfl hG hE dX8_ends_43 hR (by decide) vv_X8_149 (by decide) rfl kC_1 rfl (Nat.le_of_ble_eq_true rfl) rfl (fun zv zh zq => c_X8_hear w (xl x) 11 kC_11 a1 (gi h7 (91 + 1 * a1.toNatClampNeg) 2) h7 zv zh zq) (fun v10 h11 => ?_)
          refine s_iload_n hG dX8_ends_46 2 rfl rfl ?_
          refine s_iconst hG dX8_ends_47 ic_2 ?_
          refine s_icmp_ne hG dX8_ends_48 (tgt := 61) (by decide) (fun q12 => ?_) (fun q12 => ?_)
          · refine s_aload_n hG dX8_ends_51 0 rfl rfl ?_
            refine s_getS hG hE dX8_ends_52 fl_X8_55 rfl kC_1 fC_8_8 (nzC kC_11) ?_
            refine s_callV (a := 11) (c := 2) (inj := inL) (As := []) (st := []) rfl hG hE dX8_ends_55 hR (by decide) vv_X8_196 (by decide) rfl kC_11 rfl (Nat.le_of_ble_eq_true rfl) rfl (fun zv zh zq => c_X2_paidInTruth w (xl x) 11 kC_11 h11 zv zh zq) (fun v14 h15 => ?_)
            refine s_goto (tgt := 78) hG dX8_ends_58 (by decide) ?_
            refine s_lv [0, 3] rfl ?_
            exact s_X8_ends_L78 w hx hG hE hR hT a3 v14 h15
          · refine s_aload_n hG dX8_ends_61 0 rfl rfl ?_
            refine s_getS hG hE dX8_ends_62 fl_X8_55 rfl kC_1 fC_8_8 (nzC kC_11) ?_
            refine s_iload_n hG dX8_ends_65 2 rfl rfl ?_
            refine s_iconst hG dX8_ends_66 ic_1 ?_
            refine s_icmp_ne hG dX8_ends_67 (tgt := 74) (by decide) (fun q13 => ?_) (fun q13 => ?_)
            · refine s_iconst hG dX8_ends_70 ic_1 ?_
              refine s_goto (tgt := 75) hG dX8_ends_71 (by decide) ?_
              refine s_lv [0, 3] rfl ?_
              exact s_X8_ends_L75 w hx hG hE hR hT a3 1 11 kC_11 h11
            · refine s_iconst hG dX8_ends_74 ic_0 ?_
              refine s_lv [0, 3] rfl ?_
              exact s_X8_ends_L75 w hx hG hE hR hT a3 0 11 kC_11 h11

theorem c_X8_ends (w : WT) (l : Launch) (a1 : Int32) (a2 : Int32) (a3 : Int32) (h : Hp) : ∀ v h', m_X8_ends a1 a2 a3 h = some (v, h') → MetM l (GC w) yX8_ends cX8_ends 6 (some .long) 7 [.ref (gB (GC w) + 1), .int a1, .int a2, .int a3] h (inL v) h' :=
  met_of (by decide) (lokC w) (Nat.le_of_ble_eq_true rfl) (fun x hx hG hE hR hT => s_X8_ends w hx hG hE hR hT a1 a2 a3 h)
def m_X2_choicesInTruth_L4 : Nat → Nat → Int32 → Int32 → Hp → Option (Int32 × Hp)
  | 0, _, _, _, _ => none
  | n + 1, a0, a1, a2, h => if (gi h a0 10) ≤ a2 then some (a1, h) else ck (inb a2 6) (ck (kC 5 (gr h (a0 + 1) a2.toNatClampNeg)) (cb (m_X5_swearsInTruth (gr h (a0 + 1) a2.toNatClampNeg) h) fun v4 h5 => if v4 = 0 then vb (a2 + 1) fun v7 => m_X2_choicesInTruth_L4 n a0 a1 v7 h5 else vb (a1 ||| (1 <<< (a2 &&& 31))) fun v8 => vb (a2 + 1) fun v9 => m_X2_choicesInTruth_L4 n a0 v8 v9 h5))
set_option maxRecDepth 20000 in
set_option maxHeartbeats 4000000 in
theorem s_X2_choicesInTruth_L4 (w : WT) {x : CT} {l : Launch} (hx : xl x = l) (hG : Gd x cX2_choicesInTruth 3 RX2) (hE : Ge x (GC w)) (hR : Rm x 3) (hT : Rt x (some .int)) : ∀ (n : Nat) (a0 : Nat) (p0 : LC a0 = (3, 0)) (a1 : Int32) (a2 : Int32) (h : Hp), Sn x 3 (gA (GC w)) (0, 0) (ζM x (GC w) inI) (gW (GC w) h) 4 [(0, .ref (gB (GC w) + a0)), (1, .int a1), (2, .int a2)] [] (m_X2_choicesInTruth_L4 n a0 a1 a2 h) := by
  intro n
  induction n with
  | zero => intro a0 p0 a1 a2 h; exact s_none
  | succ n ih =>
    intro a0 p0 a1 a2 h
    rw [m_X2_choicesInTruth_L4]
    refine s_iload_n hG dX2_choicesInTruth_4 2 rfl rfl ?_
    refine s_aload_n hG dX2_choicesInTruth_5 0 rfl rfl ?_
    refine s_getI hG hE dX2_choicesInTruth_6 fl_X2_50 rfl p0 ?_
    refine s_icmp_ge hG dX2_choicesInTruth_9 (tgt := 36) (by decide) (fun q1 => ?_) (fun q1 => ?_)
    · refine s_iload_n hG dX2_choicesInTruth_36 1 rfl rfl ?_
      exact s_iret hG hT dX2_choicesInTruth_37
    · refine s_aload_n hG dX2_choicesInTruth_12 0 rfl rfl ?_
      refine s_getS hG hE dX2_choicesInTruth_13 fl_X2_11 rfl p0 ((fC_2_0 p0).1) (nzC ((fC_2_0 p0).2)) ?_
      refine s_iload_n hG dX2_choicesInTruth_16 2 rfl rfl ?_
      refine s_ck (fun q2 => ?_)
      refine s_aald (j := 2) hG hE dX2_choicesInTruth_17 (by decide) ((fC_2_0 p0).2) q2 ?_
      refine s_ck (fun q3 => ?_)
      refine s_nn (nzC (kC_of q3)) ?_
      refine s_callV (a := gr h (a0 + 1) a2.toNatClampNeg) (c := 5) (inj := inI) (As := []) (st := []) rfl hG hE dX2_choicesInTruth_18 hR (by decide) vv_X2_184 (by decide) rfl (kC_of q3) rfl (Nat.le_of_ble_eq_true rfl) rfl (fun zv zh zq => c_X5_swearsInTruth w (xl x) (gr h (a0 + 1) a2.toNatClampNeg) (kC_of q3) h zv zh zq) (fun v4 h5 => ?_)
      refine s_if_eq hG dX2_choicesInTruth_21 (tgt := 30) (by decide) (fun q6 => ?_) (fun q6 => ?_)
      · refine s_iinc hG dX2_choicesInTruth_30 2 rfl ic_1 (by decide) (fun v7 => [(2, .int v7), (0, .ref (gB (GC w) + a0)), (1, .int a1)]) (fun _ => rfl) (fun v7 => ?_)
        refine s_goto (tgt := 4) hG dX2_choicesInTruth_33 (by decide) ?_
        refine s_lv [1, 2, 0] rfl ?_
        exact ih a0 p0 a1 v7 h5
      · refine s_iload_n hG dX2_choicesInTruth_24 1 rfl rfl ?_
        refine s_iconst hG dX2_choicesInTruth_25 ic_1 ?_
        refine s_iload_n hG dX2_choicesInTruth_26 2 rfl rfl ?_
        refine s_ishl hG dX2_choicesInTruth_27 ?_
        refine s_ior hG dX2_choicesInTruth_28 ?_
        refine s_vI (fun v8 => ?_)
        refine s_istore_n (lv' := [(1, .int v8), (0, .ref (gB (GC w) + a0)), (2, .int a2)]) hG dX2_choicesInTruth_29 rfl (by decide) rfl ?_
        refine s_iinc hG dX2_choicesInTruth_30 2 rfl ic_1 (by decide) (fun v9 => [(2, .int v9), (1, .int v8), (0, .ref (gB (GC w) + a0))]) (fun _ => rfl) (fun v9 => ?_)
        refine s_goto (tgt := 4) hG dX2_choicesInTruth_33 (by decide) ?_
        refine s_lv [2, 1, 0] rfl ?_
        exact ih a0 p0 v8 v9 h5

def m_X2_choicesInTruth (a0 : Nat) (h : Hp) : Option (Int32 × Hp) := m_X2_choicesInTruth_L4 FU a0 0 0 h
set_option maxRecDepth 20000 in
set_option maxHeartbeats 4000000 in
theorem s_X2_choicesInTruth (w : WT) {x : CT} {l : Launch} (hx : xl x = l) (hG : Gd x cX2_choicesInTruth 3 RX2) (hE : Ge x (GC w)) (hR : Rm x 3) (hT : Rt x (some .int)) (a0 : Nat) (p0 : LC a0 = (3, 0)) (h : Hp) : Sn x 3 (gA (GC w)) (0, 0) (ζM x (GC w) inI) (gW (GC w) h) 0 [(0, .ref (gB (GC w) + a0))] [] (m_X2_choicesInTruth a0 h) := by
  unfold m_X2_choicesInTruth
  refine s_iconst hG dX2_choicesInTruth_0 ic_0 ?_
  refine s_istore_n (lv' := [(1, .int 0), (0, .ref (gB (GC w) + a0))]) hG dX2_choicesInTruth_1 rfl (by decide) rfl ?_
  refine s_iconst hG dX2_choicesInTruth_2 ic_0 ?_
  refine s_istore_n (lv' := [(2, .int 0), (1, .int 0), (0, .ref (gB (GC w) + a0))]) hG dX2_choicesInTruth_3 rfl (by decide) rfl ?_
  refine s_lv [2, 1, 0] rfl ?_
  exact s_X2_choicesInTruth_L4 w hx hG hE hR hT FU a0 p0 0 0 h

theorem c_X2_choicesInTruth (w : WT) (l : Launch) (a0 : Nat) (p0 : LC a0 = (3, 0)) (h : Hp) : ∀ v h', m_X2_choicesInTruth a0 h = some (v, h') → MetM l (GC w) yX2_choicesInTruth cX2_choicesInTruth 3 (some .int) 3 [.ref (gB (GC w) + a0)] h (inI v) h' :=
  met_of (by decide) (lokC w) (Nat.le_of_ble_eq_true rfl) (fun x hx hG hE hR hT => s_X2_choicesInTruth w hx hG hE hR hT a0 p0 h)
theorem vv_X8_203 : VV RX8 203 yX2_choicesInTruth cX2_choicesInTruth 3 (some .int) 0 := ⟨⟨gw_at 874 (by decide +kernel) (by decide +kernel), gw_at 877 (by decide +kernel) (by decide +kernel), gw_at 89 (by decide +kernel) (by decide +kernel), by decide +kernel, by decide⟩, gw_at 875 (by decide +kernel) (by decide +kernel), gw_at 876 (by decide +kernel) (by decide +kernel)⟩
def m_X8_truly (a1 : Int32) (h : Hp) : Option (Int32 × Hp) := cb (m_X8_isSuit a1 h) fun v1 h2 => if v1 = 0 then some ((-1), h2) else ck (inb a1 5) (cb (m_X8_hear 11 a1 (gi h2 (91 + 1 * a1.toNatClampNeg) 2) h2) fun _ h6 => cb (m_X2_choicesInTruth 11 h6) fun v7 h8 => some (v7, h8))
set_option maxRecDepth 20000 in
set_option maxHeartbeats 4000000 in
theorem s_X8_truly (w : WT) {x : CT} {l : Launch} (hx : xl x = l) (hG : Gd x cX8_truly 2 RX8) (hE : Ge x (GC w)) (hR : Rm x 7) (hT : Rt x (some .int)) (a1 : Int32) (h : Hp) : Sn x 2 (gA (GC w)) (0, 0) (ζM x (GC w) inI) (gW (GC w) h) 0 [(0, .ref (gB (GC w) + 1)), (1, .int a1)] [] (m_X8_truly a1 h) := by
  unfold m_X8_truly
  refine s_aload_n hG dX8_truly_0 0 rfl rfl ?_
  refine s_iload_n hG dX8_truly_1 1 rfl rfl ?_
  refine s_callV (a := 1) (c := 8) (inj := inI) (As := [.int a1]) (st := []) rfl hG hE dX8_truly_2 hR (by decide) vv_X8_93 (by decide) rfl kC_1 rfl (Nat.le_of_ble_eq_true rfl) rfl (fun zv zh zq => c_X8_isSuit w (xl x) a1 h zv zh zq) (fun v1 h2 => ?_)
  refine s_if_ne hG dX8_truly_5 (tgt := 10) (by decide) (fun q3 => ?_) (fun q3 => ?_)
  · refine s_iconst hG dX8_truly_8 ic_m1 ?_
    exact s_iret hG hT dX8_truly_9
  · refine s_aload_n hG dX8_truly_10 0 rfl rfl ?_
    refine s_aload_n hG dX8_truly_11 0 rfl rfl ?_
    refine s_getS hG hE dX8_truly_12 fl_X8_55 rfl kC_1 fC_8_8 (nzC kC_11) ?_
    refine s_iload_n hG dX8_truly_15 1 rfl rfl ?_
    refine s_aload_n hG dX8_truly_16 0 rfl rfl ?_
    refine s_getS hG hE dX8_truly_17 fl_X8_20 rfl kC_1 fC_8_2 (nzC kC_4) ?_
    refine s_iload_n hG dX8_truly_20 1 rfl rfl ?_
    refine s_ck (fun q4 => ?_)
    refine s_aaldS (j := 3) hG hE dX8_truly_21 (by decide) kC_4 q4 ((eC_8_2 q4).1) (nzC ((eC_8_2 q4).2)) ?_
    refine s_getI hG hE dX8_truly_22 fl_X8_90 rfl ((eC_8_2 q4).2) ?_
    refine s_callV (a := 1) (c := 8) (inj := inV) (As := [.ref (gB (GC w) + 11), .int a1, .int (gi h2 (91 + 1 * a1.toNatClampNeg) 2)]) (st := []) rfl hG hE dX8_truly_25 hR (by decide) vv_X8_149 (by decide) rfl kC_1 rfl (Nat.le_of_ble_eq_true rfl) rfl (fun zv zh zq => c_X8_hear w (xl x) 11 kC_11 a1 (gi h2 (91 + 1 * a1.toNatClampNeg) 2) h2 zv zh zq) (fun v5 h6 => ?_)
    refine s_aload_n hG dX8_truly_28 0 rfl rfl ?_
    refine s_getS hG hE dX8_truly_29 fl_X8_55 rfl kC_1 fC_8_8 (nzC kC_11) ?_
    refine s_callV (a := 11) (c := 2) (inj := inI) (As := []) (st := []) rfl hG hE dX8_truly_32 hR (by decide) vv_X8_203 (by decide) rfl kC_11 rfl (Nat.le_of_ble_eq_true rfl) rfl (fun zv zh zq => c_X2_choicesInTruth w (xl x) 11 kC_11 h6 zv zh zq) (fun v7 h8 => ?_)
    exact s_iret hG hT dX8_truly_35

theorem c_X8_truly (w : WT) (l : Launch) (a1 : Int32) (h : Hp) : ∀ v h', m_X8_truly a1 h = some (v, h') → MetM l (GC w) yX8_truly cX8_truly 2 (some .int) 7 [.ref (gB (GC w) + 1), .int a1] h (inI v) h' :=
  met_of (by decide) (lokC w) (Nat.le_of_ble_eq_true rfl) (fun x hx hG hE hR hT => s_X8_truly w hx hG hE hR hT a1 h)
def m_X2_howManyRolled_L4 : Nat → Nat → Int32 → Int32 → Hp → Option (Int32 × Hp)
  | 0, _, _, _, _ => none
  | n + 1, a0, a1, a2, h => if (gi h a0 10) ≤ a2 then some (a1, h) else ck (inb a2 6) (ck (kC 5 (gr h (a0 + 1) a2.toNatClampNeg)) (if (gi h (gr h (a0 + 1) a2.toNatClampNeg) 10) = 4 then vb (a1 + 1) fun v6 => vb (a2 + 1) fun v7 => m_X2_howManyRolled_L4 n a0 v6 v7 h else vb (a2 + 1) fun v5 => m_X2_howManyRolled_L4 n a0 a1 v5 h))
set_option maxRecDepth 20000 in
set_option maxHeartbeats 4000000 in
theorem s_X2_howManyRolled_L4 (w : WT) {x : CT} {l : Launch} (hx : xl x = l) (hG : Gd x cX2_howManyRolled 3 RX2) (hE : Ge x (GC w)) (hR : Rm x 1) (hT : Rt x (some .int)) : ∀ (n : Nat) (a0 : Nat) (p0 : LC a0 = (3, 0)) (a1 : Int32) (a2 : Int32) (h : Hp), Sn x 3 (gA (GC w)) (0, 0) (ζM x (GC w) inI) (gW (GC w) h) 4 [(0, .ref (gB (GC w) + a0)), (1, .int a1), (2, .int a2)] [] (m_X2_howManyRolled_L4 n a0 a1 a2 h) := by
  intro n
  induction n with
  | zero => intro a0 p0 a1 a2 h; exact s_none
  | succ n ih =>
    intro a0 p0 a1 a2 h
    rw [m_X2_howManyRolled_L4]
    refine s_iload_n hG dX2_howManyRolled_4 2 rfl rfl ?_
    refine s_aload_n hG dX2_howManyRolled_5 0 rfl rfl ?_
    refine s_getI hG hE dX2_howManyRolled_6 fl_X2_50 rfl p0 ?_
    refine s_icmp_ge hG dX2_howManyRolled_9 (tgt := 34) (by decide) (fun q1 => ?_) (fun q1 => ?_)
    · refine s_iload_n hG dX2_howManyRolled_34 1 rfl rfl ?_
      exact s_iret hG hT dX2_howManyRolled_35
    · refine s_aload_n hG dX2_howManyRolled_12 0 rfl rfl ?_
      refine s_getS hG hE dX2_howManyRolled_13 fl_X2_11 rfl p0 ((fC_2_0 p0).1) (nzC ((fC_2_0 p0).2)) ?_
      refine s_iload_n hG dX2_howManyRolled_16 2 rfl rfl ?_
      refine s_ck (fun q2 => ?_)
      refine s_aald (j := 2) hG hE dX2_howManyRolled_17 (by decide) ((fC_2_0 p0).2) q2 ?_
      refine s_ck (fun q3 => ?_)
      refine s_nn (nzC (kC_of q3)) ?_
      refine s_getI hG hE dX2_howManyRolled_18 fl_X2_76 rfl (kC_of q3) ?_
      refine s_iconst hG dX2_howManyRolled_21 ic_4 ?_
      refine s_icmp_ne hG dX2_howManyRolled_22 (tgt := 28) (by decide) (fun q4 => ?_) (fun q4 => ?_)
      · refine s_iinc hG dX2_howManyRolled_25 1 rfl ic_1 (by decide) (fun v6 => [(1, .int v6), (0, .ref (gB (GC w) + a0)), (2, .int a2)]) (fun _ => rfl) (fun v6 => ?_)
        refine s_iinc hG dX2_howManyRolled_28 2 rfl ic_1 (by decide) (fun v7 => [(2, .int v7), (1, .int v6), (0, .ref (gB (GC w) + a0))]) (fun _ => rfl) (fun v7 => ?_)
        refine s_goto (tgt := 4) hG dX2_howManyRolled_31 (by decide) ?_
        refine s_lv [2, 1, 0] rfl ?_
        exact ih a0 p0 v6 v7 h
      · refine s_iinc hG dX2_howManyRolled_28 2 rfl ic_1 (by decide) (fun v5 => [(2, .int v5), (0, .ref (gB (GC w) + a0)), (1, .int a1)]) (fun _ => rfl) (fun v5 => ?_)
        refine s_goto (tgt := 4) hG dX2_howManyRolled_31 (by decide) ?_
        refine s_lv [1, 2, 0] rfl ?_
        exact ih a0 p0 a1 v5 h

def m_X2_howManyRolled (a0 : Nat) (h : Hp) : Option (Int32 × Hp) := m_X2_howManyRolled_L4 FU a0 0 0 h
set_option maxRecDepth 20000 in
set_option maxHeartbeats 4000000 in
theorem s_X2_howManyRolled (w : WT) {x : CT} {l : Launch} (hx : xl x = l) (hG : Gd x cX2_howManyRolled 3 RX2) (hE : Ge x (GC w)) (hR : Rm x 1) (hT : Rt x (some .int)) (a0 : Nat) (p0 : LC a0 = (3, 0)) (h : Hp) : Sn x 3 (gA (GC w)) (0, 0) (ζM x (GC w) inI) (gW (GC w) h) 0 [(0, .ref (gB (GC w) + a0))] [] (m_X2_howManyRolled a0 h) := by
  unfold m_X2_howManyRolled
  refine s_iconst hG dX2_howManyRolled_0 ic_0 ?_
  refine s_istore_n (lv' := [(1, .int 0), (0, .ref (gB (GC w) + a0))]) hG dX2_howManyRolled_1 rfl (by decide) rfl ?_
  refine s_iconst hG dX2_howManyRolled_2 ic_0 ?_
  refine s_istore_n (lv' := [(2, .int 0), (1, .int 0), (0, .ref (gB (GC w) + a0))]) hG dX2_howManyRolled_3 rfl (by decide) rfl ?_
  refine s_lv [2, 1, 0] rfl ?_
  exact s_X2_howManyRolled_L4 w hx hG hE hR hT FU a0 p0 0 0 h

theorem c_X2_howManyRolled (w : WT) (l : Launch) (a0 : Nat) (p0 : LC a0 = (3, 0)) (h : Hp) : ∀ v h', m_X2_howManyRolled a0 h = some (v, h') → MetM l (GC w) yX2_howManyRolled cX2_howManyRolled 3 (some .int) 1 [.ref (gB (GC w) + a0)] h (inI v) h' :=
  met_of (by decide) (lokC w) (Nat.le_of_ble_eq_true rfl) (fun x hx hG hE hR hT => s_X2_howManyRolled w hx hG hE hR hT a0 p0 h)
def m_X2_numberRolledOnto (a0 : Nat) (h : Hp) : Option (Int32 × Hp) := if 0 ≤ (gi h a0 9) then ck (inb (gi h a0 9) 6) (some (gi h (a0 + 5) (gi h a0 9).toNatClampNeg, h)) else some ((-5), h)
set_option maxRecDepth 20000 in
set_option maxHeartbeats 4000000 in
theorem s_X2_numberRolledOnto (w : WT) {x : CT} {l : Launch} (hx : xl x = l) (hG : Gd x cX2_numberRolledOnto 1 RX2) (hE : Ge x (GC w)) (hR : Rm x 1) (hT : Rt x (some .int)) (a0 : Nat) (p0 : LC a0 = (3, 0)) (h : Hp) : Sn x 1 (gA (GC w)) (0, 0) (ζM x (GC w) inI) (gW (GC w) h) 0 [(0, .ref (gB (GC w) + a0))] [] (m_X2_numberRolledOnto a0 h) := by
  unfold m_X2_numberRolledOnto
  refine s_aload_n hG dX2_numberRolledOnto_0 0 rfl rfl ?_
  refine s_getI hG hE dX2_numberRolledOnto_1 fl_X2_61 rfl p0 ?_
  refine s_if_ge hG dX2_numberRolledOnto_4 (tgt := 12) (by decide) (fun q1 => ?_) (fun q1 => ?_)
  · refine s_aload_n hG dX2_numberRolledOnto_12 0 rfl rfl ?_
    refine s_getS hG hE dX2_numberRolledOnto_13 fl_X2_29 rfl p0 ((fC_2_4 p0).1) (nzC ((fC_2_4 p0).2)) ?_
    refine s_aload_n hG dX2_numberRolledOnto_16 0 rfl rfl ?_
    refine s_getI hG hE dX2_numberRolledOnto_17 fl_X2_61 rfl p0 ?_
    refine s_ck (fun q2 => ?_)
    refine s_iald hG hE dX2_numberRolledOnto_20 ((fC_2_4 p0).2) q2 ?_
    exact s_iret hG hT dX2_numberRolledOnto_21
  · refine s_bipush hG dX2_numberRolledOnto_7 bc_m5 ?_
    refine s_goto (tgt := 21) hG dX2_numberRolledOnto_9 (by decide) ?_
    exact s_iret hG hT dX2_numberRolledOnto_21

theorem c_X2_numberRolledOnto (w : WT) (l : Launch) (a0 : Nat) (p0 : LC a0 = (3, 0)) (h : Hp) : ∀ v h', m_X2_numberRolledOnto a0 h = some (v, h') → MetM l (GC w) yX2_numberRolledOnto cX2_numberRolledOnto 1 (some .int) 1 [.ref (gB (GC w) + a0)] h (inI v) h' :=
  met_of (by decide) (lokC w) (Nat.le_of_ble_eq_true rfl) (fun x hx hG hE hR hT => s_X2_numberRolledOnto w hx hG hE hR hT a0 p0 h)
theorem vv_X8_207 : VV RX8 207 yX2_howManyRolled cX2_howManyRolled 3 (some .int) 0 := ⟨⟨gw_at 882 (by decide +kernel) (by decide +kernel), gw_at 885 (by decide +kernel) (by decide +kernel), gw_at 89 (by decide +kernel) (by decide +kernel), by decide +kernel, by decide⟩, gw_at 883 (by decide +kernel) (by decide +kernel), gw_at 884 (by decide +kernel) (by decide +kernel)⟩
theorem vv_X8_210 : VV RX8 210 yX2_numberRolledOnto cX2_numberRolledOnto 1 (some .int) 0 := ⟨⟨gw_at 886 (by decide +kernel) (by decide +kernel), gw_at 889 (by decide +kernel) (by decide +kernel), gw_at 89 (by decide +kernel) (by decide +kernel), by decide +kernel, by decide⟩, gw_at 887 (by decide +kernel) (by decide +kernel), gw_at 888 (by decide +kernel) (by decide +kernel)⟩
def m_X8_rolled (a1 : Int32) (a2 : Int32) (h : Hp) : Option (Int32 × Hp) := cb (m_X8_isSuit a1 h) fun v1 h2 => if v1 = 0 then some ((-1), h2) else if a2 < 0 then some ((-1), h2) else if a2 ≤ 1 then ck (inb a1 5) (cb (m_X8_hear 11 a1 (gi h2 (91 + 1 * a1.toNatClampNeg) 2) h2) fun _ h8 => cb (m_X2_howManyRolled 11 h8) fun v9 h10 => if a2 = 1 then some (v9, h10) else if v9 = 0 then some ((-5), h10) else cb (m_X2_numberRolledOnto 11 h10) fun v13 h14 => some (v13, h14)) else some ((-1), h2)
set_option maxRecDepth 20000 in
set_option maxHeartbeats 4000000 in
theorem s_X8_rolled (w : WT) {x : CT} {l : Launch} (hx : xl x = l) (hG : Gd x cX8_rolled 4 RX8) (hE : Ge x (GC w)) (hR : Rm x 7) (hT : Rt x (some .int)) (a1 : Int32) (a2 : Int32) (h : Hp) : Sn x 4 (gA (GC w)) (0, 0) (ζM x (GC w) inI) (gW (GC w) h) 0 [(0, .ref (gB (GC w) + 1)), (1, .int a1), (2, .int a2)] [] (m_X8_rolled a1 a2 h) := by
  unfold m_X8_rolled
  refine s_aload_n hG dX8_rolled_0 0 rfl rfl ?_
  refine s_iload_n hG dX8_rolled_1 1 rfl rfl ?_
  refine s_callV (a := 1) (c := 8) (inj := inI) (As := [.int a1]) (st := []) rfl hG hE dX8_rolled_2 hR (by decide) vv_X8_93 (by decide) rfl kC_1 rfl (Nat.le_of_ble_eq_true rfl) rfl (fun zv zh zq => c_X8_isSuit w (xl x) a1 h zv zh zq) (fun v1 h2 => ?_)
  refine s_if_eq hG dX8_rolled_5 (tgt := 17) (by decide) (fun q3 => ?_) (fun q3 => ?_)
  · refine s_iconst hG dX8_rolled_17 ic_m1 ?_
    exact s_iret hG hT dX8_rolled_18
  · refine s_iload_n hG dX8_rolled_8 2 rfl rfl ?_
    refine s_if_lt hG dX8_rolled_9 (tgt := 17) (by decide) (fun q4 => ?_) (fun q4 => ?_)
    · refine s_iconst hG dX8_rolled_17 ic_m1 ?_
      exact s_iret hG hT dX8_rolled_18
    · refine s_iload_n hG dX8_rolled_12 2 rfl rfl ?_
      refine s_iconst hG dX8_rolled_13 ic_1 ?_
      refine s_icmp_le hG dX8_rolled_14 (tgt := 19) (by decide) (fun q5 => ?_) (fun q5 => ?_)
      · refine s_aload_n hG dX8_rolled_19 0 rfl rfl ?_
        refine s_aload_n hG dX8_rolled_20 0 rfl rfl ?_
        refine s_getS hG hE dX8_rolled_21 fl_X8_55 rfl kC_1 fC_8_8 (nzC kC_11) ?_
        refine s_iload_n hG dX8_rolled_24 1 rfl rfl ?_
        refine s_aload_n hG dX8_rolled_25 0 rfl rfl ?_
        refine s_getS hG hE dX8_rolled_26 fl_X8_20 rfl kC_1 fC_8_2 (nzC kC_4) ?_
        refine s_iload_n hG dX8_rolled_29 1 rfl rfl ?_
        refine s_ck (fun q6 => ?_)
        refine s_aaldS (j := 3) hG hE dX8_rolled_30 (by decide) kC_4 q6 ((eC_8_2 q6).1) (nzC ((eC_8_2 q6).2)) ?_
        refine s_getI hG hE dX8_rolled_31 fl_X8_90 rfl ((eC_8_2 q6).2) ?_
        refine s_callV (a := 1) (c := 8) (inj := inV) (As := [.ref (gB (GC w) + 11), .int a1, .int (gi h2 (91 + 1 * a1.toNatClampNeg) 2)]) (st := []) rfl hG hE dX8_rolled_34 hR (by decide) vv_X8_149 (by decide) rfl kC_1 rfl (Nat.le_of_ble_eq_true rfl) rfl (fun zv zh zq => c_X8_hear w (xl x) 11 kC_11 a1 (gi h2 (91 + 1 * a1.toNatClampNeg) 2) h2 zv zh zq) (fun v7 h8 => ?_)
        refine s_aload_n hG dX8_rolled_37 0 rfl rfl ?_
        refine s_getS hG hE dX8_rolled_38 fl_X8_55 rfl kC_1 fC_8_8 (nzC kC_11) ?_
        refine s_callV (a := 11) (c := 2) (inj := inI) (As := []) (st := []) rfl hG hE dX8_rolled_41 hR (by decide) vv_X8_207 (by decide) rfl kC_11 rfl (Nat.le_of_ble_eq_true rfl) rfl (fun zv zh zq => c_X2_howManyRolled w (xl x) 11 kC_11 h8 zv zh zq) (fun v9 h10 => ?_)
        refine s_istore_n (lv' := [(3, .int v9), (0, .ref (gB (GC w) + 1)), (1, .int a1), (2, .int a2)]) hG dX8_rolled_44 rfl (by decide) rfl ?_
        refine s_iload_n hG dX8_rolled_45 3 rfl rfl ?_
        refine s_iconst hG dX8_rolled_46 ic_1 ?_
        refine s_icmp_ne hG dX8_rolled_47 (tgt := 52) (by decide) (fun q11 => ?_) (fun q11 => ?_)
        · refine s_iload_n hG dX8_rolled_50 0 rfl rfl ?_
          exact s_iret hG hT dX8_rolled_51
        · refine s_iload_n hG dX8_rolled_52 0 rfl rfl ?_
          refine s_if_ne hG dX8_rolled_53 (tgt := 61) (by decide) (fun q12 => ?_) (fun q12 => ?_)
          · refine s_bipush hG dX8_rolled_56 bc_m5 ?_
            refine s_goto (tgt := 68) hG dX8_rolled_58 (by decide) ?_
            exact s_iret hG hT dX8_rolled_68
          · refine s_aload_n hG dX8_rolled_61 1 rfl rfl ?_
            refine s_getS hG hE dX8_rolled_62 fl_X8_55 rfl kC_1 fC_8_8 (nzC kC_11) ?_
            refine s_callV (a := 11) (c := 2) (inj := inI) (As := []) (st := []) rfl hG hE dX8_rolled_65 hR (by decide) vv_X8_210 (by decide) rfl kC_11 rfl (Nat.le_of_ble_eq_true rfl) rfl (fun zv zh zq => c_X2_numberRolledOnto w (xl x) 11 kC_11 h10 zv zh zq) (fun v13 h14 => ?_)
            exact s_iret hG hT dX8_rolled_68
      · refine s_iconst hG dX8_rolled_17 ic_m1 ?_
        exact s_iret hG hT dX8_rolled_18

theorem c_X8_rolled (w : WT) (l : Launch) (a1 : Int32) (a2 : Int32) (h : Hp) : ∀ v h', m_X8_rolled a1 a2 h = some (v, h') → MetM l (GC w) yX8_rolled cX8_rolled 4 (some .int) 7 [.ref (gB (GC w) + 1), .int a1, .int a2] h (inI v) h' :=
  met_of (by decide) (lokC w) (Nat.le_of_ble_eq_true rfl) (fun x hx hG hE hR hT => s_X8_rolled w hx hG hE hR hT a1 a2 h)
theorem wd_906 : Cond.methodLink RX0 46 Lib.Math.min.name ∈ GW := gw_at 906 (by decide +kernel) (by decide +kernel)
def m_X0_answerAs_L11 (a0 : Nat) (a1 : Int32) (t0 : Int32) (t1 : Nat) (h : Hp) : Option (Unit × Hp) := hb (si h t1 4 t0) fun h1 => if a1 = 1 then hb (si h1 a0 3 (gi h1 a0 1)) fun h3 => some ((), h3) else if a1 = 2 then hb (si h1 a0 3 (if (gi h1 a0 1) < (gi h1 a0 9) then (gi h1 a0 1) else (gi h1 a0 9))) fun h5 => some ((), h5) else if a1 = 3 then hb (si h1 a0 3 ((gi h1 a0 1) / 2)) fun h7 => some ((), h7) else hb (si h1 a0 3 0) fun h8 => some ((), h8)
set_option maxRecDepth 20000 in
set_option maxHeartbeats 4000000 in
theorem s_X0_answerAs_L11 (w : WT) {x : CT} {l : Launch} (hx : xl x = l) (hG : Gd x cX0_answerAs 2 RX0) (hE : Ge x (GC w)) (hR : Rm x 2) (hT : Rt x none) (a0 : Nat) (p0 : LC a0 = (1, 0)) (a1 : Int32) (t0 : Int32) (t1 : Nat) (q1 : LC t1 = (1, 0)) (h : Hp) : Sn x 2 (gA (GC w)) (0, 0) (ζM x (GC w) inV) (gW (GC w) h) 11 [(0, .ref (gB (GC w) + a0)), (1, .int a1)] [.int t0, .ref (gB (GC w) + t1)] (m_X0_answerAs_L11 a0 a1 t0 t1 h) := by
  unfold m_X0_answerAs_L11
  refine s_putI hG hE dX0_answerAs_11 fl_X0_24 rfl rfl q1 (fun h1 => ?_)
  refine s_iload_n hG dX0_answerAs_14 1 rfl rfl ?_
  refine s_tsw (off := 25) hG dX0_answerAs_15 1 (by decide) (tgt := 40) (by decide) (fun q2 => ?_) (fun q2 => ?_)
  · refine s_aload_n hG dX0_answerAs_40 0 rfl rfl ?_
    refine s_aload_n hG dX0_answerAs_41 0 rfl rfl ?_
    refine s_getI hG hE dX0_answerAs_42 fl_X0_15 rfl p0 ?_
    refine s_putI hG hE dX0_answerAs_45 fl_X0_21 rfl rfl p0 (fun h3 => ?_)
    refine s_goto (tgt := 87) hG dX0_answerAs_48 (by decide) ?_
    exact s_vret hG hT dX0_answerAs_87
  · refine s_tsw (off := 36) hG dX0_answerAs_15 2 (by decide) (tgt := 51) (by decide) (fun q4 => ?_) (fun q4 => ?_)
    · refine s_aload_n hG dX0_answerAs_51 0 rfl rfl ?_
      refine s_aload_n hG dX0_answerAs_52 0 rfl rfl ?_
      refine s_getI hG hE dX0_answerAs_53 fl_X0_39 rfl p0 ?_
      refine s_aload_n hG dX0_answerAs_56 0 rfl rfl ?_
      refine s_getI hG hE dX0_answerAs_57 fl_X0_15 rfl p0 ?_
      refine s_mmin hG hR (by decide) dX0_answerAs_60 wd_906 wd_659 wd_101 wd_660 (Nat.le_of_ble_eq_true rfl) ?_
      refine s_putI hG hE dX0_answerAs_63 fl_X0_21 rfl rfl p0 (fun h5 => ?_)
      refine s_goto (tgt := 87) hG dX0_answerAs_66 (by decide) ?_
      exact s_vret hG hT dX0_answerAs_87
    · refine s_tsw (off := 54) hG dX0_answerAs_15 3 (by decide) (tgt := 69) (by decide) (fun q6 => ?_) (fun q6 => ?_)
      · refine s_aload_n hG dX0_answerAs_69 0 rfl rfl ?_
        refine s_aload_n hG dX0_answerAs_70 0 rfl rfl ?_
        refine s_getI hG hE dX0_answerAs_71 fl_X0_15 rfl p0 ?_
        refine s_iconst hG dX0_answerAs_74 ic_2 ?_
        refine s_idiv hG dX0_answerAs_75 (by decide) ?_
        refine s_putI hG hE dX0_answerAs_76 fl_X0_21 rfl rfl p0 (fun h7 => ?_)
        refine s_goto (tgt := 87) hG dX0_answerAs_79 (by decide) ?_
        exact s_vret hG hT dX0_answerAs_87
      · refine s_tswD (tgt := 82) hG dX0_answerAs_15 (by decide) (by have zq2 := lv_neT q2 (show (1 : Int32).toInt = 1 by decide); have zq4 := lv_neT q4 (show (2 : Int32).toInt = 2 by decide); have zq6 := lv_neT q6 (show (3 : Int32).toInt = 3 by decide); omega) ?_
        refine s_aload_n hG dX0_answerAs_82 0 rfl rfl ?_
        refine s_iconst hG dX0_answerAs_83 ic_0 ?_
        refine s_putI hG hE dX0_answerAs_84 fl_X0_21 rfl rfl p0 (fun h8 => ?_)
        exact s_vret hG hT dX0_answerAs_87

def m_X0_answerAs (a0 : Nat) (a1 : Int32) (h : Hp) : Option (Unit × Hp) := if a1 = 4 then m_X0_answerAs_L11 a0 a1 0 a0 h else m_X0_answerAs_L11 a0 a1 1 a0 h
set_option maxRecDepth 20000 in
set_option maxHeartbeats 4000000 in
theorem s_X0_answerAs (w : WT) {x : CT} {l : Launch} (hx : xl x = l) (hG : Gd x cX0_answerAs 2 RX0) (hE : Ge x (GC w)) (hR : Rm x 2) (hT : Rt x none) (a0 : Nat) (p0 : LC a0 = (1, 0)) (a1 : Int32) (h : Hp) : Sn x 2 (gA (GC w)) (0, 0) (ζM x (GC w) inV) (gW (GC w) h) 0 [(0, .ref (gB (GC w) + a0)), (1, .int a1)] [] (m_X0_answerAs a0 a1 h) := by
  unfold m_X0_answerAs
  refine s_aload_n hG dX0_answerAs_0 0 rfl rfl ?_
  refine s_iload_n hG dX0_answerAs_1 1 rfl rfl ?_
  refine s_iconst hG dX0_answerAs_2 ic_4 ?_
  refine s_icmp_ne hG dX0_answerAs_3 (tgt := 10) (by decide) (fun q1 => ?_) (fun q1 => ?_)
  · refine s_iconst hG dX0_answerAs_6 ic_0 ?_
    refine s_goto (tgt := 11) hG dX0_answerAs_7 (by decide) ?_
    exact s_X0_answerAs_L11 w hx hG hE hR hT a0 p0 a1 0 a0 p0 h
  · refine s_iconst hG dX0_answerAs_10 ic_1 ?_
    exact s_X0_answerAs_L11 w hx hG hE hR hT a0 p0 a1 1 a0 p0 h

theorem c_X0_answerAs (w : WT) (l : Launch) (a0 : Nat) (p0 : LC a0 = (1, 0)) (a1 : Int32) (h : Hp) : ∀ v h', m_X0_answerAs a0 a1 h = some (v, h') → MetM l (GC w) yX0_answerAs cX0_answerAs 2 none 2 [.ref (gB (GC w) + a0), .int a1] h (inV v) h' :=
  met_of (by decide) (lokC w) (Nat.le_of_ble_eq_true rfl) (fun x hx hG hE hR hT => s_X0_answerAs w hx hG hE hR hT a0 p0 a1 h)
theorem fl_X2_34 : FL RX2 34 2 5 := ⟨by decide, by decide, gw_at 263 (by decide +kernel) (by decide +kernel), rfl⟩
theorem fC_2_5 {a : Nat} (h : LC a = (3, 0)) : SC a 5 = some (a + 6) ∧ LC (a + 6) = (1, 0) := by
  rcases iC_2 h with rfl | rfl <;> exact ⟨rfl, rfl⟩
theorem vv_X2_217 : VV RX2 217 yX0_answerAs cX0_answerAs 2 none 1 := ⟨⟨gw_at 902 (by decide +kernel) (by decide +kernel), gw_at 905 (by decide +kernel) (by decide +kernel), gw_at 90 (by decide +kernel) (by decide +kernel), by decide +kernel, by decide⟩, gw_at 903 (by decide +kernel) (by decide +kernel), gw_at 904 (by decide +kernel) (by decide +kernel)⟩
theorem fl_X2_20 : FL RX2 20 2 2 := ⟨by decide, by decide, gw_at 260 (by decide +kernel) (by decide +kernel), rfl⟩
theorem fC_2_2 {a : Nat} (h : LC a = (3, 0)) : SC a 2 = some (a + 3) ∧ LC (a + 3) = (25, 20) := by
  rcases iC_2 h with rfl | rfl <;> exact ⟨rfl, rfl⟩
theorem eC_2_2 {a : Nat} {i : Int32} (h : LC a = (3, 0)) (hi : inb i 20 = true) : SC (a + 3) i.toNatClampNeg = some (a + 19 + 1 * i.toNatClampNeg) ∧ LC (a + 19 + 1 * i.toNatClampNeg) = (6, 0) := by
  have hk := inb_lt hi
  generalize i.toNatClampNeg = k at hk
  rcases iC_2 h with rfl | rfl
  · exact (show ∀ k, k < 20 → SC (11 + 3) k = some (11 + 19 + 1 * k) ∧ LC (11 + 19 + 1 * k) = (6, 0) by decide +kernel) k hk
  · exact (show ∀ k, k < 20 → SC (50 + 3) k = some (50 + 19 + 1 * k) ∧ LC (50 + 19 + 1 * k) = (6, 0) by decide +kernel) k hk
def m_X2_weighAnswers_L30 (k2 : Nat → Int32 → Hp → Option (Unit × Hp)) : Nat → Nat → Int32 → Int32 → Hp → Option (Unit × Hp)
  | 0, _, _, _, _ => none
  | n + 1, a0, a1, a2, h => if 5 ≤ a2 then vb (a1 + 1) fun v2 => k2 a0 v2 h else cb (m_X0_answerAs (a0 + 6) a2 h) fun _ h4 => ck (inb ((a1 * 5) + a2) 20) (cb (m_X2_weigh a0 (a0 + 6) (a0 + 19 + 1 * ((a1 * 5) + a2).toNatClampNeg) h4) fun _ h7 => vb (a2 + 1) fun v8 => m_X2_weighAnswers_L30 k2 n a0 a1 v8 h7)
set_option maxRecDepth 20000 in
set_option maxHeartbeats 4000000 in
theorem s_X2_weighAnswers_L30 (w : WT) {x : CT} {l : Launch} (hx : xl x = l) (hG : Gd x cX2_weighAnswers 3 RX2) (hE : Ge x (GC w)) (hR : Rm x 5) (hT : Rt x none) (k2 : Nat → Int32 → Hp → Option (Unit × Hp)) (hk2 : ∀ (a0 : Nat) (p0 : LC a0 = (3, 0)) (a1 : Int32) (h : Hp), Sn x 3 (gA (GC w)) (0, 0) (ζM x (GC w) inV) (gW (GC w) h) 2 [(0, .ref (gB (GC w) + a0)), (1, .int a1)] [] (k2 a0 a1 h)) : ∀ (n : Nat) (a0 : Nat) (p0 : LC a0 = (3, 0)) (a1 : Int32) (a2 : Int32) (h : Hp), Sn x 3 (gA (GC w)) (0, 0) (ζM x (GC w) inV) (gW (GC w) h) 30 [(0, .ref (gB (GC w) + a0)), (1, .int a1), (2, .int a2)] [] (m_X2_weighAnswers_L30 k2 n a0 a1 a2 h) := by
  intro n
  induction n with
  | zero => intro a0 p0 a1 a2 h; exact s_none
  | succ n ih =>
    intro a0 p0 a1 a2 h
    rw [m_X2_weighAnswers_L30]
    refine s_iload_n hG dX2_weighAnswers_30 2 rfl rfl ?_
    refine s_iconst hG dX2_weighAnswers_31 ic_5 ?_
    refine s_icmp_ge hG dX2_weighAnswers_32 (tgt := 67) (by decide) (fun q1 => ?_) (fun q1 => ?_)
    · refine s_iinc hG dX2_weighAnswers_67 1 rfl ic_1 (by decide) (fun v2 => [(1, .int v2), (0, .ref (gB (GC w) + a0)), (2, .int a2)]) (fun _ => rfl) (fun v2 => ?_)
      refine s_goto (tgt := 2) hG dX2_weighAnswers_70 (by decide) ?_
      refine s_lv [1, 0] rfl ?_
      exact hk2 a0 p0 v2 h
    · refine s_aload_n hG dX2_weighAnswers_35 0 rfl rfl ?_
      refine s_getS hG hE dX2_weighAnswers_36 fl_X2_34 rfl p0 ((fC_2_5 p0).1) (nzC ((fC_2_5 p0).2)) ?_
      refine s_iload_n hG dX2_weighAnswers_39 2 rfl rfl ?_
      refine s_callV (a := a0 + 6) (c := 0) (inj := inV) (As := [.int a2]) (st := []) rfl hG hE dX2_weighAnswers_40 hR (by decide) vv_X2_217 (by decide) rfl ((fC_2_5 p0).2) rfl (Nat.le_of_ble_eq_true rfl) rfl (fun zv zh zq => c_X0_answerAs w (xl x) (a0 + 6) ((fC_2_5 p0).2) a2 h zv zh zq) (fun v3 h4 => ?_)
      refine s_aload_n hG dX2_weighAnswers_43 0 rfl rfl ?_
      refine s_aload_n hG dX2_weighAnswers_44 0 rfl rfl ?_
      refine s_getS hG hE dX2_weighAnswers_45 fl_X2_34 rfl p0 ((fC_2_5 p0).1) (nzC ((fC_2_5 p0).2)) ?_
      refine s_aload_n hG dX2_weighAnswers_48 0 rfl rfl ?_
      refine s_getS hG hE dX2_weighAnswers_49 fl_X2_20 rfl p0 ((fC_2_2 p0).1) (nzC ((fC_2_2 p0).2)) ?_
      refine s_iload_n hG dX2_weighAnswers_52 1 rfl rfl ?_
      refine s_iconst hG dX2_weighAnswers_53 ic_5 ?_
      refine s_imul hG dX2_weighAnswers_54 ?_
      refine s_iload_n hG dX2_weighAnswers_55 2 rfl rfl ?_
      refine s_iadd hG dX2_weighAnswers_56 ?_
      refine s_ck (fun q5 => ?_)
      refine s_aaldS (j := 2) hG hE dX2_weighAnswers_57 (by decide) ((fC_2_2 p0).2) q5 ((eC_2_2 p0 q5).1) (nzC ((eC_2_2 p0 q5).2)) ?_
      refine s_callV (a := a0) (c := 2) (inj := inV) (As := [.ref (gB (GC w) + (a0 + 6)), .ref (gB (GC w) + (a0 + 19 + 1 * ((a1 * 5) + a2).toNatClampNeg))]) (st := []) rfl hG hE dX2_weighAnswers_58 hR (by decide) vv_X2_57 (by decide) rfl p0 rfl (Nat.le_of_ble_eq_true rfl) rfl (fun zv zh zq => c_X2_weigh w (xl x) a0 p0 (a0 + 6) ((fC_2_5 p0).2) (a0 + 19 + 1 * ((a1 * 5) + a2).toNatClampNeg) ((eC_2_2 p0 q5).2) h4 zv zh zq) (fun v6 h7 => ?_)
      refine s_iinc hG dX2_weighAnswers_61 2 rfl ic_1 (by decide) (fun v8 => [(2, .int v8), (0, .ref (gB (GC w) + a0)), (1, .int a1)]) (fun _ => rfl) (fun v8 => ?_)
      refine s_goto (tgt := 30) hG dX2_weighAnswers_64 (by decide) ?_
      refine s_lv [1, 2, 0] rfl ?_
      exact ih a0 p0 a1 v8 h7

def m_X2_weighAnswers_L2 : Nat → Nat → Int32 → Hp → Option (Unit × Hp)
  | 0, _, _, _ => none
  | n + 1, a0, a1, h => if (gi h a0 10) ≤ a1 then some ((), h) else if 4 ≤ a1 then some ((), h) else ck (inb a1 6) (cb (m_X0_copy (a0 + 6) (a0 + 8 + 2 * a1.toNatClampNeg) h) fun _ h5 => m_X2_weighAnswers_L30 (m_X2_weighAnswers_L2 n) FU a0 a1 0 h5)
set_option maxRecDepth 20000 in
set_option maxHeartbeats 4000000 in
theorem s_X2_weighAnswers_L2 (w : WT) {x : CT} {l : Launch} (hx : xl x = l) (hG : Gd x cX2_weighAnswers 3 RX2) (hE : Ge x (GC w)) (hR : Rm x 5) (hT : Rt x none) : ∀ (n : Nat) (a0 : Nat) (p0 : LC a0 = (3, 0)) (a1 : Int32) (h : Hp), Sn x 3 (gA (GC w)) (0, 0) (ζM x (GC w) inV) (gW (GC w) h) 2 [(0, .ref (gB (GC w) + a0)), (1, .int a1)] [] (m_X2_weighAnswers_L2 n a0 a1 h) := by
  intro n
  induction n with
  | zero => intro a0 p0 a1 h; exact s_none
  | succ n ih =>
    intro a0 p0 a1 h
    rw [m_X2_weighAnswers_L2]
    refine s_iload_n hG dX2_weighAnswers_2 1 rfl rfl ?_
    refine s_aload_n hG dX2_weighAnswers_3 0 rfl rfl ?_
    refine s_getI hG hE dX2_weighAnswers_4 fl_X2_50 rfl p0 ?_
    refine s_icmp_ge hG dX2_weighAnswers_7 (tgt := 73) (by decide) (fun q1 => ?_) (fun q1 => ?_)
    · exact s_vret hG hT dX2_weighAnswers_73
    · refine s_iload_n hG dX2_weighAnswers_10 1 rfl rfl ?_
      refine s_iconst hG dX2_weighAnswers_11 ic_4 ?_
      refine s_icmp_ge hG dX2_weighAnswers_12 (tgt := 73) (by decide) (fun q2 => ?_) (fun q2 => ?_)
      · exact s_vret hG hT dX2_weighAnswers_73
      · refine s_aload_n hG dX2_weighAnswers_15 0 rfl rfl ?_
        refine s_getS hG hE dX2_weighAnswers_16 fl_X2_34 rfl p0 ((fC_2_5 p0).1) (nzC ((fC_2_5 p0).2)) ?_
        refine s_aload_n hG dX2_weighAnswers_19 0 rfl rfl ?_
        refine s_getS hG hE dX2_weighAnswers_20 fl_X2_25 rfl p0 ((fC_2_3 p0).1) (nzC ((fC_2_3 p0).2)) ?_
        refine s_iload_n hG dX2_weighAnswers_23 1 rfl rfl ?_
        refine s_ck (fun q3 => ?_)
        refine s_aaldS (j := 0) hG hE dX2_weighAnswers_24 (by decide) ((fC_2_3 p0).2) q3 ((eC_2_3 p0 q3).1) (nzC ((eC_2_3 p0 q3).2)) ?_
        refine s_callV (a := a0 + 6) (c := 0) (inj := inV) (As := [.ref (gB (GC w) + (a0 + 8 + 2 * a1.toNatClampNeg))]) (st := []) rfl hG hE dX2_weighAnswers_25 hR (by decide) vv_X2_53 (by decide) rfl ((fC_2_5 p0).2) rfl (Nat.le_of_ble_eq_true rfl) rfl (fun zv zh zq => c_X0_copy w (xl x) (a0 + 6) ((fC_2_5 p0).2) (a0 + 8 + 2 * a1.toNatClampNeg) ((eC_2_3 p0 q3).2) h zv zh zq) (fun v4 h5 => ?_)
        refine s_iconst hG dX2_weighAnswers_28 ic_0 ?_
        refine s_istore_n (lv' := [(2, .int 0), (0, .ref (gB (GC w) + a0)), (1, .int a1)]) hG dX2_weighAnswers_29 rfl (by decide) rfl ?_
        refine s_lv [1, 2, 0] rfl ?_
        exact s_X2_weighAnswers_L30 w hx hG hE hR hT (m_X2_weighAnswers_L2 n) ih FU a0 p0 a1 0 h5

def m_X2_weighAnswers (a0 : Nat) (h : Hp) : Option (Unit × Hp) := m_X2_weighAnswers_L2 FU a0 0 h
set_option maxRecDepth 20000 in
set_option maxHeartbeats 4000000 in
theorem s_X2_weighAnswers (w : WT) {x : CT} {l : Launch} (hx : xl x = l) (hG : Gd x cX2_weighAnswers 3 RX2) (hE : Ge x (GC w)) (hR : Rm x 5) (hT : Rt x none) (a0 : Nat) (p0 : LC a0 = (3, 0)) (h : Hp) : Sn x 3 (gA (GC w)) (0, 0) (ζM x (GC w) inV) (gW (GC w) h) 0 [(0, .ref (gB (GC w) + a0))] [] (m_X2_weighAnswers a0 h) := by
  unfold m_X2_weighAnswers
  refine s_iconst hG dX2_weighAnswers_0 ic_0 ?_
  refine s_istore_n (lv' := [(1, .int 0), (0, .ref (gB (GC w) + a0))]) hG dX2_weighAnswers_1 rfl (by decide) rfl ?_
  refine s_lv [1, 0] rfl ?_
  exact s_X2_weighAnswers_L2 w hx hG hE hR hT FU a0 p0 0 h

theorem c_X2_weighAnswers (w : WT) (l : Launch) (a0 : Nat) (p0 : LC a0 = (3, 0)) (h : Hp) : ∀ v h', m_X2_weighAnswers a0 h = some (v, h') → MetM l (GC w) yX2_weighAnswers cX2_weighAnswers 3 none 5 [.ref (gB (GC w) + a0)] h (inV v) h' :=
  met_of (by decide) (lokC w) (Nat.le_of_ble_eq_true rfl) (fun x hx hG hE hR hT => s_X2_weighAnswers w hx hG hE hR hT a0 p0 h)
def m_X2_rowCount_L4 : Nat → Nat → Int32 → Int32 → Hp → Option (Int32 × Hp)
  | 0, _, _, _, _ => none
  | n + 1, a0, a1, a2, h => if (gi h a0 10) ≤ a2 then some (a1, h) else if 4 ≤ a2 then some (a1, h) else vb (a1 * 5) fun v3 => vb (a2 + 1) fun v4 => m_X2_rowCount_L4 n a0 v3 v4 h
set_option maxRecDepth 20000 in
set_option maxHeartbeats 4000000 in
theorem s_X2_rowCount_L4 (w : WT) {x : CT} {l : Launch} (hx : xl x = l) (hG : Gd x cX2_rowCount 3 RX2) (hE : Ge x (GC w)) (hR : Rm x 1) (hT : Rt x (some .int)) : ∀ (n : Nat) (a0 : Nat) (p0 : LC a0 = (3, 0)) (a1 : Int32) (a2 : Int32) (h : Hp), Sn x 3 (gA (GC w)) (0, 0) (ζM x (GC w) inI) (gW (GC w) h) 4 [(0, .ref (gB (GC w) + a0)), (1, .int a1), (2, .int a2)] [] (m_X2_rowCount_L4 n a0 a1 a2 h) := by
  intro n
  induction n with
  | zero => intro a0 p0 a1 a2 h; exact s_none
  | succ n ih =>
    intro a0 p0 a1 a2 h
    rw [m_X2_rowCount_L4]
    refine s_iload_n hG dX2_rowCount_4 2 rfl rfl ?_
    refine s_aload_n hG dX2_rowCount_5 0 rfl rfl ?_
    refine s_getI hG hE dX2_rowCount_6 fl_X2_50 rfl p0 ?_
    refine s_icmp_ge hG dX2_rowCount_9 (tgt := 27) (by decide) (fun q1 => ?_) (fun q1 => ?_)
    · refine s_iload_n hG dX2_rowCount_27 1 rfl rfl ?_
      exact s_iret hG hT dX2_rowCount_28
    · refine s_iload_n hG dX2_rowCount_12 2 rfl rfl ?_
      refine s_iconst hG dX2_rowCount_13 ic_4 ?_
      refine s_icmp_ge hG dX2_rowCount_14 (tgt := 27) (by decide) (fun q2 => ?_) (fun q2 => ?_)
      · refine s_iload_n hG dX2_rowCount_27 1 rfl rfl ?_
        exact s_iret hG hT dX2_rowCount_28
      · refine s_iload_n hG dX2_rowCount_17 1 rfl rfl ?_
        refine s_iconst hG dX2_rowCount_18 ic_5 ?_
        refine s_imul hG dX2_rowCount_19 ?_
        refine s_vI (fun v3 => ?_)
        refine s_istore_n (lv' := [(1, .int v3), (0, .ref (gB (GC w) + a0)), (2, .int a2)]) hG dX2_rowCount_20 rfl (by decide) rfl ?_
        refine s_iinc hG dX2_rowCount_21 2 rfl ic_1 (by decide) (fun v4 => [(2, .int v4), (1, .int v3), (0, .ref (gB (GC w) + a0))]) (fun _ => rfl) (fun v4 => ?_)
        refine s_goto (tgt := 4) hG dX2_rowCount_24 (by decide) ?_
        refine s_lv [2, 1, 0] rfl ?_
        exact ih a0 p0 v3 v4 h

def m_X2_rowCount (a0 : Nat) (h : Hp) : Option (Int32 × Hp) := m_X2_rowCount_L4 FU a0 1 0 h
set_option maxRecDepth 20000 in
set_option maxHeartbeats 4000000 in
theorem s_X2_rowCount (w : WT) {x : CT} {l : Launch} (hx : xl x = l) (hG : Gd x cX2_rowCount 3 RX2) (hE : Ge x (GC w)) (hR : Rm x 1) (hT : Rt x (some .int)) (a0 : Nat) (p0 : LC a0 = (3, 0)) (h : Hp) : Sn x 3 (gA (GC w)) (0, 0) (ζM x (GC w) inI) (gW (GC w) h) 0 [(0, .ref (gB (GC w) + a0))] [] (m_X2_rowCount a0 h) := by
  unfold m_X2_rowCount
  refine s_iconst hG dX2_rowCount_0 ic_1 ?_
  refine s_istore_n (lv' := [(1, .int 1), (0, .ref (gB (GC w) + a0))]) hG dX2_rowCount_1 rfl (by decide) rfl ?_
  refine s_iconst hG dX2_rowCount_2 ic_0 ?_
  refine s_istore_n (lv' := [(2, .int 0), (1, .int 1), (0, .ref (gB (GC w) + a0))]) hG dX2_rowCount_3 rfl (by decide) rfl ?_
  refine s_lv [2, 1, 0] rfl ?_
  exact s_X2_rowCount_L4 w hx hG hE hR hT FU a0 p0 1 0 h

theorem c_X2_rowCount (w : WT) (l : Launch) (a0 : Nat) (p0 : LC a0 = (3, 0)) (h : Hp) : ∀ v h', m_X2_rowCount a0 h = some (v, h') → MetM l (GC w) yX2_rowCount cX2_rowCount 3 (some .int) 1 [.ref (gB (GC w) + a0)] h (inI v) h' :=
  met_of (by decide) (lokC w) (Nat.le_of_ble_eq_true rfl) (fun x hx hG hE hR hT => s_X2_rowCount w hx hG hE hR hT a0 p0 h)
theorem vv_X2_91 : VV RX2 91 yX2_settle cX2_settle 3 none 0 := ⟨⟨gw_at 916 (by decide +kernel) (by decide +kernel), gw_at 778 (by decide +kernel) (by decide +kernel), gw_at 89 (by decide +kernel) (by decide +kernel), by decide +kernel, by decide⟩, gw_at 776 (by decide +kernel) (by decide +kernel), gw_at 777 (by decide +kernel) (by decide +kernel)⟩
theorem wd_915 : Cond.methodLink RX2 85 Lib.Math.min.name ∈ GW := gw_at 915 (by decide +kernel) (by decide +kernel)
def m_X2_answerBy_L13 : Nat → Nat → Int32 → Int32 → Hp → Option (Unit × Hp)
  | 0, _, _, _, _ => none
  | n + 1, a0, a2, a3, h => if a3 < 0 then cb (m_X2_settle a0 h) fun _ h3 => some ((), h3) else ck (inb ((a3 * 5) + (a2 - a2 / 5 * 5)) 20) (ck (inb a3 6) (hb (sr h (a0 + 1) a3.toNatClampNeg (a0 + 19 + 1 * ((a3 * 5) + (a2 - a2 / 5 * 5)).toNatClampNeg)) fun h6 => vb (a2 / 5) fun v7 => vb (a3 + (-1)) fun v8 => m_X2_answerBy_L13 n a0 v7 v8 h6))
set_option maxRecDepth 20000 in
set_option maxHeartbeats 4000000 in
theorem s_X2_answerBy_L13 (w : WT) {x : CT} {l : Launch} (hx : xl x = l) (hG : Gd x cX2_answerBy 4 RX2) (hE : Ge x (GC w)) (hR : Rm x 3) (hT : Rt x none) : ∀ (n : Nat) (a0 : Nat) (p0 : LC a0 = (3, 0)) (a2 : Int32) (a3 : Int32) (h : Hp), Sn x 4 (gA (GC w)) (0, 0) (ζM x (GC w) inV) (gW (GC w) h) 13 [(0, .ref (gB (GC w) + a0)), (2, .int a2), (3, .int a3)] [] (m_X2_answerBy_L13 n a0 a2 a3 h) := by
  intro n
  induction n with
  | zero => intro a0 p0 a2 a3 h; exact s_none
  | succ n ih =>
    intro a0 p0 a2 a3 h
    rw [m_X2_answerBy_L13]
    refine s_iload_n hG dX2_answerBy_13 2 rfl rfl ?_
    refine s_if_lt hG dX2_answerBy_14 (tgt := 45) (by decide) (fun q1 => ?_) (fun q1 => ?_)
    · refine s_aload_n hG dX2_answerBy_45 0 rfl rfl ?_
      refine s_callV (a := a0) (c := 2) (inj := inV) (As := []) (st := []) rfl hG hE dX2_answerBy_46 hR (by decide) vv_X2_91 (by decide) rfl p0 rfl (Nat.le_of_ble_eq_true rfl) rfl (fun zv zh zq => c_X2_settle w (xl x) a0 p0 h zv zh zq) (fun v2 h3 => ?_)
      exact s_vret hG hT dX2_answerBy_49
    · refine s_aload_n hG dX2_answerBy_17 0 rfl rfl ?_
      refine s_getS hG hE dX2_answerBy_18 fl_X2_11 rfl p0 ((fC_2_0 p0).1) (nzC ((fC_2_0 p0).2)) ?_
      refine s_iload_n hG dX2_answerBy_21 2 rfl rfl ?_
      refine s_aload_n hG dX2_answerBy_22 0 rfl rfl ?_
      refine s_getS hG hE dX2_answerBy_23 fl_X2_20 rfl p0 ((fC_2_2 p0).1) (nzC ((fC_2_2 p0).2)) ?_
      refine s_iload_n hG dX2_answerBy_26 2 rfl rfl ?_
      refine s_iconst hG dX2_answerBy_27 ic_5 ?_
      refine s_imul hG dX2_answerBy_28 ?_
      refine s_iload_n hG dX2_answerBy_29 1 rfl rfl ?_
      refine s_iconst hG dX2_answerBy_30 ic_5 ?_
      refine s_irem hG dX2_answerBy_31 (by decide) ?_
      refine s_iadd hG dX2_answerBy_32 ?_
      refine s_ck (fun q4 => ?_)
      refine s_aaldS (j := 2) hG hE dX2_answerBy_33 (by decide) ((fC_2_2 p0).2) q4 ((eC_2_2 p0 q4).1) (nzC ((eC_2_2 p0 q4).2)) ?_
      refine s_ck (fun q5 => ?_)
      refine s_aast (j := 2) hG hE dX2_answerBy_34 (by decide) ((fC_2_0 p0).2) q5 ((eC_2_2 p0 q4).2) (nseC_2_0 p0 q5) (fun h6 => ?_)
      refine s_iload_n hG dX2_answerBy_35 1 rfl rfl ?_
      refine s_iconst hG dX2_answerBy_36 ic_5 ?_
      refine s_idiv hG dX2_answerBy_37 (by decide) ?_
      refine s_vI (fun v7 => ?_)
      refine s_istore_n (lv' := [(2, .int v7), (0, .ref (gB (GC w) + a0)), (3, .int a3)]) hG dX2_answerBy_38 rfl (by decide) rfl ?_
      refine s_iinc hG dX2_answerBy_39 2 rfl ic_m1 (by decide) (fun v8 => [(3, .int v8), (2, .int v7), (0, .ref (gB (GC w) + a0))]) (fun _ => rfl) (fun v8 => ?_)
      refine s_goto (tgt := 13) hG dX2_answerBy_42 (by decide) ?_
      refine s_lv [2, 1, 0] rfl ?_
      exact ih a0 p0 v7 v8 h6

def m_X2_answerBy (a0 : Nat) (a1 : Int32) (h : Hp) : Option (Unit × Hp) := vb ((if 4 < (gi h a0 10) then 4 else (gi h a0 10)) - 1) fun v1 => m_X2_answerBy_L13 FU a0 a1 v1 h
set_option maxRecDepth 20000 in
set_option maxHeartbeats 4000000 in
theorem s_X2_answerBy (w : WT) {x : CT} {l : Launch} (hx : xl x = l) (hG : Gd x cX2_answerBy 4 RX2) (hE : Ge x (GC w)) (hR : Rm x 3) (hT : Rt x none) (a0 : Nat) (p0 : LC a0 = (3, 0)) (a1 : Int32) (h : Hp) : Sn x 4 (gA (GC w)) (0, 0) (ζM x (GC w) inV) (gW (GC w) h) 0 [(0, .ref (gB (GC w) + a0)), (1, .int a1)] [] (m_X2_answerBy a0 a1 h) := by
  unfold m_X2_answerBy
  refine s_iload_n hG dX2_answerBy_0 1 rfl rfl ?_
  refine s_istore_n (lv' := [(2, .int a1), (0, .ref (gB (GC w) + a0)), (1, .int a1)]) hG dX2_answerBy_1 rfl (by decide) rfl ?_
  refine s_aload_n hG dX2_answerBy_2 1 rfl rfl ?_
  refine s_getI hG hE dX2_answerBy_3 fl_X2_50 rfl p0 ?_
  refine s_iconst hG dX2_answerBy_6 ic_4 ?_
  refine s_mmin hG hR (by decide) dX2_answerBy_7 wd_915 wd_659 wd_101 wd_660 (Nat.le_of_ble_eq_true rfl) ?_
  refine s_iconst hG dX2_answerBy_10 ic_1 ?_
  refine s_isub hG dX2_answerBy_11 ?_
  refine s_vI (fun v1 => ?_)
  refine s_istore_n (lv' := [(3, .int v1), (2, .int a1), (0, .ref (gB (GC w) + a0)), (1, .int a1)]) hG dX2_answerBy_12 rfl (by decide) rfl ?_
  refine s_lv [2, 1, 0] rfl ?_
  exact s_X2_answerBy_L13 w hx hG hE hR hT FU a0 p0 a1 v1 h

theorem c_X2_answerBy (w : WT) (l : Launch) (a0 : Nat) (p0 : LC a0 = (3, 0)) (a1 : Int32) (h : Hp) : ∀ v h', m_X2_answerBy a0 a1 h = some (v, h') → MetM l (GC w) yX2_answerBy cX2_answerBy 4 none 3 [.ref (gB (GC w) + a0), .int a1] h (inV v) h' :=
  met_of (by decide) (lokC w) (Nat.le_of_ble_eq_true rfl) (fun x hx hG hE hR hT => s_X2_answerBy w hx hG hE hR hT a0 p0 a1 h)
def m_X2_oathsOfDefendant_L4 : Nat → Nat → Int32 → Int32 → Hp → Option (Int32 × Hp)
  | 0, _, _, _, _ => none
  | n + 1, a0, a1, a2, h => if (gi h a0 10) ≤ a2 then some (a1, h) else ck (inb a2 6) (ck (kC 5 (gr h (a0 + 1) a2.toNatClampNeg)) (cb (m_X5_hasOath (gr h (a0 + 1) a2.toNatClampNeg) h) fun v4 h5 => if v4 = 0 then vb (a2 + 1) fun v7 => m_X2_oathsOfDefendant_L4 n a0 a1 v7 h5 else ck (kC 5 (gr h5 (a0 + 1) a2.toNatClampNeg)) (if (gi h5 (gr h5 (a0 + 1) a2.toNatClampNeg) 13) = 0 then vb (a1 + 1) fun v11 => vb (a2 + 1) fun v12 => m_X2_oathsOfDefendant_L4 n a0 v11 v12 h5 else vb (a2 + 1) fun v10 => m_X2_oathsOfDefendant_L4 n a0 a1 v10 h5)))
set_option maxRecDepth 20000 in
set_option maxHeartbeats 4000000 in
theorem s_X2_oathsOfDefendant_L4 (w : WT) {x : CT} {l : Launch} (hx : xl x = l) (hG : Gd x cX2_oathsOfDefendant 3 RX2) (hE : Ge x (GC w)) (hR : Rm x 2) (hT : Rt x (some .int)) : ∀ (n : Nat) (a0 : Nat) (p0 : LC a0 = (3, 0)) (a1 : Int32) (a2 : Int32) (h : Hp), Sn x 3 (gA (GC w)) (0, 0) (ζM x (GC w) inI) (gW (GC w) h) 4 [(0, .ref (gB (GC w) + a0)), (1, .int a1), (2, .int a2)] [] (m_X2_oathsOfDefendant_L4 n a0 a1 a2 h) := by
  intro n
  induction n with
  | zero => intro a0 p0 a1 a2 h; exact s_none
  | succ n ih =>
    intro a0 p0 a1 a2 h
    rw [m_X2_oathsOfDefendant_L4]
    refine s_iload_n hG dX2_oathsOfDefendant_4 2 rfl rfl ?_
    refine s_aload_n hG dX2_oathsOfDefendant_5 0 rfl rfl ?_
    refine s_getI hG hE dX2_oathsOfDefendant_6 fl_X2_50 rfl p0 ?_
    refine s_icmp_ge hG dX2_oathsOfDefendant_9 (tgt := 45) (by decide) (fun q1 => ?_) (fun q1 => ?_)
    · refine s_iload_n hG dX2_oathsOfDefendant_45 1 rfl rfl ?_
      exact s_iret hG hT dX2_oathsOfDefendant_46
    · refine s_aload_n hG dX2_oathsOfDefendant_12 0 rfl rfl ?_
      refine s_getS hG hE dX2_oathsOfDefendant_13 fl_X2_11 rfl p0 ((fC_2_0 p0).1) (nzC ((fC_2_0 p0).2)) ?_
      refine s_iload_n hG dX2_oathsOfDefendant_16 2 rfl rfl ?_
      refine s_ck (fun q2 => ?_)
      refine s_aald (j := 2) hG hE dX2_oathsOfDefendant_17 (by decide) ((fC_2_0 p0).2) q2 ?_
      refine s_ck (fun q3 => ?_)
      refine s_nn (nzC (kC_of q3)) ?_
      refine s_callV (a := gr h (a0 + 1) a2.toNatClampNeg) (c := 5) (inj := inI) (As := []) (st := []) rfl hG hE dX2_oathsOfDefendant_18 hR (by decide) vv_X2_159 (by decide) rfl (kC_of q3) rfl (Nat.le_of_ble_eq_true rfl) rfl (fun zv zh zq => c_X5_hasOath w (xl x) (gr h (a0 + 1) a2.toNatClampNeg) (kC_of q3) h zv zh zq) (fun v4 h5 => ?_)
      refine s_if_eq hG dX2_oathsOfDefendant_21 (tgt := 39) (by decide) (fun q6 => ?_) (fun q6 => ?_)
      · refine s_iinc hG dX2_oathsOfDefendant_39 2 rfl ic_1 (by decide) (fun v7 => [(2, .int v7), (0, .ref (gB (GC w) + a0)), (1, .int a1)]) (fun _ => rfl) (fun v7 => ?_)
        refine s_goto (tgt := 4) hG dX2_oathsOfDefendant_42 (by decide) ?_
        refine s_lv [1, 2, 0] rfl ?_
        exact ih a0 p0 a1 v7 h5
      · refine s_aload_n hG dX2_oathsOfDefendant_24 0 rfl rfl ?_
        refine s_getS hG hE dX2_oathsOfDefendant_25 fl_X2_11 rfl p0 ((fC_2_0 p0).1) (nzC ((fC_2_0 p0).2)) ?_
        refine s_iload_n hG dX2_oathsOfDefendant_28 2 rfl rfl ?_
        refine s_aald (j := 2) hG hE dX2_oathsOfDefendant_29 (by decide) ((fC_2_0 p0).2) q2 ?_
        refine s_ck (fun q8 => ?_)
        refine s_nn (nzC (kC_of q8)) ?_
        refine s_getI hG hE dX2_oathsOfDefendant_30 fl_X2_166 rfl (kC_of q8) ?_
        refine s_if_ne hG dX2_oathsOfDefendant_33 (tgt := 39) (by decide) (fun q9 => ?_) (fun q9 => ?_)
        · refine s_iinc hG dX2_oathsOfDefendant_36 1 rfl ic_1 (by decide) (fun v11 => [(1, .int v11), (0, .ref (gB (GC w) + a0)), (2, .int a2)]) (fun _ => rfl) (fun v11 => ?_)
          refine s_iinc hG dX2_oathsOfDefendant_39 2 rfl ic_1 (by decide) (fun v12 => [(2, .int v12), (1, .int v11), (0, .ref (gB (GC w) + a0))]) (fun _ => rfl) (fun v12 => ?_)
          refine s_goto (tgt := 4) hG dX2_oathsOfDefendant_42 (by decide) ?_
          refine s_lv [2, 1, 0] rfl ?_
          exact ih a0 p0 v11 v12 h5
        · refine s_iinc hG dX2_oathsOfDefendant_39 2 rfl ic_1 (by decide) (fun v10 => [(2, .int v10), (0, .ref (gB (GC w) + a0)), (1, .int a1)]) (fun _ => rfl) (fun v10 => ?_)
          refine s_goto (tgt := 4) hG dX2_oathsOfDefendant_42 (by decide) ?_
          refine s_lv [1, 2, 0] rfl ?_
          exact ih a0 p0 a1 v10 h5

def m_X2_oathsOfDefendant (a0 : Nat) (h : Hp) : Option (Int32 × Hp) := m_X2_oathsOfDefendant_L4 FU a0 0 0 h
set_option maxRecDepth 20000 in
set_option maxHeartbeats 4000000 in
theorem s_X2_oathsOfDefendant (w : WT) {x : CT} {l : Launch} (hx : xl x = l) (hG : Gd x cX2_oathsOfDefendant 3 RX2) (hE : Ge x (GC w)) (hR : Rm x 2) (hT : Rt x (some .int)) (a0 : Nat) (p0 : LC a0 = (3, 0)) (h : Hp) : Sn x 3 (gA (GC w)) (0, 0) (ζM x (GC w) inI) (gW (GC w) h) 0 [(0, .ref (gB (GC w) + a0))] [] (m_X2_oathsOfDefendant a0 h) := by
  unfold m_X2_oathsOfDefendant
  refine s_iconst hG dX2_oathsOfDefendant_0 ic_0 ?_
  refine s_istore_n (lv' := [(1, .int 0), (0, .ref (gB (GC w) + a0))]) hG dX2_oathsOfDefendant_1 rfl (by decide) rfl ?_
  refine s_iconst hG dX2_oathsOfDefendant_2 ic_0 ?_
  refine s_istore_n (lv' := [(2, .int 0), (1, .int 0), (0, .ref (gB (GC w) + a0))]) hG dX2_oathsOfDefendant_3 rfl (by decide) rfl ?_
  refine s_lv [2, 1, 0] rfl ?_
  exact s_X2_oathsOfDefendant_L4 w hx hG hE hR hT FU a0 p0 0 0 h

theorem c_X2_oathsOfDefendant (w : WT) (l : Launch) (a0 : Nat) (p0 : LC a0 = (3, 0)) (h : Hp) : ∀ v h', m_X2_oathsOfDefendant a0 h = some (v, h') → MetM l (GC w) yX2_oathsOfDefendant cX2_oathsOfDefendant 3 (some .int) 2 [.ref (gB (GC w) + a0)] h (inI v) h' :=
  met_of (by decide) (lokC w) (Nat.le_of_ble_eq_true rfl) (fun x hx hG hE hR hT => s_X2_oathsOfDefendant w hx hG hE hR hT a0 p0 h)
theorem fl_X2_211 : FL RX2 211 2 11 := ⟨by decide, by decide, gw_at 271 (by decide +kernel) (by decide +kernel), rfl⟩
theorem fl_X2_204 : FL RX2 204 2 13 := ⟨by decide, by decide, gw_at 274 (by decide +kernel) (by decide +kernel), rfl⟩
theorem fl_X2_208 : FL RX2 208 2 12 := ⟨by decide, by decide, gw_at 273 (by decide +kernel) (by decide +kernel), rfl⟩
theorem vv_X2_194 : VV RX2 194 yX2_answerBy cX2_answerBy 4 none 1 := ⟨⟨gw_at 911 (by decide +kernel) (by decide +kernel), gw_at 914 (by decide +kernel) (by decide +kernel), gw_at 89 (by decide +kernel) (by decide +kernel), by decide +kernel, by decide⟩, gw_at 913 (by decide +kernel) (by decide +kernel), gw_at 23 (by decide +kernel) (by decide +kernel)⟩
theorem vv_X2_198 : VV RX2 198 yX2_paidInTruth cX2_paidInTruth 5 (some .long) 0 := ⟨⟨gw_at 917 (by decide +kernel) (by decide +kernel), gw_at 854 (by decide +kernel) (by decide +kernel), gw_at 89 (by decide +kernel) (by decide +kernel), by decide +kernel, by decide⟩, gw_at 852 (by decide +kernel) (by decide +kernel), gw_at 853 (by decide +kernel) (by decide +kernel)⟩
theorem vv_X2_201 : VV RX2 201 yX2_oathsOfDefendant cX2_oathsOfDefendant 3 (some .int) 0 := ⟨⟨gw_at 918 (by decide +kernel) (by decide +kernel), gw_at 921 (by decide +kernel) (by decide +kernel), gw_at 89 (by decide +kernel) (by decide +kernel), by decide +kernel, by decide⟩, gw_at 920 (by decide +kernel) (by decide +kernel), gw_at 24 (by decide +kernel) (by decide +kernel)⟩
theorem vv_X2_187 : VV RX2 187 yX2_weighAnswers cX2_weighAnswers 3 none 0 := ⟨⟨gw_at 898 (by decide +kernel) (by decide +kernel), gw_at 901 (by decide +kernel) (by decide +kernel), gw_at 89 (by decide +kernel) (by decide +kernel), by decide +kernel, by decide⟩, gw_at 900 (by decide +kernel) (by decide +kernel), gw_at 21 (by decide +kernel) (by decide +kernel)⟩
theorem vv_X2_190 : VV RX2 190 yX2_rowCount cX2_rowCount 3 (some .int) 0 := ⟨⟨gw_at 907 (by decide +kernel) (by decide +kernel), gw_at 910 (by decide +kernel) (by decide +kernel), gw_at 89 (by decide +kernel) (by decide +kernel), by decide +kernel, by decide⟩, gw_at 909 (by decide +kernel) (by decide +kernel), gw_at 22 (by decide +kernel) (by decide +kernel)⟩
def m_X2_seekBest_L63 (k11 : Nat → Int32 → Int32 → Hp → Option (Unit × Hp)) (a0 : Nat) (a1 : Int32) (a2 : Int32) (a3 : Int64) (a5 : Int32) (h : Hp) : Option (Unit × Hp) := hb (si h a0 11 a2) fun h1 => hb (sl h1 a0 13 a3) fun h2 => hb (si h2 a0 12 a5) fun h3 => vb (a2 + 1) fun v4 => k11 a0 a1 v4 h3
set_option maxRecDepth 20000 in
set_option maxHeartbeats 4000000 in
theorem s_X2_seekBest_L63 (w : WT) {x : CT} {l : Launch} (hx : xl x = l) (hG : Gd x cX2_seekBest 6 RX2) (hE : Ge x (GC w)) (hR : Rm x 6) (hT : Rt x none) (k11 : Nat → Int32 → Int32 → Hp → Option (Unit × Hp)) (hk11 : ∀ (a0 : Nat) (p0 : LC a0 = (3, 0)) (a1 : Int32) (a2 : Int32) (h : Hp), Sn x 6 (gA (GC w)) (0, 0) (ζM x (GC w) inV) (gW (GC w) h) 11 [(0, .ref (gB (GC w) + a0)), (1, .int a1), (2, .int a2)] [] (k11 a0 a1 a2 h)) (a0 : Nat) (p0 : LC a0 = (3, 0)) (a1 : Int32) (a2 : Int32) (a3 : Int64) (a5 : Int32) (h : Hp) : Sn x 6 (gA (GC w)) (0, 0) (ζM x (GC w) inV) (gW (GC w) h) 63 [(0, .ref (gB (GC w) + a0)), (1, .int a1), (2, .int a2), (3, .long a3), (5, .int a5)] [] (m_X2_seekBest_L63 k11 a0 a1 a2 a3 a5 h) := by
  unfold m_X2_seekBest_L63
  refine s_aload_n hG dX2_seekBest_63 0 rfl rfl ?_
  refine s_iload_n hG dX2_seekBest_64 2 rfl rfl ?_
  refine s_putI hG hE dX2_seekBest_65 fl_X2_211 rfl rfl p0 (fun h1 => ?_)
  refine s_aload_n hG dX2_seekBest_68 0 rfl rfl ?_
  refine s_lload_n hG dX2_seekBest_69 3 rfl rfl ?_
  refine s_putL hG hE dX2_seekBest_70 fl_X2_204 rfl rfl p0 (fun h2 => ?_)
  refine s_aload_n hG dX2_seekBest_73 0 rfl rfl ?_
  refine s_iload hG dX2_seekBest_74 4 rfl ?_
  refine s_putI hG hE dX2_seekBest_76 fl_X2_208 rfl rfl p0 (fun h3 => ?_)
  refine s_iinc hG dX2_seekBest_79 2 rfl ic_1 (by decide) (fun v4 => [(2, .int v4), (0, .ref (gB (GC w) + a0)), (1, .int a1), (3, .long a3), (5, .int a5)]) (fun _ => rfl) (fun v4 => ?_)
  refine s_goto (tgt := 11) hG dX2_seekBest_82 (by decide) ?_
  refine s_lv [1, 2, 0] rfl ?_
  exact hk11 a0 p0 a1 v4 h3

def m_X2_seekBest_L11 : Nat → Nat → Int32 → Int32 → Hp → Option (Unit × Hp)
  | 0, _, _, _, _ => none
  | n + 1, a0, a1, a2, h => if a1 ≤ a2 then some ((), h) else cb (m_X2_answerBy a0 a2 h) fun _ h3 => cb (m_X2_paidInTruth a0 h3) fun v4 h5 => cb (m_X2_oathsOfDefendant a0 h5) fun v6 h7 => if a2 = 0 then m_X2_seekBest_L63 (m_X2_seekBest_L11 n) a0 a1 a2 v4 v6 h7 else if v4 < (gl h7 a0 13) then m_X2_seekBest_L63 (m_X2_seekBest_L11 n) a0 a1 a2 v4 v6 h7 else if v4 = (gl h7 a0 13) then if (gi h7 a0 12) ≤ v6 then vb (a2 + 1) fun v13 => m_X2_seekBest_L11 n a0 a1 v13 h7 else m_X2_seekBest_L63 (m_X2_seekBest_L11 n) a0 a1 a2 v4 v6 h7 else vb (a2 + 1) fun v11 => m_X2_seekBest_L11 n a0 a1 v11 h7
set_option maxRecDepth 20000 in
set_option maxHeartbeats 4000000 in
theorem s_X2_seekBest_L11 (w : WT) {x : CT} {l : Launch} (hx : xl x = l) (hG : Gd x cX2_seekBest 6 RX2) (hE : Ge x (GC w)) (hR : Rm x 6) (hT : Rt x none) : ∀ (n : Nat) (a0 : Nat) (p0 : LC a0 = (3, 0)) (a1 : Int32) (a2 : Int32) (h : Hp), Sn x 6 (gA (GC w)) (0, 0) (ζM x (GC w) inV) (gW (GC w) h) 11 [(0, .ref (gB (GC w) + a0)), (1, .int a1), (2, .int a2)] [] (m_X2_seekBest_L11 n a0 a1 a2 h) := by
  intro n
  induction n with
  | zero => intro a0 p0 a1 a2 h; exact s_none
  | succ n ih =>
    intro a0 p0 a1 a2 h
    rw [m_X2_seekBest_L11]
    refine s_iload_n hG dX2_seekBest_11 2 rfl rfl ?_
    refine s_iload_n hG dX2_seekBest_12 1 rfl rfl ?_
    refine s_icmp_ge hG dX2_seekBest_13 (tgt := 85) (by decide) (fun q1 => ?_) (fun q1 => ?_)
    · exact s_vret hG hT dX2_seekBest_85
    · refine s_aload_n hG dX2_seekBest_16 0 rfl rfl ?_
      refine s_iload_n hG dX2_seekBest_17 2 rfl rfl ?_
      refine s_callV (a := a0) (c := 2) (inj := inV) (As := [.int a2]) (st := []) rfl hG hE dX2_seekBest_18 hR (by decide) vv_X2_194 (by decide) rfl p0 rfl (Nat.le_of_ble_eq_true rfl) rfl (fun zv zh zq => c_X2_answerBy w (xl x) a0 p0 a2 h zv zh zq) (fun v2 h3 => ?_)
      refine s_aload_n hG dX2_seekBest_21 0 rfl rfl ?_
      refine s_callV (a := a0) (c := 2) (inj := inL) (As := []) (st := []) rfl hG hE dX2_seekBest_22 hR (by decide) vv_X2_198 (by decide) rfl p0 rfl (Nat.le_of_ble_eq_true rfl) rfl (fun zv zh zq => c_X2_paidInTruth w (xl x) a0 p0 h3 zv zh zq) (fun v4 h5 => ?_)
      refine s_lstore_n (lv' := [(3, .long v4), (0, .ref (gB (GC w) + a0)), (1, .int a1), (2, .int a2)]) hG dX2_seekBest_25 rfl (by decide) rfl ?_
      refine s_aload_n hG dX2_seekBest_26 1 rfl rfl ?_
      refine s_callV (a := a0) (c := 2) (inj := inI) (As := []) (st := []) rfl hG hE dX2_seekBest_27 hR (by decide) vv_X2_201 (by decide) rfl p0 rfl (Nat.le_of_ble_eq_true rfl) rfl (fun zv zh zq => c_X2_oathsOfDefendant w (xl x) a0 p0 h5 zv zh zq) (fun v6 h7 => ?_)
      refine s_istore (lv' := [(5, .int v6), (3, .long v4), (0, .ref (gB (GC w) + a0)), (1, .int a1), (2, .int a2)]) hG dX2_seekBest_30 (by decide) rfl ?_
      refine s_iload_n hG dX2_seekBest_32 4 rfl rfl ?_
      refine s_if_eq hG dX2_seekBest_33 (tgt := 63) (by decide) (fun q8 => ?_) (fun q8 => ?_)
      · refine s_lv [2, 3, 4, 1, 0] rfl ?_
        exact s_X2_seekBest_L63 w hx hG hE hR hT (m_X2_seekBest_L11 n) ih a0 p0 a1 a2 v4 v6 h7
      · refine s_lload_n hG dX2_seekBest_36 1 rfl rfl ?_
        refine s_aload_n hG dX2_seekBest_37 2 rfl rfl ?_
        refine s_getL hG hE dX2_seekBest_38 fl_X2_204 rfl p0 ?_
        refine s_lcmp_lt hG dX2_seekBest_41 dX2_seekBest_42 (tgt := 63) (by decide) (fun q9 => ?_) (fun q9 => ?_)
        · refine s_lv [2, 3, 4, 1, 0] rfl ?_
          exact s_X2_seekBest_L63 w hx hG hE hR hT (m_X2_seekBest_L11 n) ih a0 p0 a1 a2 v4 v6 h7
        · refine s_lload_n hG dX2_seekBest_45 1 rfl rfl ?_
          refine s_aload_n hG dX2_seekBest_46 2 rfl rfl ?_
          refine s_getL hG hE dX2_seekBest_47 fl_X2_204 rfl p0 ?_
          refine s_lcmp_ne hG dX2_seekBest_50 dX2_seekBest_51 (tgt := 79) (by decide) (fun q10 => ?_) (fun q10 => ?_)
          · refine s_iload hG dX2_seekBest_54 0 rfl ?_
            refine s_aload_n hG dX2_seekBest_56 2 rfl rfl ?_
            refine s_getI hG hE dX2_seekBest_57 fl_X2_208 rfl p0 ?_
            refine s_icmp_ge hG dX2_seekBest_60 (tgt := 79) (by decide) (fun q12 => ?_) (fun q12 => ?_)
            · refine s_iinc hG dX2_seekBest_79 4 rfl ic_1 (by decide) (fun v13 => [(2, .int v13), (5, .int v6), (3, .long v4), (0, .ref (gB (GC w) + a0)), (1, .int a1)]) (fun _ => rfl) (fun v13 => ?_)
              refine s_goto (tgt := 11) hG dX2_seekBest_82 (by decide) ?_
              refine s_lv [3, 4, 0] rfl ?_
              exact ih a0 p0 a1 v13 h7
            · refine s_lv [2, 3, 4, 1, 0] rfl ?_
              exact s_X2_seekBest_L63 w hx hG hE hR hT (m_X2_seekBest_L11 n) ih a0 p0 a1 a2 v4 v6 h7
          · refine s_iinc hG dX2_seekBest_79 4 rfl ic_1 (by decide) (fun v11 => [(2, .int v11), (5, .int v6), (3, .long v4), (0, .ref (gB (GC w) + a0)), (1, .int a1)]) (fun _ => rfl) (fun v11 => ?_)
            refine s_goto (tgt := 11) hG dX2_seekBest_82 (by decide) ?_
            refine s_lv [3, 4, 0] rfl ?_
            exact ih a0 p0 a1 v11 h7

def m_X2_seekBest (a0 : Nat) (h : Hp) : Option (Unit × Hp) := cb (m_X2_weighAnswers a0 h) fun _ h2 => cb (m_X2_rowCount a0 h2) fun v3 h4 => m_X2_seekBest_L11 FU a0 v3 0 h4
set_option maxRecDepth 20000 in
set_option maxHeartbeats 4000000 in
theorem s_X2_seekBest (w : WT) {x : CT} {l : Launch} (hx : xl x = l) (hG : Gd x cX2_seekBest 6 RX2) (hE : Ge x (GC w)) (hR : Rm x 6) (hT : Rt x none) (a0 : Nat) (p0 : LC a0 = (3, 0)) (h : Hp) : Sn x 6 (gA (GC w)) (0, 0) (ζM x (GC w) inV) (gW (GC w) h) 0 [(0, .ref (gB (GC w) + a0))] [] (m_X2_seekBest a0 h) := by
  unfold m_X2_seekBest
  refine s_aload_n hG dX2_seekBest_0 0 rfl rfl ?_
  refine s_callV (a := a0) (c := 2) (inj := inV) (As := []) (st := []) rfl hG hE dX2_seekBest_1 hR (by decide) vv_X2_187 (by decide) rfl p0 rfl (Nat.le_of_ble_eq_true rfl) rfl (fun zv zh zq => c_X2_weighAnswers w (xl x) a0 p0 h zv zh zq) (fun v1 h2 => ?_)
  refine s_aload_n hG dX2_seekBest_4 0 rfl rfl ?_
  refine s_callV (a := a0) (c := 2) (inj := inI) (As := []) (st := []) rfl hG hE dX2_seekBest_5 hR (by decide) vv_X2_190 (by decide) rfl p0 rfl (Nat.le_of_ble_eq_true rfl) rfl (fun zv zh zq => c_X2_rowCount w (xl x) a0 p0 h2 zv zh zq) (fun v3 h4 => ?_)
  refine s_istore_n (lv' := [(1, .int v3), (0, .ref (gB (GC w) + a0))]) hG dX2_seekBest_8 rfl (by decide) rfl ?_
  refine s_iconst hG dX2_seekBest_9 ic_0 ?_
  refine s_istore_n (lv' := [(2, .int 0), (1, .int v3), (0, .ref (gB (GC w) + a0))]) hG dX2_seekBest_10 rfl (by decide) rfl ?_
  refine s_lv [2, 1, 0] rfl ?_
  exact s_X2_seekBest_L11 w hx hG hE hR hT FU a0 p0 v3 0 h4

theorem c_X2_seekBest (w : WT) (l : Launch) (a0 : Nat) (p0 : LC a0 = (3, 0)) (h : Hp) : ∀ v h', m_X2_seekBest a0 h = some (v, h') → MetM l (GC w) yX2_seekBest cX2_seekBest 6 none 6 [.ref (gB (GC w) + a0)] h (inV v) h' :=
  met_of (by decide) (lokC w) (Nat.le_of_ble_eq_true rfl) (fun x hx hG hE hR hT => s_X2_seekBest w hx hG hE hR hT a0 p0 h)
def m_X2_answerIn_L10 : Nat → Int32 → Int32 → Int32 → Hp → Option (Int32 × Hp)
  | 0, _, _, _, _ => none
  | n + 1, a2, a3, a4, h => if a4 ≤ a2 then some (a3 - a3 / 5 * 5, h) else vb (a3 / 5) fun v2 => vb (a4 + (-1)) fun v3 => m_X2_answerIn_L10 n a2 v2 v3 h
set_option maxRecDepth 20000 in
set_option maxHeartbeats 4000000 in
theorem s_X2_answerIn_L10 (w : WT) {x : CT} {l : Launch} (hx : xl x = l) (hG : Gd x cX2_answerIn 5 RX2) (hE : Ge x (GC w)) (hR : Rm x 1) (hT : Rt x (some .int)) : ∀ (n : Nat) (a2 : Int32) (a3 : Int32) (a4 : Int32) (h : Hp), Sn x 5 (gA (GC w)) (0, 0) (ζM x (GC w) inI) (gW (GC w) h) 10 [(2, .int a2), (3, .int a3), (4, .int a4)] [] (m_X2_answerIn_L10 n a2 a3 a4 h) := by
  intro n
  induction n with
  | zero => intro a2 a3 a4 h; exact s_none
  | succ n ih =>
    intro a2 a3 a4 h
    rw [m_X2_answerIn_L10]
    refine s_iload hG dX2_answerIn_10 2 rfl ?_
    refine s_iload_n hG dX2_answerIn_12 0 rfl rfl ?_
    refine s_icmp_le hG dX2_answerIn_13 (tgt := 26) (by decide) (fun q1 => ?_) (fun q1 => ?_)
    · refine s_iload_n hG dX2_answerIn_26 1 rfl rfl ?_
      refine s_iconst hG dX2_answerIn_27 ic_5 ?_
      refine s_irem hG dX2_answerIn_28 (by decide) ?_
      exact s_iret hG hT dX2_answerIn_29
    · refine s_iload_n hG dX2_answerIn_16 1 rfl rfl ?_
      refine s_iconst hG dX2_answerIn_17 ic_5 ?_
      refine s_idiv hG dX2_answerIn_18 (by decide) ?_
      refine s_vI (fun v2 => ?_)
      refine s_istore_n (lv' := [(3, .int v2), (2, .int a2), (4, .int a4)]) hG dX2_answerIn_19 rfl (by decide) rfl ?_
      refine s_iinc hG dX2_answerIn_20 2 rfl ic_m1 (by decide) (fun v3 => [(4, .int v3), (3, .int v2), (2, .int a2)]) (fun _ => rfl) (fun v3 => ?_)
      refine s_goto (tgt := 10) hG dX2_answerIn_23 (by decide) ?_
      refine s_lv [2, 1, 0] rfl ?_
      exact ih a2 v2 v3 h

def m_X2_answerIn (a0 : Nat) (a1 : Int32) (a2 : Int32) (h : Hp) : Option (Int32 × Hp) := vb ((gi h a0 10) - 1) fun v1 => m_X2_answerIn_L10 FU a2 a1 v1 h
set_option maxRecDepth 20000 in
set_option maxHeartbeats 4000000 in
theorem s_X2_answerIn (w : WT) {x : CT} {l : Launch} (hx : xl x = l) (hG : Gd x cX2_answerIn 5 RX2) (hE : Ge x (GC w)) (hR : Rm x 1) (hT : Rt x (some .int)) (a0 : Nat) (p0 : LC a0 = (3, 0)) (a1 : Int32) (a2 : Int32) (h : Hp) : Sn x 5 (gA (GC w)) (0, 0) (ζM x (GC w) inI) (gW (GC w) h) 0 [(0, .ref (gB (GC w) + a0)), (1, .int a1), (2, .int a2)] [] (m_X2_answerIn a0 a1 a2 h) := by
  unfold m_X2_answerIn
  refine s_iload_n hG dX2_answerIn_0 1 rfl rfl ?_
  refine s_istore_n (lv' := [(3, .int a1), (0, .ref (gB (GC w) + a0)), (1, .int a1), (2, .int a2)]) hG dX2_answerIn_1 rfl (by decide) rfl ?_
  refine s_aload_n hG dX2_answerIn_2 1 rfl rfl ?_
  refine s_getI hG hE dX2_answerIn_3 fl_X2_50 rfl p0 ?_
  refine s_iconst hG dX2_answerIn_6 ic_1 ?_
  refine s_isub hG dX2_answerIn_7 ?_
  refine s_vI (fun v1 => ?_)
  refine s_istore (lv' := [(4, .int v1), (3, .int a1), (0, .ref (gB (GC w) + a0)), (1, .int a1), (2, .int a2)]) hG dX2_answerIn_8 (by decide) rfl ?_
  refine s_lv [4, 1, 0] rfl ?_
  exact s_X2_answerIn_L10 w hx hG hE hR hT FU a2 a1 v1 h

theorem c_X2_answerIn (w : WT) (l : Launch) (a0 : Nat) (p0 : LC a0 = (3, 0)) (a1 : Int32) (a2 : Int32) (h : Hp) : ∀ v h', m_X2_answerIn a0 a1 a2 h = some (v, h') → MetM l (GC w) yX2_answerIn cX2_answerIn 5 (some .int) 1 [.ref (gB (GC w) + a0), .int a1, .int a2] h (inI v) h' :=
  met_of (by decide) (lokC w) (Nat.le_of_ble_eq_true rfl) (fun x hx hG hE hR hT => s_X2_answerIn w hx hG hE hR hT a0 p0 a1 a2 h)
theorem vv_X8_213 : VV RX8 213 yX2_seekBest cX2_seekBest 6 none 0 := ⟨⟨gw_at 894 (by decide +kernel) (by decide +kernel), gw_at 897 (by decide +kernel) (by decide +kernel), gw_at 89 (by decide +kernel) (by decide +kernel), by decide +kernel, by decide⟩, gw_at 895 (by decide +kernel) (by decide +kernel), gw_at 896 (by decide +kernel) (by decide +kernel)⟩
theorem fl_X8_219 : FL RX8 219 2 11 := ⟨by decide, by decide, gw_at 270 (by decide +kernel) (by decide +kernel), rfl⟩
theorem vv_X8_222 : VV RX8 222 yX2_answerIn cX2_answerIn 5 (some .int) 2 := ⟨⟨gw_at 922 (by decide +kernel) (by decide +kernel), gw_at 925 (by decide +kernel) (by decide +kernel), gw_at 89 (by decide +kernel) (by decide +kernel), by decide +kernel, by decide⟩, gw_at 923 (by decide +kernel) (by decide +kernel), gw_at 924 (by decide +kernel) (by decide +kernel)⟩
theorem fl_X8_216 : FL RX8 216 2 12 := ⟨by decide, by decide, gw_at 272 (by decide +kernel) (by decide +kernel), rfl⟩
theorem bc_m9 : (Int8.ofInt (-9)).toInt32 = (-9) := by decide
def m_X8_best (a1 : Int32) (a2 : Int32) (h : Hp) : Option (Int32 × Hp) := cb (m_X8_isSuit a1 h) fun v1 h2 => if v1 = 0 then some ((-1), h2) else cb (m_X8_claimsOfSuit a1 h2) fun v4 h5 => if v4 ≤ 4 then if a2 < (-1) then some ((-1), h5) else if a2 < v4 then ck (inb a1 5) (cb (m_X8_hear 11 a1 (gi h5 (91 + 1 * a1.toNatClampNeg) 2) h5) fun _ h11 => cb (m_X2_seekBest 11 h11) fun _ h13 => if 0 ≤ a2 then cb (m_X2_answerIn 11 (gi h13 11 11) a2 h13) fun v15 h16 => some (v15, h16) else some (gi h13 11 12, h13)) else some ((-1), h5) else some ((-9), h5)
set_option maxRecDepth 20000 in
set_option maxHeartbeats 4000000 in
theorem s_X8_best (w : WT) {x : CT} {l : Launch} (hx : xl x = l) (hG : Gd x cX8_best 4 RX8) (hE : Ge x (GC w)) (hR : Rm x 7) (hT : Rt x (some .int)) (a1 : Int32) (a2 : Int32) (h : Hp) : Sn x 4 (gA (GC w)) (0, 0) (ζM x (GC w) inI) (gW (GC w) h) 0 [(0, .ref (gB (GC w) + 1)), (1, .int a1), (2, .int a2)] [] (m_X8_best a1 a2 h) := by
  unfold m_X8_best
  refine s_aload_n hG dX8_best_0 0 rfl rfl ?_
  refine s_iload_n hG dX8_best_1 1 rfl rfl ?_
  refine s_callV (a := 1) (c := 8) (inj := inI) (As := [.int a1]) (st := []) rfl hG hE dX8_best_2 hR (by decide) vv_X8_93 (by decide) rfl kC_1 rfl (Nat.le_of_ble_eq_true rfl) rfl (fun zv zh zq => c_X8_isSuit w (xl x) a1 h zv zh zq) (fun v1 h2 => ?_)
  refine s_if_ne hG dX8_best_5 (tgt := 10) (by decide) (fun q3 => ?_) (fun q3 => ?_)
  · refine s_iconst hG dX8_best_8 ic_m1 ?_
    exact s_iret hG hT dX8_best_9
  · refine s_aload_n hG dX8_best_10 0 rfl rfl ?_
    refine s_iload_n hG dX8_best_11 1 rfl rfl ?_
    refine s_callV (a := 1) (c := 8) (inj := inI) (As := [.int a1]) (st := []) rfl hG hE dX8_best_12 hR (by decide) vv_X8_99 (by decide) rfl kC_1 rfl (Nat.le_of_ble_eq_true rfl) rfl (fun zv zh zq => c_X8_claimsOfSuit w (xl x) a1 h2 zv zh zq) (fun v4 h5 => ?_)
    refine s_istore_n (lv' := [(3, .int v4), (0, .ref (gB (GC w) + 1)), (1, .int a1), (2, .int a2)]) hG dX8_best_15 rfl (by decide) rfl ?_
    refine s_iload_n hG dX8_best_16 0 rfl rfl ?_
    refine s_iconst hG dX8_best_17 ic_4 ?_
    refine s_icmp_le hG dX8_best_18 (tgt := 24) (by decide) (fun q6 => ?_) (fun q6 => ?_)
    · refine s_iload_n hG dX8_best_24 3 rfl rfl ?_
      refine s_iconst hG dX8_best_25 ic_m1 ?_
      refine s_icmp_lt hG dX8_best_26 (tgt := 34) (by decide) (fun q7 => ?_) (fun q7 => ?_)
      · refine s_iconst hG dX8_best_34 ic_m1 ?_
        exact s_iret hG hT dX8_best_35
      · refine s_iload_n hG dX8_best_29 3 rfl rfl ?_
        refine s_iload_n hG dX8_best_30 0 rfl rfl ?_
        refine s_icmp_lt hG dX8_best_31 (tgt := 36) (by decide) (fun q8 => ?_) (fun q8 => ?_)
        · refine s_aload_n hG dX8_best_36 1 rfl rfl ?_
          refine s_aload_n hG dX8_best_37 1 rfl rfl ?_
          refine s_getS hG hE dX8_best_38 fl_X8_55 rfl kC_1 fC_8_8 (nzC kC_11) ?_
          refine s_iload_n hG dX8_best_41 2 rfl rfl ?_
          refine s_aload_n hG dX8_best_42 1 rfl rfl ?_
          refine s_getS hG hE dX8_best_43 fl_X8_20 rfl kC_1 fC_8_2 (nzC kC_4) ?_
          refine s_iload_n hG dX8_best_46 2 rfl rfl ?_
          refine s_ck (fun q9 => ?_)
          refine s_aaldS (j := 3) hG hE dX8_best_47 (by decide) kC_4 q9 ((eC_8_2 q9).1) (nzC ((eC_8_2 q9).2)) ?_
          refine s_getI hG hE dX8_best_48 fl_X8_90 rfl ((eC_8_2 q9).2) ?_
          refine s_callV (a := 1) (c := 8) (inj := inV) (As := [.ref (gB (GC w) + 11), .int a1, .int (gi h5 (91 + 1 * a1.toNatClampNeg) 2)]) (st := []) rfl hG hE dX8_best_51 hR (by decide) vv_X8_149 (by decide) rfl kC_1 rfl (Nat.le_of_ble_eq_true rfl) rfl (fun zv zh zq => c_X8_hear w (xl x) 11 kC_11 a1 (gi h5 (91 + 1 * a1.toNatClampNeg) 2) h5 zv zh zq) (fun v10 h11 => ?_)
          refine s_aload_n hG dX8_best_54 1 rfl rfl ?_
          refine s_getS hG hE dX8_best_55 fl_X8_55 rfl kC_1 fC_8_8 (nzC kC_11) ?_
          refine s_callV (a := 11) (c := 2) (inj := inV) (As := []) (st := []) rfl hG hE dX8_best_58 hR (by decide) vv_X8_213 (by decide) rfl kC_11 rfl (Nat.le_of_ble_eq_true rfl) rfl (fun zv zh zq => c_X2_seekBest w (xl x) 11 kC_11 h11 zv zh zq) (fun v12 h13 => ?_)
          refine s_iload_n hG dX8_best_61 3 rfl rfl ?_
          refine s_if_ge hG dX8_best_62 (tgt := 75) (by decide) (fun q14 => ?_) (fun q14 => ?_)
          · refine s_aload_n hG dX8_best_75 1 rfl rfl ?_
            refine s_getS hG hE dX8_best_76 fl_X8_55 rfl kC_1 fC_8_8 (nzC kC_11) ?_
            refine s_aload_n hG dX8_best_79 1 rfl rfl ?_
            refine s_getS hG hE dX8_best_80 fl_X8_55 rfl kC_1 fC_8_8 (nzC kC_11) ?_
            refine s_getI hG hE dX8_best_83 fl_X8_219 rfl kC_11 ?_
            refine s_iload_n hG dX8_best_86 3 rfl rfl ?_
            refine s_callV (a := 11) (c := 2) (inj := inI) (As := [.int (gi h13 11 11), .int a2]) (st := []) rfl hG hE dX8_best_87 hR (by decide) vv_X8_222 (by decide) rfl kC_11 rfl (Nat.le_of_ble_eq_true rfl) rfl (fun zv zh zq => c_X2_answerIn w (xl x) 11 kC_11 (gi h13 11 11) a2 h13 zv zh zq) (fun v15 h16 => ?_)
            exact s_iret hG hT dX8_best_90
          · refine s_aload_n hG dX8_best_65 1 rfl rfl ?_
            refine s_getS hG hE dX8_best_66 fl_X8_55 rfl kC_1 fC_8_8 (nzC kC_11) ?_
            refine s_getI hG hE dX8_best_69 fl_X8_216 rfl kC_11 ?_
            refine s_goto (tgt := 90) hG dX8_best_72 (by decide) ?_
            exact s_iret hG hT dX8_best_90
        · refine s_iconst hG dX8_best_34 ic_m1 ?_
          exact s_iret hG hT dX8_best_35
    · refine s_bipush hG dX8_best_21 bc_m9 ?_
      exact s_iret hG hT dX8_best_23

theorem c_X8_best (w : WT) (l : Launch) (a1 : Int32) (a2 : Int32) (h : Hp) : ∀ v h', m_X8_best a1 a2 h = some (v, h') → MetM l (GC w) yX8_best cX8_best 4 (some .int) 7 [.ref (gB (GC w) + 1), .int a1, .int a2] h (inI v) h' :=
  met_of (by decide) (lokC w) (Nat.le_of_ble_eq_true rfl) (fun x hx hG hE hR hT => s_X8_best w hx hG hE hR hT a1 a2 h)
def m_X2_someDue_L2 : Nat → Nat → Int32 → Hp → Option (Int32 × Hp)
  | 0, _, _, _ => none
  | n + 1, a0, a1, h => if (gi h a0 10) ≤ a1 then some (0, h) else ck (inb a1 6) (ck (kC 5 (gr h (a0 + 1) a1.toNatClampNeg)) (if (gi h (gr h (a0 + 1) a1.toNatClampNeg) 10) = 3 then some (1, h) else vb (a1 + 1) fun v5 => m_X2_someDue_L2 n a0 v5 h))
set_option maxRecDepth 20000 in
set_option maxHeartbeats 4000000 in
theorem s_X2_someDue_L2 (w : WT) {x : CT} {l : Launch} (hx : xl x = l) (hG : Gd x cX2_someDue 2 RX2) (hE : Ge x (GC w)) (hR : Rm x 1) (hT : Rt x (some .boolean)) : ∀ (n : Nat) (a0 : Nat) (p0 : LC a0 = (3, 0)) (a1 : Int32) (h : Hp), Sn x 2 (gA (GC w)) (0, 0) (ζM x (GC w) inI) (gW (GC w) h) 2 [(0, .ref (gB (GC w) + a0)), (1, .int a1)] [] (m_X2_someDue_L2 n a0 a1 h) := by
  intro n
  induction n with
  | zero => intro a0 p0 a1 h; exact s_none
  | succ n ih =>
    intro a0 p0 a1 h
    rw [m_X2_someDue_L2]
    refine s_iload_n hG dX2_someDue_2 1 rfl rfl ?_
    refine s_aload_n hG dX2_someDue_3 0 rfl rfl ?_
    refine s_getI hG hE dX2_someDue_4 fl_X2_50 rfl p0 ?_
    refine s_icmp_ge hG dX2_someDue_7 (tgt := 31) (by decide) (fun q1 => ?_) (fun q1 => ?_)
    · refine s_iconst hG dX2_someDue_31 ic_0 ?_
      exact s_zret hG hT (by decide) dX2_someDue_32
    · refine s_aload_n hG dX2_someDue_10 0 rfl rfl ?_
      refine s_getS hG hE dX2_someDue_11 fl_X2_11 rfl p0 ((fC_2_0 p0).1) (nzC ((fC_2_0 p0).2)) ?_
      refine s_iload_n hG dX2_someDue_14 1 rfl rfl ?_
      refine s_ck (fun q2 => ?_)
      refine s_aald (j := 2) hG hE dX2_someDue_15 (by decide) ((fC_2_0 p0).2) q2 ?_
      refine s_ck (fun q3 => ?_)
      refine s_nn (nzC (kC_of q3)) ?_
      refine s_getI hG hE dX2_someDue_16 fl_X2_76 rfl (kC_of q3) ?_
      refine s_iconst hG dX2_someDue_19 ic_3 ?_
      refine s_icmp_ne hG dX2_someDue_20 (tgt := 25) (by decide) (fun q4 => ?_) (fun q4 => ?_)
      · refine s_iconst hG dX2_someDue_23 ic_1 ?_
        exact s_zret hG hT (by decide) dX2_someDue_24
      · refine s_iinc hG dX2_someDue_25 1 rfl ic_1 (by decide) (fun v5 => [(1, .int v5), (0, .ref (gB (GC w) + a0))]) (fun _ => rfl) (fun v5 => ?_)
        refine s_goto (tgt := 2) hG dX2_someDue_28 (by decide) ?_
        refine s_lv [1, 0] rfl ?_
        exact ih a0 p0 v5 h

def m_X2_someDue (a0 : Nat) (h : Hp) : Option (Int32 × Hp) := m_X2_someDue_L2 FU a0 0 h
set_option maxRecDepth 20000 in
set_option maxHeartbeats 4000000 in
theorem s_X2_someDue (w : WT) {x : CT} {l : Launch} (hx : xl x = l) (hG : Gd x cX2_someDue 2 RX2) (hE : Ge x (GC w)) (hR : Rm x 1) (hT : Rt x (some .boolean)) (a0 : Nat) (p0 : LC a0 = (3, 0)) (h : Hp) : Sn x 2 (gA (GC w)) (0, 0) (ζM x (GC w) inI) (gW (GC w) h) 0 [(0, .ref (gB (GC w) + a0))] [] (m_X2_someDue a0 h) := by
  unfold m_X2_someDue
  refine s_iconst hG dX2_someDue_0 ic_0 ?_
  refine s_istore_n (lv' := [(1, .int 0), (0, .ref (gB (GC w) + a0))]) hG dX2_someDue_1 rfl (by decide) rfl ?_
  refine s_lv [1, 0] rfl ?_
  exact s_X2_someDue_L2 w hx hG hE hR hT FU a0 p0 0 h

theorem c_X2_someDue (w : WT) (l : Launch) (a0 : Nat) (p0 : LC a0 = (3, 0)) (h : Hp) : ∀ v h', m_X2_someDue a0 h = some (v, h') → MetM l (GC w) yX2_someDue cX2_someDue 2 (some .boolean) 1 [.ref (gB (GC w) + a0)] h (inI v) h' :=
  met_of (by decide) (lokC w) (Nat.le_of_ble_eq_true rfl) (fun x hx hG hE hR hT => s_X2_someDue w hx hG hE hR hT a0 p0 h)
theorem vv_X2_214 : VV RX2 214 yX2_someDue cX2_someDue 2 (some .boolean) 0 := ⟨⟨gw_at 934 (by decide +kernel) (by decide +kernel), gw_at 937 (by decide +kernel) (by decide +kernel), gw_at 89 (by decide +kernel) (by decide +kernel), by decide +kernel, by decide⟩, gw_at 936 (by decide +kernel) (by decide +kernel), gw_at 25 (by decide +kernel) (by decide +kernel)⟩
def m_X2_oathlessRows_L9 : Nat → Nat → Int32 → Int32 → Int32 → Hp → Option (Int32 × Hp)
  | 0, _, _, _, _, _ => none
  | n + 1, a0, a1, a2, a3, h => if a2 ≤ a3 then some (a1, h) else cb (m_X2_answerBy a0 a3 h) fun _ h3 => cb (m_X2_someDue a0 h3) fun v4 h5 => if v4 = 0 then cb (m_X2_paidInTruth a0 h5) fun v8 h9 => if (gl h9 a0 13) < v8 then vb (a3 + 1) fun v11 => m_X2_oathlessRows_L9 n a0 a1 a2 v11 h9 else vb (a1 + 1) fun v12 => vb (a3 + 1) fun v13 => m_X2_oathlessRows_L9 n a0 v12 a2 v13 h9 else vb (a3 + 1) fun v7 => m_X2_oathlessRows_L9 n a0 a1 a2 v7 h5
set_option maxRecDepth 20000 in
set_option maxHeartbeats 4000000 in
theorem s_X2_oathlessRows_L9 (w : WT) {x : CT} {l : Launch} (hx : xl x = l) (hG : Gd x cX2_oathlessRows 4 RX2) (hE : Ge x (GC w)) (hR : Rm x 5) (hT : Rt x (some .int)) : ∀ (n : Nat) (a0 : Nat) (p0 : LC a0 = (3, 0)) (a1 : Int32) (a2 : Int32) (a3 : Int32) (h : Hp), Sn x 4 (gA (GC w)) (0, 0) (ζM x (GC w) inI) (gW (GC w) h) 9 [(0, .ref (gB (GC w) + a0)), (1, .int a1), (2, .int a2), (3, .int a3)] [] (m_X2_oathlessRows_L9 n a0 a1 a2 a3 h) := by
  intro n
  induction n with
  | zero => intro a0 p0 a1 a2 a3 h; exact s_none
  | succ n ih =>
    intro a0 p0 a1 a2 a3 h
    rw [m_X2_oathlessRows_L9]
    refine s_iload_n hG dX2_oathlessRows_9 3 rfl rfl ?_
    refine s_iload_n hG dX2_oathlessRows_10 2 rfl rfl ?_
    refine s_icmp_ge hG dX2_oathlessRows_11 (tgt := 47) (by decide) (fun q1 => ?_) (fun q1 => ?_)
    · refine s_iload_n hG dX2_oathlessRows_47 1 rfl rfl ?_
      exact s_iret hG hT dX2_oathlessRows_48
    · refine s_aload_n hG dX2_oathlessRows_14 0 rfl rfl ?_
      refine s_iload_n hG dX2_oathlessRows_15 3 rfl rfl ?_
      refine s_callV (a := a0) (c := 2) (inj := inV) (As := [.int a3]) (st := []) rfl hG hE dX2_oathlessRows_16 hR (by decide) vv_X2_194 (by decide) rfl p0 rfl (Nat.le_of_ble_eq_true rfl) rfl (fun zv zh zq => c_X2_answerBy w (xl x) a0 p0 a3 h zv zh zq) (fun v2 h3 => ?_)
      refine s_aload_n hG dX2_oathlessRows_19 0 rfl rfl ?_
      refine s_callV (a := a0) (c := 2) (inj := inI) (As := []) (st := []) rfl hG hE dX2_oathlessRows_20 hR (by decide) vv_X2_214 (by decide) rfl p0 rfl (Nat.le_of_ble_eq_true rfl) rfl (fun zv zh zq => c_X2_someDue w (xl x) a0 p0 h3 zv zh zq) (fun v4 h5 => ?_)
      refine s_if_ne hG dX2_oathlessRows_23 (tgt := 41) (by decide) (fun q6 => ?_) (fun q6 => ?_)
      · refine s_aload_n hG dX2_oathlessRows_26 0 rfl rfl ?_
        refine s_callV (a := a0) (c := 2) (inj := inL) (As := []) (st := []) rfl hG hE dX2_oathlessRows_27 hR (by decide) vv_X2_198 (by decide) rfl p0 rfl (Nat.le_of_ble_eq_true rfl) rfl (fun zv zh zq => c_X2_paidInTruth w (xl x) a0 p0 h5 zv zh zq) (fun v8 h9 => ?_)
        refine s_aload_n hG dX2_oathlessRows_30 0 rfl rfl ?_
        refine s_getL hG hE dX2_oathlessRows_31 fl_X2_204 rfl p0 ?_
        refine s_lcmp_gt hG dX2_oathlessRows_34 dX2_oathlessRows_35 (tgt := 41) (by decide) (fun q10 => ?_) (fun q10 => ?_)
        · refine s_iinc hG dX2_oathlessRows_41 3 rfl ic_1 (by decide) (fun v11 => [(3, .int v11), (0, .ref (gB (GC w) + a0)), (1, .int a1), (2, .int a2)]) (fun _ => rfl) (fun v11 => ?_)
          refine s_goto (tgt := 9) hG dX2_oathlessRows_44 (by decide) ?_
          refine s_lv [1, 2, 3, 0] rfl ?_
          exact ih a0 p0 a1 a2 v11 h9
        · refine s_iinc hG dX2_oathlessRows_38 1 rfl ic_1 (by decide) (fun v12 => [(1, .int v12), (0, .ref (gB (GC w) + a0)), (2, .int a2), (3, .int a3)]) (fun _ => rfl) (fun v12 => ?_)
          refine s_iinc hG dX2_oathlessRows_41 3 rfl ic_1 (by decide) (fun v13 => [(3, .int v13), (1, .int v12), (0, .ref (gB (GC w) + a0)), (2, .int a2)]) (fun _ => rfl) (fun v13 => ?_)
          refine s_goto (tgt := 9) hG dX2_oathlessRows_44 (by decide) ?_
          refine s_lv [2, 1, 3, 0] rfl ?_
          exact ih a0 p0 v12 a2 v13 h9
      · refine s_iinc hG dX2_oathlessRows_41 3 rfl ic_1 (by decide) (fun v7 => [(3, .int v7), (0, .ref (gB (GC w) + a0)), (1, .int a1), (2, .int a2)]) (fun _ => rfl) (fun v7 => ?_)
        refine s_goto (tgt := 9) hG dX2_oathlessRows_44 (by decide) ?_
        refine s_lv [1, 2, 3, 0] rfl ?_
        exact ih a0 p0 a1 a2 v7 h5

def m_X2_oathlessRows (a0 : Nat) (h : Hp) : Option (Int32 × Hp) := cb (m_X2_rowCount a0 h) fun v1 h2 => m_X2_oathlessRows_L9 FU a0 0 v1 0 h2
set_option maxRecDepth 20000 in
set_option maxHeartbeats 4000000 in
theorem s_X2_oathlessRows (w : WT) {x : CT} {l : Launch} (hx : xl x = l) (hG : Gd x cX2_oathlessRows 4 RX2) (hE : Ge x (GC w)) (hR : Rm x 5) (hT : Rt x (some .int)) (a0 : Nat) (p0 : LC a0 = (3, 0)) (h : Hp) : Sn x 4 (gA (GC w)) (0, 0) (ζM x (GC w) inI) (gW (GC w) h) 0 [(0, .ref (gB (GC w) + a0))] [] (m_X2_oathlessRows a0 h) := by
  unfold m_X2_oathlessRows
  refine s_iconst hG dX2_oathlessRows_0 ic_0 ?_
  refine s_istore_n (lv' := [(1, .int 0), (0, .ref (gB (GC w) + a0))]) hG dX2_oathlessRows_1 rfl (by decide) rfl ?_
  refine s_aload_n hG dX2_oathlessRows_2 1 rfl rfl ?_
  refine s_callV (a := a0) (c := 2) (inj := inI) (As := []) (st := []) rfl hG hE dX2_oathlessRows_3 hR (by decide) vv_X2_190 (by decide) rfl p0 rfl (Nat.le_of_ble_eq_true rfl) rfl (fun zv zh zq => c_X2_rowCount w (xl x) a0 p0 h zv zh zq) (fun v1 h2 => ?_)
  refine s_istore_n (lv' := [(2, .int v1), (1, .int 0), (0, .ref (gB (GC w) + a0))]) hG dX2_oathlessRows_6 rfl (by decide) rfl ?_
  refine s_iconst hG dX2_oathlessRows_7 ic_0 ?_
  refine s_istore_n (lv' := [(3, .int 0), (2, .int v1), (1, .int 0), (0, .ref (gB (GC w) + a0))]) hG dX2_oathlessRows_8 rfl (by decide) rfl ?_
  refine s_lv [3, 2, 1, 0] rfl ?_
  exact s_X2_oathlessRows_L9 w hx hG hE hR hT FU a0 p0 0 v1 0 h2

theorem c_X2_oathlessRows (w : WT) (l : Launch) (a0 : Nat) (p0 : LC a0 = (3, 0)) (h : Hp) : ∀ v h', m_X2_oathlessRows a0 h = some (v, h') → MetM l (GC w) yX2_oathlessRows cX2_oathlessRows 4 (some .int) 5 [.ref (gB (GC w) + a0)] h (inI v) h' :=
  met_of (by decide) (lokC w) (Nat.le_of_ble_eq_true rfl) (fun x hx hG hE hR hT => s_X2_oathlessRows w hx hG hE hR hT a0 p0 h)
theorem vv_X8_225 : VV RX8 225 yX2_oathlessRows cX2_oathlessRows 4 (some .int) 0 := ⟨⟨gw_at 930 (by decide +kernel) (by decide +kernel), gw_at 933 (by decide +kernel) (by decide +kernel), gw_at 89 (by decide +kernel) (by decide +kernel), by decide +kernel, by decide⟩, gw_at 931 (by decide +kernel) (by decide +kernel), gw_at 932 (by decide +kernel) (by decide +kernel)⟩
def m_X8_slips (a1 : Int32) (h : Hp) : Option (Int32 × Hp) := cb (m_X8_isSuit a1 h) fun v1 h2 => if v1 = 0 then some ((-1), h2) else cb (m_X8_claimsOfSuit a1 h2) fun v4 h5 => if v4 ≤ 4 then ck (inb a1 5) (cb (m_X8_hear 11 a1 (gi h5 (91 + 1 * a1.toNatClampNeg) 2) h5) fun _ h9 => cb (m_X2_seekBest 11 h9) fun _ h11 => cb (m_X2_oathlessRows 11 h11) fun v12 h13 => some (v12, h13)) else some ((-9), h5)
set_option maxRecDepth 20000 in
set_option maxHeartbeats 4000000 in
theorem s_X8_slips (w : WT) {x : CT} {l : Launch} (hx : xl x = l) (hG : Gd x cX8_slips 2 RX8) (hE : Ge x (GC w)) (hR : Rm x 7) (hT : Rt x (some .int)) (a1 : Int32) (h : Hp) : Sn x 2 (gA (GC w)) (0, 0) (ζM x (GC w) inI) (gW (GC w) h) 0 [(0, .ref (gB (GC w) + 1)), (1, .int a1)] [] (m_X8_slips a1 h) := by
  unfold m_X8_slips
  refine s_aload_n hG dX8_slips_0 0 rfl rfl ?_
  refine s_iload_n hG dX8_slips_1 1 rfl rfl ?_
  refine s_callV (a := 1) (c := 8) (inj := inI) (As := [.int a1]) (st := []) rfl hG hE dX8_slips_2 hR (by decide) vv_X8_93 (by decide) rfl kC_1 rfl (Nat.le_of_ble_eq_true rfl) rfl (fun zv zh zq => c_X8_isSuit w (xl x) a1 h zv zh zq) (fun v1 h2 => ?_)
  refine s_if_ne hG dX8_slips_5 (tgt := 10) (by decide) (fun q3 => ?_) (fun q3 => ?_)
  · refine s_iconst hG dX8_slips_8 ic_m1 ?_
    exact s_iret hG hT dX8_slips_9
  · refine s_aload_n hG dX8_slips_10 0 rfl rfl ?_
    refine s_iload_n hG dX8_slips_11 1 rfl rfl ?_
    refine s_callV (a := 1) (c := 8) (inj := inI) (As := [.int a1]) (st := []) rfl hG hE dX8_slips_12 hR (by decide) vv_X8_99 (by decide) rfl kC_1 rfl (Nat.le_of_ble_eq_true rfl) rfl (fun zv zh zq => c_X8_claimsOfSuit w (xl x) a1 h2 zv zh zq) (fun v4 h5 => ?_)
    refine s_iconst hG dX8_slips_15 ic_4 ?_
    refine s_icmp_le hG dX8_slips_16 (tgt := 22) (by decide) (fun q6 => ?_) (fun q6 => ?_)
    · refine s_aload_n hG dX8_slips_22 0 rfl rfl ?_
      refine s_aload_n hG dX8_slips_23 0 rfl rfl ?_
      refine s_getS hG hE dX8_slips_24 fl_X8_55 rfl kC_1 fC_8_8 (nzC kC_11) ?_
      refine s_iload_n hG dX8_slips_27 1 rfl rfl ?_
      refine s_aload_n hG dX8_slips_28 0 rfl rfl ?_
      refine s_getS hG hE dX8_slips_29 fl_X8_20 rfl kC_1 fC_8_2 (nzC kC_4) ?_
      refine s_iload_n hG dX8_slips_32 1 rfl rfl ?_
      refine s_ck (fun q7 => ?_)
      refine s_aaldS (j := 3) hG hE dX8_slips_33 (by decide) kC_4 q7 ((eC_8_2 q7).1) (nzC ((eC_8_2 q7).2)) ?_
      refine s_getI hG hE dX8_slips_34 fl_X8_90 rfl ((eC_8_2 q7).2) ?_
      refine s_callV (a := 1) (c := 8) (inj := inV) (As := [.ref (gB (GC w) + 11), .int a1, .int (gi h5 (91 + 1 * a1.toNatClampNeg) 2)]) (st := []) rfl hG hE dX8_slips_37 hR (by decide) vv_X8_149 (by decide) rfl kC_1 rfl (Nat.le_of_ble_eq_true rfl) rfl (fun zv zh zq => c_X8_hear w (xl x) 11 kC_11 a1 (gi h5 (91 + 1 * a1.toNatClampNeg) 2) h5 zv zh zq) (fun v8 h9 => ?_)
      refine s_aload_n hG dX8_slips_40 0 rfl rfl ?_
      refine s_getS hG hE dX8_slips_41 fl_X8_55 rfl kC_1 fC_8_8 (nzC kC_11) ?_
      refine s_callV (a := 11) (c := 2) (inj := inV) (As := []) (st := []) rfl hG hE dX8_slips_44 hR (by decide) vv_X8_213 (by decide) rfl kC_11 rfl (Nat.le_of_ble_eq_true rfl) rfl (fun zv zh zq => c_X2_seekBest w (xl x) 11 kC_11 h9 zv zh zq) (fun v10 h11 => ?_)
      refine s_aload_n hG dX8_slips_47 0 rfl rfl ?_
      refine s_getS hG hE dX8_slips_48 fl_X8_55 rfl kC_1 fC_8_8 (nzC kC_11) ?_
      refine s_callV (a := 11) (c := 2) (inj := inI) (As := []) (st := []) rfl hG hE dX8_slips_51 hR (by decide) vv_X8_225 (by decide) rfl kC_11 rfl (Nat.le_of_ble_eq_true rfl) rfl (fun zv zh zq => c_X2_oathlessRows w (xl x) 11 kC_11 h11 zv zh zq) (fun v12 h13 => ?_)
      exact s_iret hG hT dX8_slips_54
    · refine s_bipush hG dX8_slips_19 bc_m9 ?_
      exact s_iret hG hT dX8_slips_21

theorem c_X8_slips (w : WT) (l : Launch) (a1 : Int32) (h : Hp) : ∀ v h', m_X8_slips a1 h = some (v, h') → MetM l (GC w) yX8_slips cX8_slips 2 (some .int) 7 [.ref (gB (GC w) + 1), .int a1] h (inI v) h' :=
  met_of (by decide) (lokC w) (Nat.le_of_ble_eq_true rfl) (fun x hx hG hE hR hT => s_X8_slips w hx hG hE hR hT a1 h)
def m_X2_claimInstead (a0 : Nat) (a1 : Int32) (a2 : Nat) (a3 : Int32) (h : Hp) : Option (Unit × Hp) := cb (m_X2_placeOf a0 a1 h) fun v1 h2 => if 0 ≤ v1 then cb (m_X0_copy (a0 + 6) a2 h2) fun _ h5 => hb (si h5 (a0 + 6) 1 a3) fun h6 => hb (si h6 (a0 + 6) 3 (if a3 < (gi h6 a2 3) then a3 else (gi h6 a2 3))) fun h7 => ck (inb v1 6) (ck (kC 5 (gr h7 (a0 + 1) v1.toNatClampNeg)) (cb (m_X2_weigh a0 (a0 + 6) (gr h7 (a0 + 1) v1.toNatClampNeg) h7) fun _ h11 => cb (m_X2_settle a0 h11) fun _ h13 => some ((), h13))) else some ((), h2)
set_option maxRecDepth 20000 in
set_option maxHeartbeats 4000000 in
theorem s_X2_claimInstead (w : WT) {x : CT} {l : Launch} (hx : xl x = l) (hG : Gd x cX2_claimInstead 5 RX2) (hE : Ge x (GC w)) (hR : Rm x 5) (hT : Rt x none) (a0 : Nat) (p0 : LC a0 = (3, 0)) (a1 : Int32) (a2 : Nat) (p2 : LC a2 = (1, 0)) (a3 : Int32) (h : Hp) : Sn x 5 (gA (GC w)) (0, 0) (ζM x (GC w) inV) (gW (GC w) h) 0 [(0, .ref (gB (GC w) + a0)), (1, .int a1), (2, .ref (gB (GC w) + a2)), (3, .int a3)] [] (m_X2_claimInstead a0 a1 a2 a3 h) := by
  unfold m_X2_claimInstead
  refine s_aload_n hG dX2_claimInstead_0 0 rfl rfl ?_
  refine s_iload_n hG dX2_claimInstead_1 1 rfl rfl ?_
  refine s_callV (a := a0) (c := 2) (inj := inI) (As := [.int a1]) (st := []) rfl hG hE dX2_claimInstead_2 hR (by decide) vv_X2_72 (by decide) rfl p0 rfl (Nat.le_of_ble_eq_true rfl) rfl (fun zv zh zq => c_X2_placeOf w (xl x) a0 p0 a1 h zv zh zq) (fun v1 h2 => ?_)
  refine s_istore (lv' := [(4, .int v1), (0, .ref (gB (GC w) + a0)), (1, .int a1), (2, .ref (gB (GC w) + a2)), (3, .int a3)]) hG dX2_claimInstead_5 (by decide) rfl ?_
  refine s_iload hG dX2_claimInstead_7 0 rfl ?_
  refine s_if_ge hG dX2_claimInstead_9 (tgt := 13) (by decide) (fun q3 => ?_) (fun q3 => ?_)
  · refine s_aload_n hG dX2_claimInstead_13 1 rfl rfl ?_
    refine s_getS hG hE dX2_claimInstead_14 fl_X2_34 rfl p0 ((fC_2_5 p0).1) (nzC ((fC_2_5 p0).2)) ?_
    refine s_aload_n hG dX2_claimInstead_17 3 rfl rfl ?_
    refine s_callV (a := a0 + 6) (c := 0) (inj := inV) (As := [.ref (gB (GC w) + a2)]) (st := []) rfl hG hE dX2_claimInstead_18 hR (by decide) vv_X2_53 (by decide) rfl ((fC_2_5 p0).2) rfl (Nat.le_of_ble_eq_true rfl) rfl (fun zv zh zq => c_X0_copy w (xl x) (a0 + 6) ((fC_2_5 p0).2) a2 p2 h2 zv zh zq) (fun v4 h5 => ?_)
    refine s_aload_n hG dX2_claimInstead_21 1 rfl rfl ?_
    refine s_getS hG hE dX2_claimInstead_22 fl_X2_34 rfl p0 ((fC_2_5 p0).1) (nzC ((fC_2_5 p0).2)) ?_
    refine s_iload_n hG dX2_claimInstead_25 4 rfl rfl ?_
    refine s_putI hG hE dX2_claimInstead_26 fl_X2_79 rfl rfl ((fC_2_5 p0).2) (fun h6 => ?_)
    refine s_aload_n hG dX2_claimInstead_29 1 rfl rfl ?_
    refine s_getS hG hE dX2_claimInstead_30 fl_X2_34 rfl p0 ((fC_2_5 p0).1) (nzC ((fC_2_5 p0).2)) ?_
    refine s_aload_n hG dX2_claimInstead_33 3 rfl rfl ?_
    refine s_getI hG hE dX2_claimInstead_34 fl_X2_82 rfl p2 ?_
    refine s_iload_n hG dX2_claimInstead_37 4 rfl rfl ?_
    refine s_mmin hG hR (by decide) dX2_claimInstead_38 wd_915 wd_659 wd_101 wd_660 (Nat.le_of_ble_eq_true rfl) ?_
    refine s_putI hG hE dX2_claimInstead_41 fl_X2_82 rfl rfl ((fC_2_5 p0).2) (fun h7 => ?_)
    refine s_aload_n hG dX2_claimInstead_44 1 rfl rfl ?_
    refine s_aload_n hG dX2_claimInstead_45 1 rfl rfl ?_
    refine s_getS hG hE dX2_claimInstead_46 fl_X2_34 rfl p0 ((fC_2_5 p0).1) (nzC ((fC_2_5 p0).2)) ?_
    refine s_aload_n hG dX2_claimInstead_49 1 rfl rfl ?_
    refine s_getS hG hE dX2_claimInstead_50 fl_X2_11 rfl p0 ((fC_2_0 p0).1) (nzC ((fC_2_0 p0).2)) ?_
    refine s_iload hG dX2_claimInstead_53 0 rfl ?_
    refine s_ck (fun q8 => ?_)
    refine s_aald (j := 2) hG hE dX2_claimInstead_55 (by decide) ((fC_2_0 p0).2) q8 ?_
    refine s_ck (fun q9 => ?_)
    refine s_nn (nzC (kC_of q9)) ?_
    refine s_callV (a := a0) (c := 2) (inj := inV) (As := [.ref (gB (GC w) + (a0 + 6)), .ref (gB (GC w) + (gr h7 (a0 + 1) v1.toNatClampNeg))]) (st := []) rfl hG hE dX2_claimInstead_56 hR (by decide) vv_X2_57 (by decide) rfl p0 rfl (Nat.le_of_ble_eq_true rfl) rfl (fun zv zh zq => c_X2_weigh w (xl x) a0 p0 (a0 + 6) ((fC_2_5 p0).2) (gr h7 (a0 + 1) v1.toNatClampNeg) (kC_of q9) h7 zv zh zq) (fun v10 h11 => ?_)
    refine s_aload_n hG dX2_claimInstead_59 1 rfl rfl ?_
    refine s_callV (a := a0) (c := 2) (inj := inV) (As := []) (st := []) rfl hG hE dX2_claimInstead_60 hR (by decide) vv_X2_91 (by decide) rfl p0 rfl (Nat.le_of_ble_eq_true rfl) rfl (fun zv zh zq => c_X2_settle w (xl x) a0 p0 h11 zv zh zq) (fun v12 h13 => ?_)
    exact s_vret hG hT dX2_claimInstead_63
  · exact s_vret hG hT dX2_claimInstead_12

theorem c_X2_claimInstead (w : WT) (l : Launch) (a0 : Nat) (p0 : LC a0 = (3, 0)) (a1 : Int32) (a2 : Nat) (p2 : LC a2 = (1, 0)) (a3 : Int32) (h : Hp) : ∀ v h', m_X2_claimInstead a0 a1 a2 a3 h = some (v, h') → MetM l (GC w) yX2_claimInstead cX2_claimInstead 5 none 5 [.ref (gB (GC w) + a0), .int a1, .ref (gB (GC w) + a2), .int a3] h (inV v) h' :=
  met_of (by decide) (lokC w) (Nat.le_of_ble_eq_true rfl) (fun x hx hG hE hR hT => s_X2_claimInstead w hx hG hE hR hT a0 p0 a1 a2 p2 a3 h)
theorem vv_X8_230 : VV RX8 230 yX2_claimInstead cX2_claimInstead 5 none 3 := ⟨⟨gw_at 943 (by decide +kernel) (by decide +kernel), gw_at 946 (by decide +kernel) (by decide +kernel), gw_at 89 (by decide +kernel) (by decide +kernel), by decide +kernel, by decide⟩, gw_at 944 (by decide +kernel) (by decide +kernel), gw_at 945 (by decide +kernel) (by decide +kernel)⟩
theorem wd_942 : Jvm.Cond.constantLong RX8 228 (-1) ∈ GW := gw_at 942 (by decide +kernel) (by decide +kernel)
def m_X8_wise_L48 : Nat → Int32 → Int32 → Int64 → Int32 → Hp → Option (Int32 × Hp)
  | 0, _, _, _, _, _ => none
  | n + 1, a1, a3, a4, a6, h => if 99 < a6 then some (a3, h) else ck (inb a1 24) (cb (m_X2_claimInstead 11 a1 (96 + 2 * a1.toNatClampNeg) a6 h) fun _ h4 => cb (m_X2_paidInTruth 11 h4) fun v5 h6 => if v5 ≤ a4 then vb (a6 + 1) fun v8 => m_X8_wise_L48 n a1 a3 a4 v8 h6 else vb (a6 + 1) fun v9 => m_X8_wise_L48 n a1 a6 v5 v9 h6)
set_option maxRecDepth 20000 in
set_option maxHeartbeats 4000000 in
theorem s_X8_wise_L48 (w : WT) {x : CT} {l : Launch} (hx : xl x = l) (hG : Gd x cX8_wise 9 RX8) (hE : Ge x (GC w)) (hR : Rm x 7) (hT : Rt x (some .int)) : ∀ (n : Nat) (a1 : Int32) (a3 : Int32) (a4 : Int64) (a6 : Int32) (h : Hp), Sn x 9 (gA (GC w)) (0, 0) (ζM x (GC w) inI) (gW (GC w) h) 48 [(0, .ref (gB (GC w) + 1)), (1, .int a1), (3, .int a3), (4, .long a4), (6, .int a6)] [] (m_X8_wise_L48 n a1 a3 a4 a6 h) := by
  intro n
  induction n with
  | zero => intro a1 a3 a4 a6 h; exact s_none
  | succ n ih =>
    intro a1 a3 a4 a6 h
    rw [m_X8_wise_L48]
    refine s_iload hG dX8_wise_48 4 rfl ?_
    refine s_bipush hG dX8_wise_50 bc_99 ?_
    refine s_icmp_gt hG dX8_wise_52 (tgt := 101) (by decide) (fun q1 => ?_) (fun q1 => ?_)
    · refine s_iload_n hG dX8_wise_101 2 rfl rfl ?_
      exact s_iret hG hT dX8_wise_102
    · refine s_aload_n hG dX8_wise_55 0 rfl rfl ?_
      refine s_getS hG hE dX8_wise_56 fl_X8_55 rfl kC_1 fC_8_8 (nzC kC_11) ?_
      refine s_iload_n hG dX8_wise_59 1 rfl rfl ?_
      refine s_aload_n hG dX8_wise_60 0 rfl rfl ?_
      refine s_getS hG hE dX8_wise_61 fl_X8_26 rfl kC_1 fC_8_3 (nzC kC_5) ?_
      refine s_iload_n hG dX8_wise_64 1 rfl rfl ?_
      refine s_ck (fun q2 => ?_)
      refine s_aaldS (j := 0) hG hE dX8_wise_65 (by decide) kC_5 q2 ((eC_8_3 q2).1) (nzC ((eC_8_3 q2).2)) ?_
      refine s_iload hG dX8_wise_66 4 rfl ?_
      refine s_callV (a := 11) (c := 2) (inj := inV) (As := [.int a1, .ref (gB (GC w) + (96 + 2 * a1.toNatClampNeg)), .int a6]) (st := []) rfl hG hE dX8_wise_68 hR (by decide) vv_X8_230 (by decide) rfl kC_11 rfl (Nat.le_of_ble_eq_true rfl) rfl (fun zv zh zq => c_X2_claimInstead w (xl x) 11 kC_11 a1 (96 + 2 * a1.toNatClampNeg) ((eC_8_3 q2).2) a6 h zv zh zq) (fun v3 h4 => ?_)
      refine s_aload_n hG dX8_wise_71 0 rfl rfl ?_
      refine s_getS hG hE dX8_wise_72 fl_X8_55 rfl kC_1 fC_8_8 (nzC kC_11) ?_
      refine s_callV (a := 11) (c := 2) (inj := inL) (As := []) (st := []) rfl hG hE dX8_wise_75 hR (by decide) vv_X8_196 (by decide) rfl kC_11 rfl (Nat.le_of_ble_eq_true rfl) rfl (fun zv zh zq => c_X2_paidInTruth w (xl x) 11 kC_11 h4 zv zh zq) (fun v5 h6 => ?_)
      refine s_lstore (lv' := [(7, .long v5), (0, .ref (gB (GC w) + 1)), (1, .int a1), (3, .int a3), (4, .long a4), (6, .int a6)]) hG dX8_wise_78 (by decide) rfl ?_
      refine s_lload hG dX8_wise_80 0 rfl ?_
      refine s_lload hG dX8_wise_82 4 rfl ?_
      refine s_lcmp_le hG dX8_wise_84 dX8_wise_85 (tgt := 95) (by decide) (fun q7 => ?_) (fun q7 => ?_)
      · refine s_iinc hG dX8_wise_95 5 rfl ic_1 (by decide) (fun v8 => [(6, .int v8), (7, .long v5), (0, .ref (gB (GC w) + 1)), (1, .int a1), (3, .int a3), (4, .long a4)]) (fun _ => rfl) (fun v8 => ?_)
        refine s_goto (tgt := 48) hG dX8_wise_98 (by decide) ?_
        refine s_lv [2, 3, 4, 5, 0] rfl ?_
        exact ih a1 a3 a4 v8 h6
      · refine s_lload hG dX8_wise_88 0 rfl ?_
        refine s_lstore (lv' := [(4, .long v5), (7, .long v5), (0, .ref (gB (GC w) + 1)), (1, .int a1), (3, .int a3), (6, .int a6)]) hG dX8_wise_90 (by decide) rfl ?_
        refine s_iload hG dX8_wise_92 5 rfl ?_
        refine s_istore_n (lv' := [(3, .int a6), (4, .long v5), (7, .long v5), (0, .ref (gB (GC w) + 1)), (1, .int a1), (6, .int a6)]) hG dX8_wise_94 rfl (by decide) rfl ?_
        refine s_iinc hG dX8_wise_95 5 rfl ic_1 (by decide) (fun v9 => [(6, .int v9), (3, .int a6), (4, .long v5), (7, .long v5), (0, .ref (gB (GC w) + 1)), (1, .int a1)]) (fun _ => rfl) (fun v9 => ?_)
        refine s_goto (tgt := 48) hG dX8_wise_98 (by decide) ?_
        refine s_lv [4, 5, 1, 2, 0] rfl ?_
        exact ih a1 a6 v5 v9 h6

def m_X8_wise (a1 : Int32) (h : Hp) : Option (Int32 × Hp) := cb (m_X8_isClaim a1 h) fun v1 h2 => if v1 = 0 then some ((-1), h2) else ck (inb a1 24) (vb (gi h2 (96 + 2 * a1.toNatClampNeg) 0) fun v5 => ck (inb v5 5) (cb (m_X8_hear 11 v5 (gi h2 (91 + 1 * v5.toNatClampNeg) 2) h2) fun _ h8 => m_X8_wise_L48 FU a1 1 (-1) 1 h8))
set_option maxRecDepth 20000 in
set_option maxHeartbeats 4000000 in
theorem s_X8_wise (w : WT) {x : CT} {l : Launch} (hx : xl x = l) (hG : Gd x cX8_wise 9 RX8) (hE : Ge x (GC w)) (hR : Rm x 7) (hT : Rt x (some .int)) (a1 : Int32) (h : Hp) : Sn x 9 (gA (GC w)) (0, 0) (ζM x (GC w) inI) (gW (GC w) h) 0 [(0, .ref (gB (GC w) + 1)), (1, .int a1)] [] (m_X8_wise a1 h) := by
  unfold m_X8_wise
  refine s_aload_n hG dX8_wise_0 0 rfl rfl ?_
  refine s_iload_n hG dX8_wise_1 1 rfl rfl ?_
  refine s_callV (a := 1) (c := 8) (inj := inI) (As := [.int a1]) (st := []) rfl hG hE dX8_wise_2 hR (by decide) vv_X8_107 (by decide) rfl kC_1 rfl (Nat.le_of_ble_eq_true rfl) rfl (fun zv zh zq => c_X8_isClaim w (xl x) a1 h zv zh zq) (fun v1 h2 => ?_)
  refine s_if_ne hG dX8_wise_5 (tgt := 10) (by decide) (fun q3 => ?_) (fun q3 => ?_)
  · refine s_iconst hG dX8_wise_8 ic_m1 ?_
    exact s_iret hG hT dX8_wise_9
  · refine s_aload_n hG dX8_wise_10 0 rfl rfl ?_
    refine s_getS hG hE dX8_wise_11 fl_X8_26 rfl kC_1 fC_8_3 (nzC kC_5) ?_
    refine s_iload_n hG dX8_wise_14 1 rfl rfl ?_
    refine s_ck (fun q4 => ?_)
    refine s_aaldS (j := 0) hG hE dX8_wise_15 (by decide) kC_5 q4 ((eC_8_3 q4).1) (nzC ((eC_8_3 q4).2)) ?_
    refine s_getI hG hE dX8_wise_16 fl_X8_146 rfl ((eC_8_3 q4).2) ?_
    refine s_vI (fun v5 => ?_)
    refine s_istore_n (lv' := [(2, .int v5), (0, .ref (gB (GC w) + 1)), (1, .int a1)]) hG dX8_wise_19 rfl (by decide) rfl ?_
    refine s_aload_n hG dX8_wise_20 1 rfl rfl ?_
    refine s_aload_n hG dX8_wise_21 1 rfl rfl ?_
    refine s_getS hG hE dX8_wise_22 fl_X8_55 rfl kC_1 fC_8_8 (nzC kC_11) ?_
    refine s_iload_n hG dX8_wise_25 0 rfl rfl ?_
    refine s_aload_n hG dX8_wise_26 1 rfl rfl ?_
    refine s_getS hG hE dX8_wise_27 fl_X8_20 rfl kC_1 fC_8_2 (nzC kC_4) ?_
    refine s_iload_n hG dX8_wise_30 0 rfl rfl ?_
    refine s_ck (fun q6 => ?_)
    refine s_aaldS (j := 3) hG hE dX8_wise_31 (by decide) kC_4 q6 ((eC_8_2 q6).1) (nzC ((eC_8_2 q6).2)) ?_
    refine s_getI hG hE dX8_wise_32 fl_X8_90 rfl ((eC_8_2 q6).2) ?_
    refine s_callV (a := 1) (c := 8) (inj := inV) (As := [.ref (gB (GC w) + 11), .int v5, .int (gi h2 (91 + 1 * v5.toNatClampNeg) 2)]) (st := []) rfl hG hE dX8_wise_35 hR (by decide) vv_X8_149 (by decide) rfl kC_1 rfl (Nat.le_of_ble_eq_true rfl) rfl (fun zv zh zq => c_X8_hear w (xl x) 11 kC_11 v5 (gi h2 (91 + 1 * v5.toNatClampNeg) 2) h2 zv zh zq) (fun v7 h8 => ?_)
    refine s_iconst hG dX8_wise_38 ic_1 ?_
    refine s_istore_n (lv' := [(3, .int 1), (2, .int v5), (0, .ref (gB (GC w) + 1)), (1, .int a1)]) hG dX8_wise_39 rfl (by decide) rfl ?_
    refine s_ldc2 hG dX8_wise_40 wd_942 ?_
    refine s_lstore (lv' := [(4, .long (-1)), (3, .int 1), (2, .int v5), (0, .ref (gB (GC w) + 1)), (1, .int a1)]) hG dX8_wise_43 (by decide) rfl ?_
    refine s_iconst hG dX8_wise_45 ic_1 ?_
    refine s_istore (lv' := [(6, .int 1), (4, .long (-1)), (3, .int 1), (2, .int v5), (0, .ref (gB (GC w) + 1)), (1, .int a1)]) hG dX8_wise_46 (by decide) rfl ?_
    refine s_lv [4, 5, 2, 1, 0] rfl ?_
    exact s_X8_wise_L48 w hx hG hE hR hT FU a1 1 (-1) 1 h8

theorem c_X8_wise (w : WT) (l : Launch) (a1 : Int32) (h : Hp) : ∀ v h', m_X8_wise a1 h = some (v, h') → MetM l (GC w) yX8_wise cX8_wise 9 (some .int) 7 [.ref (gB (GC w) + 1), .int a1] h (inI v) h' :=
  met_of (by decide) (lokC w) (Nat.le_of_ble_eq_true rfl) (fun x hx hG hE hR hT => s_X8_wise w hx hG hE hR hT a1 h)
theorem wd_951 : Jvm.Cond.constantLong RX8 234 (-9223372036854775807) ∈ GW := gw_at 951 (by decide +kernel) (by decide +kernel)
theorem fl_X8_59 : FL RX8 59 8 9 := ⟨by decide, by decide, gw_at 420 (by decide +kernel) (by decide +kernel), rfl⟩
theorem fC_8_9 : SC 1 9 = some 50 := rfl
theorem kC_50 : LC 50 = (3, 0) := rfl
def m_X8_off (a1 : Int32) (a2 : Int32) (a3 : Int32) (h : Hp) : Option (Int64 × Hp) := cb (m_X8_isSuit a1 h) fun v1 h2 => if v1 = 0 then some ((-9223372036854775808), h2) else cb (m_X8_isSuit a2 h2) fun v4 h5 => if v4 = 0 then some ((-9223372036854775808), h5) else cb (m_X8_isPart a3 h5) fun v7 h8 => if v7 = 0 then some ((-9223372036854775808), h8) else ck (inb a1 5) (ck (inb a2 5) (if (gi h8 (91 + 1 * a1.toNatClampNeg) 0) = (gi h8 (91 + 1 * a2.toNatClampNeg) 1) then if (gi h8 (91 + 1 * a1.toNatClampNeg) 1) = (gi h8 (91 + 1 * a2.toNatClampNeg) 0) then cb (m_X8_hear 11 a1 (gi h8 (91 + 1 * a1.toNatClampNeg) 2) h8) fun _ h15 => cb (m_X8_hear 50 a2 (gi h15 (91 + 1 * a2.toNatClampNeg) 2) h15) fun _ h17 => cb (m_X2_paidInTruth 11 h17) fun v18 h19 => cb (m_X2_below 50 h19) fun v20 h21 => cb (m_X2_paidInTruth 50 h21) fun v22 h23 => cb (m_X2_below 11 h23) fun v24 h25 => vb ((v18 * v20) - (v22 * v24)) fun v26 => cb (m_X2_below 11 h25) fun v27 h28 => cb (m_X2_below 50 h28) fun v29 h30 => cb (m_X8_lowest v26 (v27 * v29) a3 h30) fun v31 h32 => some (v31, h32) else some ((-9223372036854775807), h8) else some ((-9223372036854775807), h8)))
set_option maxRecDepth 20000 in
set_option maxHeartbeats 4000000 in
theorem s_X8_off (w : WT) {x : CT} {l : Launch} (hx : xl x = l) (hG : Gd x cX8_off 8 RX8) (hE : Ge x (GC w)) (hR : Rm x 7) (hT : Rt x (some .long)) (a1 : Int32) (a2 : Int32) (a3 : Int32) (h : Hp) : Sn x 8 (gA (GC w)) (0, 0) (ζM x (GC w) inL) (gW (GC w) h) 0 [(0, .ref (gB (GC w) + 1)), (1, .int a1), (2, .int a2), (3, .int a3)] [] (m_X8_off a1 a2 a3 h) := by
  unfold m_X8_off
  refine s_aload_n hG dX8_off_0 0 rfl rfl ?_
  refine s_iload_n hG dX8_off_1 1 rfl rfl ?_
  refine s_callV (a := 1) (c := 8) (inj := inI) (As := [.int a1]) (st := []) rfl hG hE dX8_off_2 hR (by decide) vv_X8_93 (by decide) rfl kC_1 rfl (Nat.le_of_ble_eq_true rfl) rfl (fun zv zh zq => c_X8_isSuit w (xl x) a1 h zv zh zq) (fun v1 h2 => ?_)
  refine s_if_eq hG dX8_off_5 (tgt := 23) (by decide) (fun q3 => ?_) (fun q3 => ?_)
  · refine s_ldc2 hG dX8_off_23 wd_814 ?_
    exact s_lret hG hT dX8_off_26
  · refine s_aload_n hG dX8_off_8 0 rfl rfl ?_
    refine s_iload_n hG dX8_off_9 2 rfl rfl ?_
    refine s_callV (a := 1) (c := 8) (inj := inI) (As := [.int a2]) (st := []) rfl hG hE dX8_off_10 hR (by decide) vv_X8_93 (by decide) rfl kC_1 rfl (Nat.le_of_ble_eq_true rfl) rfl (fun zv zh zq => c_X8_isSuit w (xl x) a2 h2 zv zh zq) (fun v4 h5 => ?_)
    refine s_if_eq hG dX8_off_13 (tgt := 23) (by decide) (fun q6 => ?_) (fun q6 => ?_)
    · refine s_ldc2 hG dX8_off_23 wd_814 ?_
      exact s_lret hG hT dX8_off_26
    · refine s_iload_n hG dX8_off_16 3 rfl rfl ?_
      refine s_callS (inj := inI) (As := [.int a3]) (st := []) rfl hG hE dX8_off_17 hR (by decide) vs_X8_175 rfl (Nat.le_of_ble_eq_true rfl) rfl (fun zv zh zq => c_X8_isPart w (xl x) a3 h5 zv zh zq) (fun v7 h8 => ?_)
      refine s_if_ne hG dX8_off_20 (tgt := 27) (by decide) (fun q9 => ?_) (fun q9 => ?_)
      · refine s_ldc2 hG dX8_off_23 wd_814 ?_
        exact s_lret hG hT dX8_off_26
      · refine s_aload_n hG dX8_off_27 0 rfl rfl ?_
        refine s_getS hG hE dX8_off_28 fl_X8_20 rfl kC_1 fC_8_2 (nzC kC_4) ?_
        refine s_iload_n hG dX8_off_31 1 rfl rfl ?_
        refine s_ck (fun q10 => ?_)
        refine s_aaldS (j := 3) hG hE dX8_off_32 (by decide) kC_4 q10 ((eC_8_2 q10).1) (nzC ((eC_8_2 q10).2)) ?_
        refine s_astore (lv' := [(4, .ref (gB (GC w) + (91 + 1 * a1.toNatClampNeg))), (0, .ref (gB (GC w) + 1)), (1, .int a1), (2, .int a2), (3, .int a3)]) hG dX8_off_33 (by decide) rfl ?_
        refine s_aload_n hG dX8_off_35 1 rfl rfl ?_
        refine s_getS hG hE dX8_off_36 fl_X8_20 rfl kC_1 fC_8_2 (nzC kC_4) ?_
        refine s_iload_n hG dX8_off_39 3 rfl rfl ?_
        refine s_ck (fun q11 => ?_)
        refine s_aaldS (j := 3) hG hE dX8_off_40 (by decide) kC_4 q11 ((eC_8_2 q11).1) (nzC ((eC_8_2 q11).2)) ?_
        refine s_astore (lv' := [(5, .ref (gB (GC w) + (91 + 1 * a2.toNatClampNeg))), (4, .ref (gB (GC w) + (91 + 1 * a1.toNatClampNeg))), (0, .ref (gB (GC w) + 1)), (1, .int a1), (2, .int a2), (3, .int a3)]) hG dX8_off_41 (by decide) rfl ?_
        refine s_aload hG dX8_off_43 1 rfl ?_
        refine s_getI hG hE dX8_off_45 fl_X8_84 rfl ((eC_8_2 q10).2) ?_
        refine s_aload hG dX8_off_48 0 rfl ?_
        refine s_getI hG hE dX8_off_50 fl_X8_87 rfl ((eC_8_2 q11).2) ?_
        refine s_icmp_ne hG dX8_off_53 (tgt := 69) (by decide) (fun q12 => ?_) (fun q12 => ?_)
        · refine s_aload hG dX8_off_56 1 rfl ?_
          refine s_getI hG hE dX8_off_58 fl_X8_87 rfl ((eC_8_2 q10).2) ?_
          refine s_aload hG dX8_off_61 0 rfl ?_
          refine s_getI hG hE dX8_off_63 fl_X8_84 rfl ((eC_8_2 q11).2) ?_
          refine s_icmp_eq hG dX8_off_66 (tgt := 73) (by decide) (fun q13 => ?_) (fun q13 => ?_)
          · refine s_aload_n hG dX8_off_73 2 rfl rfl ?_
            refine s_aload_n hG dX8_off_74 2 rfl rfl ?_
            refine s_getS hG hE dX8_off_75 fl_X8_55 rfl kC_1 fC_8_8 (nzC kC_11) ?_
            refine s_iload_n hG dX8_off_78 3 rfl rfl ?_
            refine s_aload hG dX8_off_79 1 rfl ?_
            refine s_getI hG hE dX8_off_81 fl_X8_90 rfl ((eC_8_2 q10).2) ?_
            refine s_callV (a := 1) (c := 8) (inj := inV) (As := [.ref (gB (GC w) + 11), .int a1, .int (gi h8 (91 + 1 * a1.toNatClampNeg) 2)]) (st := []) rfl hG hE dX8_off_84 hR (by decide) vv_X8_149 (by decide) rfl kC_1 rfl (Nat.le_of_ble_eq_true rfl) rfl (fun zv zh zq => c_X8_hear w (xl x) 11 kC_11 a1 (gi h8 (91 + 1 * a1.toNatClampNeg) 2) h8 zv zh zq) (fun v14 h15 => ?_)
            refine s_aload_n hG dX8_off_87 2 rfl rfl ?_
            refine s_aload_n hG dX8_off_88 2 rfl rfl ?_
            refine s_getS hG hE dX8_off_89 fl_X8_59 rfl kC_1 fC_8_9 (nzC kC_50) ?_
            refine s_iload_n hG dX8_off_92 4 rfl rfl ?_
            refine s_aload hG dX8_off_93 0 rfl ?_
            refine s_getI hG hE dX8_off_95 fl_X8_90 rfl ((eC_8_2 q11).2) ?_
            refine s_callV (a := 1) (c := 8) (inj := inV) (As := [.ref (gB (GC w) + 50), .int a2, .int (gi h15 (91 + 1 * a2.toNatClampNeg) 2)]) (st := []) rfl hG hE dX8_off_98 hR (by decide) vv_X8_149 (by decide) rfl kC_1 rfl (Nat.le_of_ble_eq_true rfl) rfl (fun zv zh zq => c_X8_hear w (xl x) 50 kC_50 a2 (gi h15 (91 + 1 * a2.toNatClampNeg) 2) h15 zv zh zq) (fun v16 h17 => ?_)
            refine s_aload_n hG dX8_off_101 2 rfl rfl ?_
            refine s_getS hG hE dX8_off_102 fl_X8_55 rfl kC_1 fC_8_8 (nzC kC_11) ?_
            refine s_callV (a := 11) (c := 2) (inj := inL) (As := []) (st := []) rfl hG hE dX8_off_105 hR (by decide) vv_X8_196 (by decide) rfl kC_11 rfl (Nat.le_of_ble_eq_true rfl) rfl (fun zv zh zq => c_X2_paidInTruth w (xl x) 11 kC_11 h17 zv zh zq) (fun v18 h19 => ?_)
            refine s_aload_n hG dX8_off_108 2 rfl rfl ?_
            refine s_getS hG hE dX8_off_109 fl_X8_59 rfl kC_1 fC_8_9 (nzC kC_50) ?_
            refine s_callV (a := 50) (c := 2) (inj := inL) (As := []) (st := [.long v18]) rfl hG hE dX8_off_112 hR (by decide) vv_X8_184 (by decide) rfl kC_50 rfl (Nat.le_of_ble_eq_true rfl) rfl (fun zv zh zq => c_X2_below w (xl x) 50 kC_50 h19 zv zh zq) (fun v20 h21 => ?_)
            refine s_lmul hG dX8_off_115 ?_
            refine s_aload_n hG dX8_off_116 2 rfl rfl ?_
            refine s_getS hG hE dX8_off_117 fl_X8_59 rfl kC_1 fC_8_9 (nzC kC_50) ?_
            refine s_callV (a := 50) (c := 2) (inj := inL) (As := []) (st := [.long (v18 * v20)]) rfl hG hE dX8_off_120 hR (by decide) vv_X8_196 (by decide) rfl kC_50 rfl (Nat.le_of_ble_eq_true rfl) rfl (fun zv zh zq => c_X2_paidInTruth w (xl x) 50 kC_50 h21 zv zh zq) (fun v22 h23 => ?_)
            refine s_aload_n hG dX8_off_123 2 rfl rfl ?_
            refine s_getS hG hE dX8_off_124 fl_X8_55 rfl kC_1 fC_8_8 (nzC kC_11) ?_
            refine s_callV (a := 11) (c := 2) (inj := inL) (As := []) (st := [.long v22, .long (v18 * v20)]) rfl hG hE dX8_off_127 hR (by decide) vv_X8_184 (by decide) rfl kC_11 rfl (Nat.le_of_ble_eq_true rfl) rfl (fun zv zh zq => c_X2_below w (xl x) 11 kC_11 h23 zv zh zq) (fun v24 h25 => ?_)
            refine s_lmul hG dX8_off_130 ?_
            refine s_lsub hG dX8_off_131 ?_
            refine s_vL (fun v26 => ?_)
            refine s_lstore (lv' := [(6, .long v26), (5, .ref (gB (GC w) + (91 + 1 * a2.toNatClampNeg))), (4, .ref (gB (GC w) + (91 + 1 * a1.toNatClampNeg))), (0, .ref (gB (GC w) + 1)), (1, .int a1), (2, .int a2), (3, .int a3)]) hG dX8_off_132 (by decide) rfl ?_
            refine s_lload hG dX8_off_134 0 rfl ?_
            refine s_aload_n hG dX8_off_136 3 rfl rfl ?_
            refine s_getS hG hE dX8_off_137 fl_X8_55 rfl kC_1 fC_8_8 (nzC kC_11) ?_
            refine s_callV (a := 11) (c := 2) (inj := inL) (As := []) (st := [.long v26]) rfl hG hE dX8_off_140 hR (by decide) vv_X8_184 (by decide) rfl kC_11 rfl (Nat.le_of_ble_eq_true rfl) rfl (fun zv zh zq => c_X2_below w (xl x) 11 kC_11 h25 zv zh zq) (fun v27 h28 => ?_)
            refine s_aload_n hG dX8_off_143 3 rfl rfl ?_
            refine s_getS hG hE dX8_off_144 fl_X8_59 rfl kC_1 fC_8_9 (nzC kC_50) ?_
            refine s_callV (a := 50) (c := 2) (inj := inL) (As := []) (st := [.long v27, .long v26]) rfl hG hE dX8_off_147 hR (by decide) vv_X8_184 (by decide) rfl kC_50 rfl (Nat.le_of_ble_eq_true rfl) rfl (fun zv zh zq => c_X2_below w (xl x) 50 kC_50 h28 zv zh zq) (fun v29 h30 => ?_)
            refine s_lmul hG dX8_off_150 ?_
            refine s_iload_n hG dX8_off_151 6 rfl rfl ?_
            refine s_callS (inj := inL) (As := [.long v26, .long (v27 * v29), .int a3]) (st := []) rfl hG hE dX8_off_152 hR (by decide) vs_X8_188 rfl (Nat.le_of_ble_eq_true rfl) rfl (fun zv zh zq => c_X8_lowest w (xl x) v26 (v27 * v29) a3 h30 zv zh zq) (fun v31 h32 => ?_)
            exact s_lret hG hT dX8_off_155
          · refine s_ldc2 hG dX8_off_69 wd_951 ?_
            exact s_lret hG hT dX8_off_72
        · refine s_ldc2 hG dX8_off_69 wd_951 ?_
          exact s_lret hG hT dX8_off_72

theorem c_X8_off (w : WT) (l : Launch) (a1 : Int32) (a2 : Int32) (a3 : Int32) (h : Hp) : ∀ v h', m_X8_off a1 a2 a3 h = some (v, h') → MetM l (GC w) yX8_off cX8_off 8 (some .long) 7 [.ref (gB (GC w) + 1), .int a1, .int a2, .int a3] h (inL v) h' :=
  met_of (by decide) (lokC w) (Nat.le_of_ble_eq_true rfl) (fun x hx hG hE hR hT => s_X8_off w hx hG hE hR hT a1 a2 a3 h)
def m_X8_beside (a1 : Int32) (a2 : Int32) (a3 : Int32) (h : Hp) : Option (Int32 × Hp) := cb (m_X8_isClaim a1 h) fun v1 h2 => if v1 = 0 then some ((-1), h2) else cb (m_X8_isLaw a2 h2) fun v4 h5 => if v4 = 0 then some ((-1), h5) else cb (m_X8_isLaw a3 h5) fun v7 h8 => if v7 = 0 then some ((-1), h8) else ck (inb a1 24) (cb (m_X8_hear 11 (gi h8 (96 + 2 * a1.toNatClampNeg) 0) a2 h8) fun _ h12 => cb (m_X8_hear 50 (gi h12 (96 + 2 * a1.toNatClampNeg) 0) a3 h12) fun _ h14 => cb (m_X2_comesOf 11 a1 h14) fun v15 h16 => cb (m_X2_comesOf 50 a1 h16) fun v17 h18 => some ((v15 * 10) + v17, h18))
set_option maxRecDepth 20000 in
set_option maxHeartbeats 4000000 in
theorem s_X8_beside (w : WT) {x : CT} {l : Launch} (hx : xl x = l) (hG : Gd x cX8_beside 4 RX8) (hE : Ge x (GC w)) (hR : Rm x 7) (hT : Rt x (some .int)) (a1 : Int32) (a2 : Int32) (a3 : Int32) (h : Hp) : Sn x 4 (gA (GC w)) (0, 0) (ζM x (GC w) inI) (gW (GC w) h) 0 [(0, .ref (gB (GC w) + 1)), (1, .int a1), (2, .int a2), (3, .int a3)] [] (m_X8_beside a1 a2 a3 h) := by
  unfold m_X8_beside
  refine s_aload_n hG dX8_beside_0 0 rfl rfl ?_
  refine s_iload_n hG dX8_beside_1 1 rfl rfl ?_
  refine s_callV (a := 1) (c := 8) (inj := inI) (As := [.int a1]) (st := []) rfl hG hE dX8_beside_2 hR (by decide) vv_X8_107 (by decide) rfl kC_1 rfl (Nat.le_of_ble_eq_true rfl) rfl (fun zv zh zq => c_X8_isClaim w (xl x) a1 h zv zh zq) (fun v1 h2 => ?_)
  refine s_if_eq hG dX8_beside_5 (tgt := 24) (by decide) (fun q3 => ?_) (fun q3 => ?_)
  · refine s_iconst hG dX8_beside_24 ic_m1 ?_
    exact s_iret hG hT dX8_beside_25
  · refine s_aload_n hG dX8_beside_8 0 rfl rfl ?_
    refine s_iload_n hG dX8_beside_9 2 rfl rfl ?_
    refine s_callV (a := 1) (c := 8) (inj := inI) (As := [.int a2]) (st := []) rfl hG hE dX8_beside_10 hR (by decide) vv_X8_77 (by decide) rfl kC_1 rfl (Nat.le_of_ble_eq_true rfl) rfl (fun zv zh zq => c_X8_isLaw w (xl x) a2 h2 zv zh zq) (fun v4 h5 => ?_)
    refine s_if_eq hG dX8_beside_13 (tgt := 24) (by decide) (fun q6 => ?_) (fun q6 => ?_)
    · refine s_iconst hG dX8_beside_24 ic_m1 ?_
      exact s_iret hG hT dX8_beside_25
    · refine s_aload_n hG dX8_beside_16 0 rfl rfl ?_
      refine s_iload_n hG dX8_beside_17 3 rfl rfl ?_
      refine s_callV (a := 1) (c := 8) (inj := inI) (As := [.int a3]) (st := []) rfl hG hE dX8_beside_18 hR (by decide) vv_X8_77 (by decide) rfl kC_1 rfl (Nat.le_of_ble_eq_true rfl) rfl (fun zv zh zq => c_X8_isLaw w (xl x) a3 h5 zv zh zq) (fun v7 h8 => ?_)
      refine s_if_ne hG dX8_beside_21 (tgt := 26) (by decide) (fun q9 => ?_) (fun q9 => ?_)
      · refine s_iconst hG dX8_beside_24 ic_m1 ?_
        exact s_iret hG hT dX8_beside_25
      · refine s_aload_n hG dX8_beside_26 0 rfl rfl ?_
        refine s_aload_n hG dX8_beside_27 0 rfl rfl ?_
        refine s_getS hG hE dX8_beside_28 fl_X8_55 rfl kC_1 fC_8_8 (nzC kC_11) ?_
        refine s_aload_n hG dX8_beside_31 0 rfl rfl ?_
        refine s_getS hG hE dX8_beside_32 fl_X8_26 rfl kC_1 fC_8_3 (nzC kC_5) ?_
        refine s_iload_n hG dX8_beside_35 1 rfl rfl ?_
        refine s_ck (fun q10 => ?_)
        refine s_aaldS (j := 0) hG hE dX8_beside_36 (by decide) kC_5 q10 ((eC_8_3 q10).1) (nzC ((eC_8_3 q10).2)) ?_
        refine s_getI hG hE dX8_beside_37 fl_X8_146 rfl ((eC_8_3 q10).2) ?_
        refine s_iload_n hG dX8_beside_40 2 rfl rfl ?_
        refine s_callV (a := 1) (c := 8) (inj := inV) (As := [.ref (gB (GC w) + 11), .int (gi h8 (96 + 2 * a1.toNatClampNeg) 0), .int a2]) (st := []) rfl hG hE dX8_beside_41 hR (by decide) vv_X8_149 (by decide) rfl kC_1 rfl (Nat.le_of_ble_eq_true rfl) rfl (fun zv zh zq => c_X8_hear w (xl x) 11 kC_11 (gi h8 (96 + 2 * a1.toNatClampNeg) 0) a2 h8 zv zh zq) (fun v11 h12 => ?_)
        refine s_aload_n hG dX8_beside_44 0 rfl rfl ?_
        refine s_aload_n hG dX8_beside_45 0 rfl rfl ?_
        refine s_getS hG hE dX8_beside_46 fl_X8_59 rfl kC_1 fC_8_9 (nzC kC_50) ?_
        refine s_aload_n hG dX8_beside_49 0 rfl rfl ?_
        refine s_getS hG hE dX8_beside_50 fl_X8_26 rfl kC_1 fC_8_3 (nzC kC_5) ?_
        refine s_iload_n hG dX8_beside_53 1 rfl rfl ?_
        refine s_aaldS (j := 0) hG hE dX8_beside_54 (by decide) kC_5 q10 ((eC_8_3 q10).1) (nzC ((eC_8_3 q10).2)) ?_
        refine s_getI hG hE dX8_beside_55 fl_X8_146 rfl ((eC_8_3 q10).2) ?_
        refine s_iload_n hG dX8_beside_58 3 rfl rfl ?_
        refine s_callV (a := 1) (c := 8) (inj := inV) (As := [.ref (gB (GC w) + 50), .int (gi h12 (96 + 2 * a1.toNatClampNeg) 0), .int a3]) (st := []) rfl hG hE dX8_beside_59 hR (by decide) vv_X8_149 (by decide) rfl kC_1 rfl (Nat.le_of_ble_eq_true rfl) rfl (fun zv zh zq => c_X8_hear w (xl x) 50 kC_50 (gi h12 (96 + 2 * a1.toNatClampNeg) 0) a3 h12 zv zh zq) (fun v13 h14 => ?_)
        refine s_aload_n hG dX8_beside_62 0 rfl rfl ?_
        refine s_getS hG hE dX8_beside_63 fl_X8_55 rfl kC_1 fC_8_8 (nzC kC_11) ?_
        refine s_iload_n hG dX8_beside_66 1 rfl rfl ?_
        refine s_callV (a := 11) (c := 2) (inj := inI) (As := [.int a1]) (st := []) rfl hG hE dX8_beside_67 hR (by decide) vv_X8_153 (by decide) rfl kC_11 rfl (Nat.le_of_ble_eq_true rfl) rfl (fun zv zh zq => c_X2_comesOf w (xl x) 11 kC_11 a1 h14 zv zh zq) (fun v15 h16 => ?_)
        refine s_bipush hG dX8_beside_70 bc_10 ?_
        refine s_imul hG dX8_beside_72 ?_
        refine s_aload_n hG dX8_beside_73 0 rfl rfl ?_
        refine s_getS hG hE dX8_beside_74 fl_X8_59 rfl kC_1 fC_8_9 (nzC kC_50) ?_
        refine s_iload_n hG dX8_beside_77 1 rfl rfl ?_
        refine s_callV (a := 50) (c := 2) (inj := inI) (As := [.int a1]) (st := [.int (v15 * 10)]) rfl hG hE dX8_beside_78 hR (by decide) vv_X8_153 (by decide) rfl kC_50 rfl (Nat.le_of_ble_eq_true rfl) rfl (fun zv zh zq => c_X2_comesOf w (xl x) 50 kC_50 a1 h16 zv zh zq) (fun v17 h18 => ?_)
        refine s_iadd hG dX8_beside_81 ?_
        exact s_iret hG hT dX8_beside_82

theorem c_X8_beside (w : WT) (l : Launch) (a1 : Int32) (a2 : Int32) (a3 : Int32) (h : Hp) : ∀ v h', m_X8_beside a1 a2 a3 h = some (v, h') → MetM l (GC w) yX8_beside cX8_beside 4 (some .int) 7 [.ref (gB (GC w) + 1), .int a1, .int a2, .int a3] h (inI v) h' :=
  met_of (by decide) (lokC w) (Nat.le_of_ble_eq_true rfl) (fun x hx hG hE hR hT => s_X8_beside w hx hG hE hR hT a1 a2 a3 h)
def m_X8_ways_L65 : Nat → Int32 → Int32 → Hp → Option (Int32 × Hp)
  | 0, _, _, _ => none
  | n + 1, a1, a4, h => if 99 < a4 then some ((-5), h) else ck (inb a1 24) (cb (m_X2_claimInstead 11 a1 (96 + 2 * a1.toNatClampNeg) a4 h) fun _ h4 => cb (m_X2_claimInstead 50 a1 (96 + 2 * a1.toNatClampNeg) a4 h4) fun _ h6 => cb (m_X2_comesOf 11 a1 h6) fun v7 h8 => cb (m_X2_comesOf 50 a1 h8) fun v9 h10 => if v7 = v9 then vb (a4 + 1) fun v12 => m_X8_ways_L65 n a1 v12 h10 else some (a4, h10))
set_option maxRecDepth 20000 in
set_option maxHeartbeats 4000000 in
theorem s_X8_ways_L65 (w : WT) {x : CT} {l : Launch} (hx : xl x = l) (hG : Gd x cX8_ways 5 RX8) (hE : Ge x (GC w)) (hR : Rm x 7) (hT : Rt x (some .int)) : ∀ (n : Nat) (a1 : Int32) (a4 : Int32) (h : Hp), Sn x 5 (gA (GC w)) (0, 0) (ζM x (GC w) inI) (gW (GC w) h) 65 [(0, .ref (gB (GC w) + 1)), (1, .int a1), (4, .int a4)] [] (m_X8_ways_L65 n a1 a4 h) := by
  intro n
  induction n with
  | zero => intro a1 a4 h; exact s_none
  | succ n ih =>
    intro a1 a4 h
    rw [m_X8_ways_L65]
    refine s_iload hG dX8_ways_65 2 rfl ?_
    refine s_bipush hG dX8_ways_67 bc_99 ?_
    refine s_icmp_gt hG dX8_ways_69 (tgt := 132) (by decide) (fun q1 => ?_) (fun q1 => ?_)
    · refine s_bipush hG dX8_ways_132 bc_m5 ?_
      exact s_iret hG hT dX8_ways_134
    · refine s_aload_n hG dX8_ways_72 0 rfl rfl ?_
      refine s_getS hG hE dX8_ways_73 fl_X8_55 rfl kC_1 fC_8_8 (nzC kC_11) ?_
      refine s_iload_n hG dX8_ways_76 1 rfl rfl ?_
      refine s_aload_n hG dX8_ways_77 0 rfl rfl ?_
      refine s_getS hG hE dX8_ways_78 fl_X8_26 rfl kC_1 fC_8_3 (nzC kC_5) ?_
      refine s_iload_n hG dX8_ways_81 1 rfl rfl ?_
      refine s_ck (fun q2 => ?_)
      refine s_aaldS (j := 0) hG hE dX8_ways_82 (by decide) kC_5 q2 ((eC_8_3 q2).1) (nzC ((eC_8_3 q2).2)) ?_
      refine s_iload hG dX8_ways_83 2 rfl ?_
      refine s_callV (a := 11) (c := 2) (inj := inV) (As := [.int a1, .ref (gB (GC w) + (96 + 2 * a1.toNatClampNeg)), .int a4]) (st := []) rfl hG hE dX8_ways_85 hR (by decide) vv_X8_230 (by decide) rfl kC_11 rfl (Nat.le_of_ble_eq_true rfl) rfl (fun zv zh zq => c_X2_claimInstead w (xl x) 11 kC_11 a1 (96 + 2 * a1.toNatClampNeg) ((eC_8_3 q2).2) a4 h zv zh zq) (fun v3 h4 => ?_)
      refine s_aload_n hG dX8_ways_88 0 rfl rfl ?_
      refine s_getS hG hE dX8_ways_89 fl_X8_59 rfl kC_1 fC_8_9 (nzC kC_50) ?_
      refine s_iload_n hG dX8_ways_92 1 rfl rfl ?_
      refine s_aload_n hG dX8_ways_93 0 rfl rfl ?_
      refine s_getS hG hE dX8_ways_94 fl_X8_26 rfl kC_1 fC_8_3 (nzC kC_5) ?_
      refine s_iload_n hG dX8_ways_97 1 rfl rfl ?_
      refine s_aaldS (j := 0) hG hE dX8_ways_98 (by decide) kC_5 q2 ((eC_8_3 q2).1) (nzC ((eC_8_3 q2).2)) ?_
      refine s_iload hG dX8_ways_99 2 rfl ?_
      refine s_callV (a := 50) (c := 2) (inj := inV) (As := [.int a1, .ref (gB (GC w) + (96 + 2 * a1.toNatClampNeg)), .int a4]) (st := []) rfl hG hE dX8_ways_101 hR (by decide) vv_X8_230 (by decide) rfl kC_50 rfl (Nat.le_of_ble_eq_true rfl) rfl (fun zv zh zq => c_X2_claimInstead w (xl x) 50 kC_50 a1 (96 + 2 * a1.toNatClampNeg) ((eC_8_3 q2).2) a4 h4 zv zh zq) (fun v5 h6 => ?_)
      refine s_aload_n hG dX8_ways_104 0 rfl rfl ?_
      refine s_getS hG hE dX8_ways_105 fl_X8_55 rfl kC_1 fC_8_8 (nzC kC_11) ?_
      refine s_iload_n hG dX8_ways_108 1 rfl rfl ?_
      refine s_callV (a := 11) (c := 2) (inj := inI) (As := [.int a1]) (st := []) rfl hG hE dX8_ways_109 hR (by decide) vv_X8_153 (by decide) rfl kC_11 rfl (Nat.le_of_ble_eq_true rfl) rfl (fun zv zh zq => c_X2_comesOf w (xl x) 11 kC_11 a1 h6 zv zh zq) (fun v7 h8 => ?_)
      refine s_aload_n hG dX8_ways_112 0 rfl rfl ?_
      refine s_getS hG hE dX8_ways_113 fl_X8_59 rfl kC_1 fC_8_9 (nzC kC_50) ?_
      refine s_iload_n hG dX8_ways_116 1 rfl rfl ?_
      refine s_callV (a := 50) (c := 2) (inj := inI) (As := [.int a1]) (st := [.int v7]) rfl hG hE dX8_ways_117 hR (by decide) vv_X8_153 (by decide) rfl kC_50 rfl (Nat.le_of_ble_eq_true rfl) rfl (fun zv zh zq => c_X2_comesOf w (xl x) 50 kC_50 a1 h8 zv zh zq) (fun v9 h10 => ?_)
      refine s_icmp_eq hG dX8_ways_120 (tgt := 126) (by decide) (fun q11 => ?_) (fun q11 => ?_)
      · refine s_iinc hG dX8_ways_126 2 rfl ic_1 (by decide) (fun v12 => [(4, .int v12), (0, .ref (gB (GC w) + 1)), (1, .int a1)]) (fun _ => rfl) (fun v12 => ?_)
        refine s_goto (tgt := 65) hG dX8_ways_129 (by decide) ?_
        refine s_lv [1, 2, 0] rfl ?_
        exact ih a1 v12 h10
      · refine s_iload hG dX8_ways_123 2 rfl ?_
        exact s_iret hG hT dX8_ways_125

def m_X8_ways (a1 : Int32) (a2 : Int32) (a3 : Int32) (h : Hp) : Option (Int32 × Hp) := cb (m_X8_isClaim a1 h) fun v1 h2 => if v1 = 0 then some ((-1), h2) else cb (m_X8_isLaw a2 h2) fun v4 h5 => if v4 = 0 then some ((-1), h5) else cb (m_X8_isLaw a3 h5) fun v7 h8 => if v7 = 0 then some ((-1), h8) else ck (inb a1 24) (cb (m_X8_hear 11 (gi h8 (96 + 2 * a1.toNatClampNeg) 0) a2 h8) fun _ h12 => cb (m_X8_hear 50 (gi h12 (96 + 2 * a1.toNatClampNeg) 0) a3 h12) fun _ h14 => m_X8_ways_L65 FU a1 1 h14)
set_option maxRecDepth 20000 in
set_option maxHeartbeats 4000000 in
theorem s_X8_ways (w : WT) {x : CT} {l : Launch} (hx : xl x = l) (hG : Gd x cX8_ways 5 RX8) (hE : Ge x (GC w)) (hR : Rm x 7) (hT : Rt x (some .int)) (a1 : Int32) (a2 : Int32) (a3 : Int32) (h : Hp) : Sn x 5 (gA (GC w)) (0, 0) (ζM x (GC w) inI) (gW (GC w) h) 0 [(0, .ref (gB (GC w) + 1)), (1, .int a1), (2, .int a2), (3, .int a3)] [] (m_X8_ways a1 a2 a3 h) := by
  unfold m_X8_ways
  refine s_aload_n hG dX8_ways_0 0 rfl rfl ?_
  refine s_iload_n hG dX8_ways_1 1 rfl rfl ?_
  refine s_callV (a := 1) (c := 8) (inj := inI) (As := [.int a1]) (st := []) rfl hG hE dX8_ways_2 hR (by decide) vv_X8_107 (by decide) rfl kC_1 rfl (Nat.le_of_ble_eq_true rfl) rfl (fun zv zh zq => c_X8_isClaim w (xl x) a1 h zv zh zq) (fun v1 h2 => ?_)
  refine s_if_eq hG dX8_ways_5 (tgt := 24) (by decide) (fun q3 => ?_) (fun q3 => ?_)
  · refine s_iconst hG dX8_ways_24 ic_m1 ?_
    exact s_iret hG hT dX8_ways_25
  · refine s_aload_n hG dX8_ways_8 0 rfl rfl ?_
    refine s_iload_n hG dX8_ways_9 2 rfl rfl ?_
    refine s_callV (a := 1) (c := 8) (inj := inI) (As := [.int a2]) (st := []) rfl hG hE dX8_ways_10 hR (by decide) vv_X8_77 (by decide) rfl kC_1 rfl (Nat.le_of_ble_eq_true rfl) rfl (fun zv zh zq => c_X8_isLaw w (xl x) a2 h2 zv zh zq) (fun v4 h5 => ?_)
    refine s_if_eq hG dX8_ways_13 (tgt := 24) (by decide) (fun q6 => ?_) (fun q6 => ?_)
    · refine s_iconst hG dX8_ways_24 ic_m1 ?_
      exact s_iret hG hT dX8_ways_25
    · refine s_aload_n hG dX8_ways_16 0 rfl rfl ?_
      refine s_iload_n hG dX8_ways_17 3 rfl rfl ?_
      refine s_callV (a := 1) (c := 8) (inj := inI) (As := [.int a3]) (st := []) rfl hG hE dX8_ways_18 hR (by decide) vv_X8_77 (by decide) rfl kC_1 rfl (Nat.le_of_ble_eq_true rfl) rfl (fun zv zh zq => c_X8_isLaw w (xl x) a3 h5 zv zh zq) (fun v7 h8 => ?_)
      refine s_if_ne hG dX8_ways_21 (tgt := 26) (by decide) (fun q9 => ?_) (fun q9 => ?_)
      · refine s_iconst hG dX8_ways_24 ic_m1 ?_
        exact s_iret hG hT dX8_ways_25
      · refine s_aload_n hG dX8_ways_26 0 rfl rfl ?_
        refine s_aload_n hG dX8_ways_27 0 rfl rfl ?_
        refine s_getS hG hE dX8_ways_28 fl_X8_55 rfl kC_1 fC_8_8 (nzC kC_11) ?_
        refine s_aload_n hG dX8_ways_31 0 rfl rfl ?_
        refine s_getS hG hE dX8_ways_32 fl_X8_26 rfl kC_1 fC_8_3 (nzC kC_5) ?_
        refine s_iload_n hG dX8_ways_35 1 rfl rfl ?_
        refine s_ck (fun q10 => ?_)
        refine s_aaldS (j := 0) hG hE dX8_ways_36 (by decide) kC_5 q10 ((eC_8_3 q10).1) (nzC ((eC_8_3 q10).2)) ?_
        refine s_getI hG hE dX8_ways_37 fl_X8_146 rfl ((eC_8_3 q10).2) ?_
        refine s_iload_n hG dX8_ways_40 2 rfl rfl ?_
        refine s_callV (a := 1) (c := 8) (inj := inV) (As := [.ref (gB (GC w) + 11), .int (gi h8 (96 + 2 * a1.toNatClampNeg) 0), .int a2]) (st := []) rfl hG hE dX8_ways_41 hR (by decide) vv_X8_149 (by decide) rfl kC_1 rfl (Nat.le_of_ble_eq_true rfl) rfl (fun zv zh zq => c_X8_hear w (xl x) 11 kC_11 (gi h8 (96 + 2 * a1.toNatClampNeg) 0) a2 h8 zv zh zq) (fun v11 h12 => ?_)
        refine s_aload_n hG dX8_ways_44 0 rfl rfl ?_
        refine s_aload_n hG dX8_ways_45 0 rfl rfl ?_
        refine s_getS hG hE dX8_ways_46 fl_X8_59 rfl kC_1 fC_8_9 (nzC kC_50) ?_
        refine s_aload_n hG dX8_ways_49 0 rfl rfl ?_
        refine s_getS hG hE dX8_ways_50 fl_X8_26 rfl kC_1 fC_8_3 (nzC kC_5) ?_
        refine s_iload_n hG dX8_ways_53 1 rfl rfl ?_
        refine s_aaldS (j := 0) hG hE dX8_ways_54 (by decide) kC_5 q10 ((eC_8_3 q10).1) (nzC ((eC_8_3 q10).2)) ?_
        refine s_getI hG hE dX8_ways_55 fl_X8_146 rfl ((eC_8_3 q10).2) ?_
        refine s_iload_n hG dX8_ways_58 3 rfl rfl ?_
        refine s_callV (a := 1) (c := 8) (inj := inV) (As := [.ref (gB (GC w) + 50), .int (gi h12 (96 + 2 * a1.toNatClampNeg) 0), .int a3]) (st := []) rfl hG hE dX8_ways_59 hR (by decide) vv_X8_149 (by decide) rfl kC_1 rfl (Nat.le_of_ble_eq_true rfl) rfl (fun zv zh zq => c_X8_hear w (xl x) 50 kC_50 (gi h12 (96 + 2 * a1.toNatClampNeg) 0) a3 h12 zv zh zq) (fun v13 h14 => ?_)
        refine s_iconst hG dX8_ways_62 ic_1 ?_
        refine s_istore (lv' := [(4, .int 1), (0, .ref (gB (GC w) + 1)), (1, .int a1), (2, .int a2), (3, .int a3)]) hG dX8_ways_63 (by decide) rfl ?_
        refine s_lv [1, 2, 0] rfl ?_
        exact s_X8_ways_L65 w hx hG hE hR hT FU a1 1 h14

theorem c_X8_ways (w : WT) (l : Launch) (a1 : Int32) (a2 : Int32) (a3 : Int32) (h : Hp) : ∀ v h', m_X8_ways a1 a2 a3 h = some (v, h') → MetM l (GC w) yX8_ways cX8_ways 5 (some .int) 7 [.ref (gB (GC w) + 1), .int a1, .int a2, .int a3] h (inI v) h' :=
  met_of (by decide) (lokC w) (Nat.le_of_ble_eq_true rfl) (fun x hx hG hE hR hT => s_X8_ways w hx hG hE hR hT a1 a2 a3 h)
def m_X8_isTape (a0 : Int32) (h : Hp) : Option (Int32 × Hp) := if a0 < 0 then some (0, h) else if 6 ≤ a0 then some (0, h) else some (1, h)
set_option maxRecDepth 20000 in
set_option maxHeartbeats 4000000 in
theorem s_X8_isTape (w : WT) {x : CT} {l : Launch} (hx : xl x = l) (hG : Gd x cX8_isTape 1 RX8) (hE : Ge x (GC w)) (hR : Rm x 1) (hT : Rt x (some .boolean)) (a0 : Int32) (h : Hp) : Sn x 1 (gA (GC w)) (0, 0) (ζM x (GC w) inI) (gW (GC w) h) 0 [(0, .int a0)] [] (m_X8_isTape a0 h) := by
  unfold m_X8_isTape
  refine s_iload_n hG dX8_isTape_0 0 rfl rfl ?_
  refine s_if_lt hG dX8_isTape_1 (tgt := 14) (by decide) (fun q1 => ?_) (fun q1 => ?_)
  · refine s_iconst hG dX8_isTape_14 ic_0 ?_
    exact s_zret hG hT (by decide) dX8_isTape_15
  · refine s_iload_n hG dX8_isTape_4 0 rfl rfl ?_
    refine s_bipush hG dX8_isTape_5 bc_6 ?_
    refine s_icmp_ge hG dX8_isTape_7 (tgt := 14) (by decide) (fun q2 => ?_) (fun q2 => ?_)
    · refine s_iconst hG dX8_isTape_14 ic_0 ?_
      exact s_zret hG hT (by decide) dX8_isTape_15
    · refine s_iconst hG dX8_isTape_10 ic_1 ?_
      refine s_goto (tgt := 15) hG dX8_isTape_11 (by decide) ?_
      exact s_zret hG hT (by decide) dX8_isTape_15

theorem c_X8_isTape (w : WT) (l : Launch) (a0 : Int32) (h : Hp) : ∀ v h', m_X8_isTape a0 h = some (v, h') → MetM l (GC w) yX8_isTape cX8_isTape 1 (some .boolean) 1 [.int a0] h (inI v) h' :=
  met_of (by decide) (lokC w) (Nat.le_of_ble_eq_true rfl) (fun x hx hG hE hR hT => s_X8_isTape w hx hG hE hR hT a0 h)
theorem fl_X7_19 : FL RX7 19 7 2 := ⟨by decide, by decide, gw_at 402 (by decide +kernel) (by decide +kernel), rfl⟩
theorem wd_971 : Jvm.Cond.constantLong RX7 28 60 ∈ GW := gw_at 971 (by decide +kernel) (by decide +kernel)
def m_X7_holdsPlace (a0 : Nat) (a1 : Int64) (h : Hp) : Option (Int32 × Hp) := if a1 < 0 then some (0, h) else if ((gi h a0 2).toInt64) ≤ a1 then some (0, h) else if 60 ≤ a1 then some (0, h) else some (1, h)
set_option maxRecDepth 20000 in
set_option maxHeartbeats 4000000 in
theorem s_X7_holdsPlace (w : WT) {x : CT} {l : Launch} (hx : xl x = l) (hG : Gd x cX7_holdsPlace 3 RX7) (hE : Ge x (GC w)) (hR : Rm x 1) (hT : Rt x (some .boolean)) (a0 : Nat) (p0 : LC a0 = (8, 0)) (a1 : Int64) (h : Hp) : Sn x 3 (gA (GC w)) (0, 0) (ζM x (GC w) inI) (gW (GC w) h) 0 [(0, .ref (gB (GC w) + a0)), (1, .long a1)] [] (m_X7_holdsPlace a0 a1 h) := by
  unfold m_X7_holdsPlace
  refine s_lload_n hG dX7_holdsPlace_0 1 rfl rfl ?_
  refine s_lconst hG dX7_holdsPlace_1 lc_0 ?_
  refine s_lcmp_lt hG dX7_holdsPlace_2 dX7_holdsPlace_3 (tgt := 28) (by decide) (fun q1 => ?_) (fun q1 => ?_)
  · refine s_iconst hG dX7_holdsPlace_28 ic_0 ?_
    exact s_zret hG hT (by decide) dX7_holdsPlace_29
  · refine s_lload_n hG dX7_holdsPlace_6 1 rfl rfl ?_
    refine s_aload_n hG dX7_holdsPlace_7 0 rfl rfl ?_
    refine s_getI hG hE dX7_holdsPlace_8 fl_X7_19 rfl p0 ?_
    refine s_i2l hG dX7_holdsPlace_11 ?_
    refine s_lcmp_ge hG dX7_holdsPlace_12 dX7_holdsPlace_13 (tgt := 28) (by decide) (fun q2 => ?_) (fun q2 => ?_)
    · refine s_iconst hG dX7_holdsPlace_28 ic_0 ?_
      exact s_zret hG hT (by decide) dX7_holdsPlace_29
    · refine s_lload_n hG dX7_holdsPlace_16 1 rfl rfl ?_
      refine s_ldc2 hG dX7_holdsPlace_17 wd_971 ?_
      refine s_lcmp_ge hG dX7_holdsPlace_20 dX7_holdsPlace_21 (tgt := 28) (by decide) (fun q3 => ?_) (fun q3 => ?_)
      · refine s_iconst hG dX7_holdsPlace_28 ic_0 ?_
        exact s_zret hG hT (by decide) dX7_holdsPlace_29
      · refine s_iconst hG dX7_holdsPlace_24 ic_1 ?_
        refine s_goto (tgt := 29) hG dX7_holdsPlace_25 (by decide) ?_
        exact s_zret hG hT (by decide) dX7_holdsPlace_29

theorem c_X7_holdsPlace (w : WT) (l : Launch) (a0 : Nat) (p0 : LC a0 = (8, 0)) (a1 : Int64) (h : Hp) : ∀ v h', m_X7_holdsPlace a0 a1 h = some (v, h') → MetM l (GC w) yX7_holdsPlace cX7_holdsPlace 3 (some .boolean) 1 [.ref (gB (GC w) + a0), .long a1] h (inI v) h' :=
  met_of (by decide) (lokC w) (Nat.le_of_ble_eq_true rfl) (fun x hx hG hE hR hT => s_X7_holdsPlace w hx hG hE hR hT a0 p0 a1 h)
theorem fl_X8_242 : FL RX8 242 2 10 := ⟨by decide, by decide, gw_at 269 (by decide +kernel) (by decide +kernel), rfl⟩
theorem vv_X8_245 : VV RX8 245 yX7_holdsPlace cX7_holdsPlace 3 (some .boolean) 1 := ⟨⟨gw_at 967 (by decide +kernel) (by decide +kernel), gw_at 970 (by decide +kernel) (by decide +kernel), gw_at 95 (by decide +kernel) (by decide +kernel), by decide +kernel, by decide⟩, gw_at 968 (by decide +kernel) (by decide +kernel), gw_at 969 (by decide +kernel) (by decide +kernel)⟩
theorem fl_X8_249 : FL RX8 249 7 0 := ⟨by decide, by decide, gw_at 399 (by decide +kernel) (by decide +kernel), rfl⟩
theorem iC_7 {a : Nat} (h : LC a = (8, 0)) : a = 180 ∨ a = 182 ∨ a = 184 ∨ a = 186 ∨ a = 188 ∨ a = 190 := by
  have hl : a < 192 := layC_lt (by rw [h]; exact Nat.succ_ne_zero _)
  exact (show ∀ a, a < 192 → LC a = (8, 0) → a = 180 ∨ a = 182 ∨ a = 184 ∨ a = 186 ∨ a = 188 ∨ a = 190 by decide +kernel) a hl h
theorem fC_7_0 {a : Nat} (h : LC a = (8, 0)) : SC a 0 = some (a + 1) ∧ LC (a + 1) = (21, 60) := by
  rcases iC_7 h with rfl | rfl | rfl | rfl | rfl | rfl <;> exact ⟨rfl, rfl⟩
theorem fl_X8_253 : FL RX8 253 2 0 := ⟨by decide, by decide, gw_at 258 (by decide +kernel) (by decide +kernel), rfl⟩
theorem fl_X8_257 : FL RX8 257 5 10 := ⟨by decide, by decide, gw_at 220 (by decide +kernel) (by decide +kernel), rfl⟩
theorem vs_X8_236 : VS RX8 236 yX8_isTape cX8_isTape 1 (some .boolean) 1 := ⟨⟨gw_at 964 (by decide +kernel) (by decide +kernel), gw_at 966 (by decide +kernel) (by decide +kernel), gw_at 87 (by decide +kernel) (by decide +kernel), by decide +kernel, by decide⟩, gw_at 965 (by decide +kernel) (by decide +kernel)⟩
theorem fl_X8_41 : FL RX8 41 8 6 := ⟨by decide, by decide, gw_at 417 (by decide +kernel) (by decide +kernel), rfl⟩
theorem fC_8_6 : SC 1 6 = some 8 := rfl
theorem kC_8 : LC 8 = (27, 6) := rfl
theorem eC_8_6 {i : Int32} (hi : inb i 6 = true) : SC 8 i.toNatClampNeg = some (180 + 2 * i.toNatClampNeg) ∧ LC (180 + 2 * i.toNatClampNeg) = (8, 0) := by
  have h := inb_lt hi
  generalize i.toNatClampNeg = k at h
  exact (show ∀ k, k < 6 → SC 8 k = some (180 + 2 * k) ∧ LC (180 + 2 * k) = (8, 0) by decide +kernel) k h
theorem fl_X8_239 : FL RX8 239 7 1 := ⟨by decide, by decide, gw_at 401 (by decide +kernel) (by decide +kernel), rfl⟩
theorem bc_m12 : (Int8.ofInt (-12)).toInt32 = (-12) := by decide
def m_X8_judge_L66 : Nat → Int32 → Nat → Int32 → Hp → Option (Int32 × Hp)
  | 0, _, _, _, _ => none
  | n + 1, a2, a4, a5, h => if (gi h 11 10) ≤ a5 then some ((-5), h) else vb (a2.toInt64 + a5.toInt64) fun v2 => cb (m_X7_holdsPlace a4 v2 h) fun v3 h4 => if v3 = 0 then some (100 + a5, h4) else ck (inb v2.toInt32 60) (ck (inb a5 6) (ck (kC 5 (gr h4 (11 + 1) a5.toNatClampNeg)) (if (gl h4 (a4 + 1) v2.toInt32.toNatClampNeg) = ((gi h4 (gr h4 (11 + 1) a5.toNatClampNeg) 10).toInt64) then vb (a5 + 1) fun v10 => m_X8_judge_L66 n a2 a4 v10 h4 else some (a5, h4))))
set_option maxRecDepth 20000 in
set_option maxHeartbeats 4000000 in
theorem s_X8_judge_L66 (w : WT) {x : CT} {l : Launch} (hx : xl x = l) (hG : Gd x cX8_judge 8 RX8) (hE : Ge x (GC w)) (hR : Rm x 7) (hT : Rt x (some .int)) : ∀ (n : Nat) (a2 : Int32) (a4 : Nat) (p4 : LC a4 = (8, 0)) (a5 : Int32) (h : Hp), Sn x 8 (gA (GC w)) (0, 0) (ζM x (GC w) inI) (gW (GC w) h) 66 [(0, .ref (gB (GC w) + 1)), (2, .int a2), (4, .ref (gB (GC w) + a4)), (5, .int a5)] [] (m_X8_judge_L66 n a2 a4 a5 h) := by
  intro n
  induction n with
  | zero => intro a2 a4 p4 a5 h; exact s_none
  | succ n ih =>
    intro a2 a4 p4 a5 h
    rw [m_X8_judge_L66]
    refine s_iload hG dX8_judge_66 3 rfl ?_
    refine s_aload_n hG dX8_judge_68 0 rfl rfl ?_
    refine s_getS hG hE dX8_judge_69 fl_X8_55 rfl kC_1 fC_8_8 (nzC kC_11) ?_
    refine s_getI hG hE dX8_judge_72 fl_X8_242 rfl kC_11 ?_
    refine s_icmp_ge hG dX8_judge_75 (tgt := 138) (by decide) (fun q1 => ?_) (fun q1 => ?_)
    · refine s_bipush hG dX8_judge_138 bc_m5 ?_
      exact s_iret hG hT dX8_judge_140
    · refine s_iload_n hG dX8_judge_78 1 rfl rfl ?_
      refine s_i2l hG dX8_judge_79 ?_
      refine s_iload hG dX8_judge_80 3 rfl ?_
      refine s_i2l hG dX8_judge_82 ?_
      refine s_ladd hG dX8_judge_83 ?_
      refine s_vL (fun v2 => ?_)
      refine s_lstore (lv' := [(6, .long v2), (0, .ref (gB (GC w) + 1)), (2, .int a2), (4, .ref (gB (GC w) + a4)), (5, .int a5)]) hG dX8_judge_84 (by decide) rfl ?_
      refine s_aload hG dX8_judge_86 3 rfl ?_
      refine s_lload hG dX8_judge_88 0 rfl ?_
      refine s_callV (a := a4) (c := 7) (inj := inI) (As := [.long v2]) (st := []) rfl hG hE dX8_judge_90 hR (by decide) vv_X8_245 (by decide) rfl p4 rfl (Nat.le_of_ble_eq_true rfl) rfl (fun zv zh zq => c_X7_holdsPlace w (xl x) a4 p4 v2 h zv zh zq) (fun v3 h4 => ?_)
      refine s_if_ne hG dX8_judge_93 (tgt := 102) (by decide) (fun q5 => ?_) (fun q5 => ?_)
      · refine s_bipush hG dX8_judge_96 bc_100 ?_
        refine s_iload hG dX8_judge_98 4 rfl ?_
        refine s_iadd hG dX8_judge_100 ?_
        exact s_iret hG hT dX8_judge_101
      · refine s_aload hG dX8_judge_102 3 rfl ?_
        refine s_getS hG hE dX8_judge_104 fl_X8_249 rfl p4 ((fC_7_0 p4).1) (nzC ((fC_7_0 p4).2)) ?_
        refine s_lload hG dX8_judge_107 0 rfl ?_
        refine s_l2i hG dX8_judge_109 ?_
        refine s_ck (fun q6 => ?_)
        refine s_lald hG hE dX8_judge_110 ((fC_7_0 p4).2) q6 ?_
        refine s_aload_n hG dX8_judge_111 1 rfl rfl ?_
        refine s_getS hG hE dX8_judge_112 fl_X8_55 rfl kC_1 fC_8_8 (nzC kC_11) ?_
        refine s_getS hG hE dX8_judge_115 fl_X8_253 rfl kC_11 ((fC_2_0 kC_11).1) (nzC ((fC_2_0 kC_11).2)) ?_
        refine s_iload hG dX8_judge_118 4 rfl ?_
        refine s_ck (fun q7 => ?_)
        refine s_aald (j := 2) hG hE dX8_judge_120 (by decide) ((fC_2_0 kC_11).2) q7 ?_
        refine s_ck (fun q8 => ?_)
        refine s_nn (nzC (kC_of q8)) ?_
        refine s_getI hG hE dX8_judge_121 fl_X8_257 rfl (kC_of q8) ?_
        refine s_i2l hG dX8_judge_124 ?_
        refine s_lcmp_eq hG dX8_judge_125 dX8_judge_126 (tgt := 132) (by decide) (fun q9 => ?_) (fun q9 => ?_)
        · refine s_iinc hG dX8_judge_132 4 rfl ic_1 (by decide) (fun v10 => [(5, .int v10), (6, .long v2), (0, .ref (gB (GC w) + 1)), (2, .int a2), (4, .ref (gB (GC w) + a4))]) (fun _ => rfl) (fun v10 => ?_)
          refine s_goto (tgt := 66) hG dX8_judge_135 (by decide) ?_
          refine s_lv [2, 3, 4, 0] rfl ?_
          exact ih a2 a4 p4 v10 h4
        · refine s_iload hG dX8_judge_129 4 rfl ?_
          exact s_iret hG hT dX8_judge_131

def m_X8_judge_L45 (a2 : Int32) (a3 : Int32) (a4 : Nat) (h : Hp) : Option (Int32 × Hp) := ck (inb a3 5) (cb (m_X8_hear 11 a3 (gi h (91 + 1 * a3.toNatClampNeg) 2) h) fun _ h3 => m_X8_judge_L66 FU a2 a4 0 h3)
set_option maxRecDepth 20000 in
set_option maxHeartbeats 4000000 in
theorem s_X8_judge_L45 (w : WT) {x : CT} {l : Launch} (hx : xl x = l) (hG : Gd x cX8_judge 8 RX8) (hE : Ge x (GC w)) (hR : Rm x 7) (hT : Rt x (some .int)) (a2 : Int32) (a3 : Int32) (a4 : Nat) (p4 : LC a4 = (8, 0)) (h : Hp) : Sn x 8 (gA (GC w)) (0, 0) (ζM x (GC w) inI) (gW (GC w) h) 45 [(0, .ref (gB (GC w) + 1)), (2, .int a2), (3, .int a3), (4, .ref (gB (GC w) + a4))] [] (m_X8_judge_L45 a2 a3 a4 h) := by
  unfold m_X8_judge_L45
  refine s_aload_n hG dX8_judge_45 0 rfl rfl ?_
  refine s_aload_n hG dX8_judge_46 0 rfl rfl ?_
  refine s_getS hG hE dX8_judge_47 fl_X8_55 rfl kC_1 fC_8_8 (nzC kC_11) ?_
  refine s_iload_n hG dX8_judge_50 2 rfl rfl ?_
  refine s_aload_n hG dX8_judge_51 0 rfl rfl ?_
  refine s_getS hG hE dX8_judge_52 fl_X8_20 rfl kC_1 fC_8_2 (nzC kC_4) ?_
  refine s_iload_n hG dX8_judge_55 2 rfl rfl ?_
  refine s_ck (fun q1 => ?_)
  refine s_aaldS (j := 3) hG hE dX8_judge_56 (by decide) kC_4 q1 ((eC_8_2 q1).1) (nzC ((eC_8_2 q1).2)) ?_
  refine s_getI hG hE dX8_judge_57 fl_X8_90 rfl ((eC_8_2 q1).2) ?_
  refine s_callV (a := 1) (c := 8) (inj := inV) (As := [.ref (gB (GC w) + 11), .int a3, .int (gi h (91 + 1 * a3.toNatClampNeg) 2)]) (st := []) rfl hG hE dX8_judge_60 hR (by decide) vv_X8_149 (by decide) rfl kC_1 rfl (Nat.le_of_ble_eq_true rfl) rfl (fun zv zh zq => c_X8_hear w (xl x) 11 kC_11 a3 (gi h (91 + 1 * a3.toNatClampNeg) 2) h zv zh zq) (fun v2 h3 => ?_)
  refine s_iconst hG dX8_judge_63 ic_0 ?_
  refine s_istore (lv' := [(5, .int 0), (0, .ref (gB (GC w) + 1)), (2, .int a2), (3, .int a3), (4, .ref (gB (GC w) + a4))]) hG dX8_judge_64 (by decide) rfl ?_
  refine s_lv [1, 2, 4, 0] rfl ?_
  exact s_X8_judge_L66 w hx hG hE hR hT FU a2 a4 p4 0 h3

def m_X8_judge (a1 : Int32) (a2 : Int32) (a3 : Int32) (h : Hp) : Option (Int32 × Hp) := cb (m_X8_isTape a1 h) fun v1 h2 => if v1 = 0 then some ((-1), h2) else cb (m_X8_isSuit a3 h2) fun v4 h5 => if v4 = 0 then some ((-1), h5) else ck (inb a1 6) (if (gi h5 (180 + 2 * a1.toNatClampNeg) 1) = (-1) then m_X8_judge_L45 a2 a3 (180 + 2 * a1.toNatClampNeg) h5 else if (gi h5 (180 + 2 * a1.toNatClampNeg) 1) = 0 then m_X8_judge_L45 a2 a3 (180 + 2 * a1.toNatClampNeg) h5 else some ((-12), h5))
set_option maxRecDepth 20000 in
set_option maxHeartbeats 4000000 in
theorem s_X8_judge (w : WT) {x : CT} {l : Launch} (hx : xl x = l) (hG : Gd x cX8_judge 8 RX8) (hE : Ge x (GC w)) (hR : Rm x 7) (hT : Rt x (some .int)) (a1 : Int32) (a2 : Int32) (a3 : Int32) (h : Hp) : Sn x 8 (gA (GC w)) (0, 0) (ζM x (GC w) inI) (gW (GC w) h) 0 [(0, .ref (gB (GC w) + 1)), (1, .int a1), (2, .int a2), (3, .int a3)] [] (m_X8_judge a1 a2 a3 h) := by
  unfold m_X8_judge
  refine s_iload_n hG dX8_judge_0 1 rfl rfl ?_
  refine s_callS (inj := inI) (As := [.int a1]) (st := []) rfl hG hE dX8_judge_1 hR (by decide) vs_X8_236 rfl (Nat.le_of_ble_eq_true rfl) rfl (fun zv zh zq => c_X8_isTape w (xl x) a1 h zv zh zq) (fun v1 h2 => ?_)
  refine s_if_eq hG dX8_judge_4 (tgt := 15) (by decide) (fun q3 => ?_) (fun q3 => ?_)
  · refine s_iconst hG dX8_judge_15 ic_m1 ?_
    exact s_iret hG hT dX8_judge_16
  · refine s_aload_n hG dX8_judge_7 0 rfl rfl ?_
    refine s_iload_n hG dX8_judge_8 3 rfl rfl ?_
    refine s_callV (a := 1) (c := 8) (inj := inI) (As := [.int a3]) (st := []) rfl hG hE dX8_judge_9 hR (by decide) vv_X8_93 (by decide) rfl kC_1 rfl (Nat.le_of_ble_eq_true rfl) rfl (fun zv zh zq => c_X8_isSuit w (xl x) a3 h2 zv zh zq) (fun v4 h5 => ?_)
    refine s_if_ne hG dX8_judge_12 (tgt := 17) (by decide) (fun q6 => ?_) (fun q6 => ?_)
    · refine s_iconst hG dX8_judge_15 ic_m1 ?_
      exact s_iret hG hT dX8_judge_16
    · refine s_aload_n hG dX8_judge_17 0 rfl rfl ?_
      refine s_getS hG hE dX8_judge_18 fl_X8_41 rfl kC_1 fC_8_6 (nzC kC_8) ?_
      refine s_iload_n hG dX8_judge_21 1 rfl rfl ?_
      refine s_ck (fun q7 => ?_)
      refine s_aaldS (j := 4) hG hE dX8_judge_22 (by decide) kC_8 q7 ((eC_8_6 q7).1) (nzC ((eC_8_6 q7).2)) ?_
      refine s_astore (lv' := [(4, .ref (gB (GC w) + (180 + 2 * a1.toNatClampNeg))), (0, .ref (gB (GC w) + 1)), (1, .int a1), (2, .int a2), (3, .int a3)]) hG dX8_judge_23 (by decide) rfl ?_
      refine s_aload hG dX8_judge_25 0 rfl ?_
      refine s_getI hG hE dX8_judge_27 fl_X8_239 rfl ((eC_8_6 q7).2) ?_
      refine s_iconst hG dX8_judge_30 ic_m1 ?_
      refine s_icmp_eq hG dX8_judge_31 (tgt := 45) (by decide) (fun q8 => ?_) (fun q8 => ?_)
      · refine s_lv [1, 3, 4, 0] rfl ?_
        exact s_X8_judge_L45 w hx hG hE hR hT a2 a3 (180 + 2 * a1.toNatClampNeg) ((eC_8_6 q7).2) h5
      · refine s_aload hG dX8_judge_34 0 rfl ?_
        refine s_getI hG hE dX8_judge_36 fl_X8_239 rfl ((eC_8_6 q7).2) ?_
        refine s_if_eq hG dX8_judge_39 (tgt := 45) (by decide) (fun q9 => ?_) (fun q9 => ?_)
        · refine s_lv [1, 3, 4, 0] rfl ?_
          exact s_X8_judge_L45 w hx hG hE hR hT a2 a3 (180 + 2 * a1.toNatClampNeg) ((eC_8_6 q7).2) h5
        · refine s_bipush hG dX8_judge_42 bc_m12 ?_
          exact s_iret hG hT dX8_judge_44

theorem c_X8_judge (w : WT) (l : Launch) (a1 : Int32) (a2 : Int32) (a3 : Int32) (h : Hp) : ∀ v h', m_X8_judge a1 a2 a3 h = some (v, h') → MetM l (GC w) yX8_judge cX8_judge 8 (some .int) 7 [.ref (gB (GC w) + 1), .int a1, .int a2, .int a3] h (inI v) h' :=
  met_of (by decide) (lokC w) (Nat.le_of_ble_eq_true rfl) (fun x hx hG hE hR hT => s_X8_judge w hx hG hE hR hT a1 a2 a3 h)
theorem vv_X8_318 : VV RX8 318 yX0_copy cX0_copy 2 none 1 := ⟨⟨gw_at 979 (by decide +kernel) (by decide +kernel), gw_at 742 (by decide +kernel) (by decide +kernel), gw_at 90 (by decide +kernel) (by decide +kernel), by decide +kernel, by decide⟩, gw_at 740 (by decide +kernel) (by decide +kernel), gw_at 741 (by decide +kernel) (by decide +kernel)⟩
def m_X8_copyClaims_L2 : Nat → Nat → Nat → Int32 → Int32 → Hp → Option (Unit × Hp)
  | 0, _, _, _, _, _ => none
  | n + 1, a0, a1, a2, a3, h => if a2 ≤ a3 then some ((), h) else if 24 ≤ a3 then some ((), h) else ck (inb a3 24) (ck (kC 0 (gr h a1 a3.toNatClampNeg)) (ck (kC 0 (gr h a0 a3.toNatClampNeg)) (cb (m_X0_copy (gr h a1 a3.toNatClampNeg) (gr h a0 a3.toNatClampNeg) h) fun _ h7 => vb (a3 + 1) fun v8 => m_X8_copyClaims_L2 n a0 a1 a2 v8 h7)))
set_option maxRecDepth 20000 in
set_option maxHeartbeats 4000000 in
theorem s_X8_copyClaims_L2 (w : WT) {x : CT} {l : Launch} (hx : xl x = l) (hG : Gd x cX8_copyClaims 4 RX8) (hE : Ge x (GC w)) (hR : Rm x 2) (hT : Rt x none) : ∀ (n : Nat) (a0 : Nat) (p0 : LC a0 = (23, 24)) (a1 : Nat) (p1 : LC a1 = (23, 24)) (a2 : Int32) (a3 : Int32) (h : Hp), Sn x 4 (gA (GC w)) (0, 0) (ζM x (GC w) inV) (gW (GC w) h) 2 [(0, .ref (gB (GC w) + a0)), (1, .ref (gB (GC w) + a1)), (2, .int a2), (3, .int a3)] [] (m_X8_copyClaims_L2 n a0 a1 a2 a3 h) := by
  intro n
  induction n with
  | zero => intro a0 p0 a1 p1 a2 a3 h; exact s_none
  | succ n ih =>
    intro a0 p0 a1 p1 a2 a3 h
    rw [m_X8_copyClaims_L2]
    refine s_iload_n hG dX8_copyClaims_2 3 rfl rfl ?_
    refine s_iload_n hG dX8_copyClaims_3 2 rfl rfl ?_
    refine s_icmp_ge hG dX8_copyClaims_4 (tgt := 28) (by decide) (fun q1 => ?_) (fun q1 => ?_)
    · exact s_vret hG hT dX8_copyClaims_28
    · refine s_iload_n hG dX8_copyClaims_7 3 rfl rfl ?_
      refine s_bipush hG dX8_copyClaims_8 bc_24 ?_
      refine s_icmp_ge hG dX8_copyClaims_10 (tgt := 28) (by decide) (fun q2 => ?_) (fun q2 => ?_)
      · exact s_vret hG hT dX8_copyClaims_28
      · refine s_aload_n hG dX8_copyClaims_13 1 rfl rfl ?_
        refine s_iload_n hG dX8_copyClaims_14 3 rfl rfl ?_
        refine s_ck (fun q3 => ?_)
        refine s_aald (j := 0) hG hE dX8_copyClaims_15 (by decide) p1 q3 ?_
        refine s_ck (fun q4 => ?_)
        refine s_nn (nzC (kC_of q4)) ?_
        refine s_aload_n hG dX8_copyClaims_16 0 rfl rfl ?_
        refine s_iload_n hG dX8_copyClaims_17 3 rfl rfl ?_
        refine s_aald (j := 0) hG hE dX8_copyClaims_18 (by decide) p0 q3 ?_
        refine s_ck (fun q5 => ?_)
        refine s_nn (nzC (kC_of q5)) ?_
        refine s_callV (a := gr h a1 a3.toNatClampNeg) (c := 0) (inj := inV) (As := [.ref (gB (GC w) + (gr h a0 a3.toNatClampNeg))]) (st := []) rfl hG hE dX8_copyClaims_19 hR (by decide) vv_X8_318 (by decide) rfl (kC_of q4) rfl (Nat.le_of_ble_eq_true rfl) rfl (fun zv zh zq => c_X0_copy w (xl x) (gr h a1 a3.toNatClampNeg) (kC_of q4) (gr h a0 a3.toNatClampNeg) (kC_of q5) h zv zh zq) (fun v6 h7 => ?_)
        refine s_iinc hG dX8_copyClaims_22 3 rfl ic_1 (by decide) (fun v8 => [(3, .int v8), (0, .ref (gB (GC w) + a0)), (1, .ref (gB (GC w) + a1)), (2, .int a2)]) (fun _ => rfl) (fun v8 => ?_)
        refine s_goto (tgt := 2) hG dX8_copyClaims_25 (by decide) ?_
        refine s_lv [1, 2, 3, 0] rfl ?_
        exact ih a0 p0 a1 p1 a2 v8 h7

def m_X8_copyClaims (a0 : Nat) (a1 : Nat) (a2 : Int32) (h : Hp) : Option (Unit × Hp) := m_X8_copyClaims_L2 FU a0 a1 a2 0 h
set_option maxRecDepth 20000 in
set_option maxHeartbeats 4000000 in
theorem s_X8_copyClaims (w : WT) {x : CT} {l : Launch} (hx : xl x = l) (hG : Gd x cX8_copyClaims 4 RX8) (hE : Ge x (GC w)) (hR : Rm x 2) (hT : Rt x none) (a0 : Nat) (p0 : LC a0 = (23, 24)) (a1 : Nat) (p1 : LC a1 = (23, 24)) (a2 : Int32) (h : Hp) : Sn x 4 (gA (GC w)) (0, 0) (ζM x (GC w) inV) (gW (GC w) h) 0 [(0, .ref (gB (GC w) + a0)), (1, .ref (gB (GC w) + a1)), (2, .int a2)] [] (m_X8_copyClaims a0 a1 a2 h) := by
  unfold m_X8_copyClaims
  refine s_iconst hG dX8_copyClaims_0 ic_0 ?_
  refine s_istore_n (lv' := [(3, .int 0), (0, .ref (gB (GC w) + a0)), (1, .ref (gB (GC w) + a1)), (2, .int a2)]) hG dX8_copyClaims_1 rfl (by decide) rfl ?_
  refine s_lv [1, 2, 3, 0] rfl ?_
  exact s_X8_copyClaims_L2 w hx hG hE hR hT FU a0 p0 a1 p1 a2 0 h

theorem c_X8_copyClaims (w : WT) (l : Launch) (a0 : Nat) (p0 : LC a0 = (23, 24)) (a1 : Nat) (p1 : LC a1 = (23, 24)) (a2 : Int32) (h : Hp) : ∀ v h', m_X8_copyClaims a0 a1 a2 h = some (v, h') → MetM l (GC w) yX8_copyClaims cX8_copyClaims 4 none 2 [.ref (gB (GC w) + a0), .ref (gB (GC w) + a1), .int a2] h (inV v) h' :=
  met_of (by decide) (lokC w) (Nat.le_of_ble_eq_true rfl) (fun x hx hG hE hR hT => s_X8_copyClaims w hx hG hE hR hT a0 p0 a1 p1 a2 h)
