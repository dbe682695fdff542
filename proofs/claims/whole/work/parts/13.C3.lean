theorem fl_X8_30 : FL RX8 30 8 4 := ⟨by decide, by decide, gw_at 415 (by decide +kernel) (by decide +kernel), rfl⟩
theorem fC_8_4 : SC 1 4 = some 6 := rfl
theorem kC_6 : LC 6 = (23, 24) := rfl
theorem vs_X8_260 : VS RX8 260 yX8_copyClaims cX8_copyClaims 4 none 3 := ⟨⟨gw_at 976 (by decide +kernel) (by decide +kernel), gw_at 978 (by decide +kernel) (by decide +kernel), gw_at 87 (by decide +kernel) (by decide +kernel), by decide +kernel, by decide⟩, gw_at 977 (by decide +kernel) (by decide +kernel)⟩
theorem fl_X8_15 : FL RX8 15 8 1 := ⟨by decide, by decide, gw_at 412 (by decide +kernel) (by decide +kernel), rfl⟩
theorem fC_8_1 : SC 1 1 = some 3 := rfl
theorem kC_3 : LC 3 = (20, 8) := rfl
theorem wd_980 : Cond.methodLink RX8 264 arraycopyName ∈ GW := gw_at 980 (by decide +kernel) (by decide +kernel)
theorem wd_982 : Cond.native arraycopyName ∈ GW := gw_at 982 (by decide +kernel) (by decide +kernel)
theorem wd_981 : Cond.static arraycopyName ∈ GW := gw_at 981 (by decide +kernel) (by decide +kernel)
theorem wd_103 : Cond.initialized "java/lang/System" ∈ GW := gw_at 103 (by decide +kernel) (by decide +kernel)
theorem fl_X8_270 : FL RX8 270 8 14 := ⟨by decide, by decide, gw_at 425 (by decide +kernel) (by decide +kernel), rfl⟩
theorem fl_X8_273 : FL RX8 273 8 15 := ⟨by decide, by decide, gw_at 426 (by decide +kernel) (by decide +kernel), rfl⟩
def m_X8_image (h : Hp) : Option (Int32 × Hp) := cb (m_X8_copyClaims 5 6 (gi h 1 12) h) fun _ h2 => ck (cpk 0 0 8 8 8) (hb (cpI h2 2 (0 : Int32).toNatClampNeg 3 (0 : Int32).toNatClampNeg (8 : Int32).toNatClampNeg) fun h4 => hb (si h4 1 14 (gi h4 1 12)) fun h5 => hb (si h5 1 15 1) fun h6 => some (gi h6 1 12, h6))
set_option maxRecDepth 20000 in
set_option maxHeartbeats 4000000 in
theorem s_X8_image (w : WT) {x : CT} {l : Launch} (hx : xl x = l) (hG : Gd x cX8_image 1 RX8) (hE : Ge x (GC w)) (hR : Rm x 3) (hT : Rt x (some .int)) (h : Hp) : Sn x 1 (gA (GC w)) (0, 0) (ζM x (GC w) inI) (gW (GC w) h) 0 [(0, .ref (gB (GC w) + 1))] [] (m_X8_image h) := by
  unfold m_X8_image
  refine s_aload_n hG dX8_image_0 0 rfl rfl ?_
  refine s_getS hG hE dX8_image_1 fl_X8_26 rfl kC_1 fC_8_3 (nzC kC_5) ?_
  refine s_aload_n hG dX8_image_4 0 rfl rfl ?_
  refine s_getS hG hE dX8_image_5 fl_X8_30 rfl kC_1 fC_8_4 (nzC kC_6) ?_
  refine s_aload_n hG dX8_image_8 0 rfl rfl ?_
  refine s_getI hG hE dX8_image_9 fl_X8_96 rfl kC_1 ?_
  refine s_callS (inj := inV) (As := [.ref (gB (GC w) + 5), .ref (gB (GC w) + 6), .int (gi h 1 12)]) (st := []) rfl hG hE dX8_image_12 hR (by decide) vs_X8_260 rfl (Nat.le_of_ble_eq_true rfl) rfl (fun zv zh zq => c_X8_copyClaims w (xl x) 5 kC_5 6 kC_6 (gi h 1 12) h zv zh zq) (fun v1 h2 => ?_)
  refine s_aload_n hG dX8_image_15 0 rfl rfl ?_
  refine s_getS hG hE dX8_image_16 fl_X8_11 rfl kC_1 fC_8_0 (nzC kC_2) ?_
  refine s_iconst hG dX8_image_19 ic_0 ?_
  refine s_aload_n hG dX8_image_20 0 rfl rfl ?_
  refine s_getS hG hE dX8_image_21 fl_X8_15 rfl kC_1 fC_8_1 (nzC kC_3) ?_
  refine s_iconst hG dX8_image_24 ic_0 ?_
  refine s_bipush hG dX8_image_25 bc_8 ?_
  refine s_ck (fun q3 => ?_)
  refine s_copyI hG hE hR (by decide) dX8_image_27 wd_980 wd_982 wd_981 wd_103 (Nat.le_of_ble_eq_true rfl) kC_2 kC_3 q3 (fun h4 => ?_)
  refine s_aload_n hG dX8_image_30 0 rfl rfl ?_
  refine s_aload_n hG dX8_image_31 0 rfl rfl ?_
  refine s_getI hG hE dX8_image_32 fl_X8_96 rfl kC_1 ?_
  refine s_putI hG hE dX8_image_35 fl_X8_270 rfl rfl kC_1 (fun h5 => ?_)
  refine s_aload_n hG dX8_image_38 0 rfl rfl ?_
  refine s_iconst hG dX8_image_39 ic_1 ?_
  refine s_putZ hG hE dX8_image_40 fl_X8_273 rfl rfl (by decide) kC_1 (fun h6 => ?_)
  refine s_aload_n hG dX8_image_43 0 rfl rfl ?_
  refine s_getI hG hE dX8_image_44 fl_X8_96 rfl kC_1 ?_
  exact s_iret hG hT dX8_image_47

theorem c_X8_image (w : WT) (l : Launch) (h : Hp) : ∀ v h', m_X8_image h = some (v, h') → MetM l (GC w) yX8_image cX8_image 1 (some .int) 3 [.ref (gB (GC w) + 1)] h (inI v) h' :=
  met_of (by decide) (lokC w) (Nat.le_of_ble_eq_true rfl) (fun x hx hG hE hR hT => s_X8_image w hx hG hE hR hT h)
def m_X8_undo (h : Hp) : Option (Int32 × Hp) := if (gi h 1 15) = 0 then some ((-3), h) else cb (m_X8_copyClaims 6 5 (gi h 1 14) h) fun _ h3 => ck (cpk 0 0 8 8 8) (hb (cpI h3 3 (0 : Int32).toNatClampNeg 2 (0 : Int32).toNatClampNeg (8 : Int32).toNatClampNeg) fun h5 => hb (si h5 1 12 (gi h5 1 14)) fun h6 => some (gi h6 1 12, h6))
set_option maxRecDepth 20000 in
set_option maxHeartbeats 4000000 in
theorem s_X8_undo (w : WT) {x : CT} {l : Launch} (hx : xl x = l) (hG : Gd x cX8_undo 1 RX8) (hE : Ge x (GC w)) (hR : Rm x 3) (hT : Rt x (some .int)) (h : Hp) : Sn x 1 (gA (GC w)) (0, 0) (ζM x (GC w) inI) (gW (GC w) h) 0 [(0, .ref (gB (GC w) + 1))] [] (m_X8_undo h) := by
  unfold m_X8_undo
  refine s_aload_n hG dX8_undo_0 0 rfl rfl ?_
  refine s_getI hG hE dX8_undo_1 fl_X8_273 rfl kC_1 ?_
  refine s_if_ne hG dX8_undo_4 (tgt := 10) (by decide) (fun q1 => ?_) (fun q1 => ?_)
  · refine s_bipush hG dX8_undo_7 bc_m3 ?_
    exact s_iret hG hT dX8_undo_9
  · refine s_aload_n hG dX8_undo_10 0 rfl rfl ?_
    refine s_getS hG hE dX8_undo_11 fl_X8_30 rfl kC_1 fC_8_4 (nzC kC_6) ?_
    refine s_aload_n hG dX8_undo_14 0 rfl rfl ?_
    refine s_getS hG hE dX8_undo_15 fl_X8_26 rfl kC_1 fC_8_3 (nzC kC_5) ?_
    refine s_aload_n hG dX8_undo_18 0 rfl rfl ?_
    refine s_getI hG hE dX8_undo_19 fl_X8_270 rfl kC_1 ?_
    refine s_callS (inj := inV) (As := [.ref (gB (GC w) + 6), .ref (gB (GC w) + 5), .int (gi h 1 14)]) (st := []) rfl hG hE dX8_undo_22 hR (by decide) vs_X8_260 rfl (Nat.le_of_ble_eq_true rfl) rfl (fun zv zh zq => c_X8_copyClaims w (xl x) 6 kC_6 5 kC_5 (gi h 1 14) h zv zh zq) (fun v2 h3 => ?_)
    refine s_aload_n hG dX8_undo_25 0 rfl rfl ?_
    refine s_getS hG hE dX8_undo_26 fl_X8_15 rfl kC_1 fC_8_1 (nzC kC_3) ?_
    refine s_iconst hG dX8_undo_29 ic_0 ?_
    refine s_aload_n hG dX8_undo_30 0 rfl rfl ?_
    refine s_getS hG hE dX8_undo_31 fl_X8_11 rfl kC_1 fC_8_0 (nzC kC_2) ?_
    refine s_iconst hG dX8_undo_34 ic_0 ?_
    refine s_bipush hG dX8_undo_35 bc_8 ?_
    refine s_ck (fun q4 => ?_)
    refine s_copyI hG hE hR (by decide) dX8_undo_37 wd_980 wd_982 wd_981 wd_103 (Nat.le_of_ble_eq_true rfl) kC_3 kC_2 q4 (fun h5 => ?_)
    refine s_aload_n hG dX8_undo_40 0 rfl rfl ?_
    refine s_aload_n hG dX8_undo_41 0 rfl rfl ?_
    refine s_getI hG hE dX8_undo_42 fl_X8_270 rfl kC_1 ?_
    refine s_putI hG hE dX8_undo_45 fl_X8_96 rfl rfl kC_1 (fun h6 => ?_)
    refine s_aload_n hG dX8_undo_48 0 rfl rfl ?_
    refine s_getI hG hE dX8_undo_49 fl_X8_96 rfl kC_1 ?_
    exact s_iret hG hT dX8_undo_52

theorem c_X8_undo (w : WT) (l : Launch) (h : Hp) : ∀ v h', m_X8_undo h = some (v, h') → MetM l (GC w) yX8_undo cX8_undo 1 (some .int) 3 [.ref (gB (GC w) + 1)] h (inI v) h' :=
  met_of (by decide) (lokC w) (Nat.le_of_ble_eq_true rfl) (fun x hx hG hE hR hT => s_X8_undo w hx hG hE hR hT h)
theorem kC_89 : LC 89 = (2, 0) := rfl
theorem fl_X1_15 : FL RX1 15 1 1 := ⟨by decide, by decide, gw_at 311 (by decide +kernel) (by decide +kernel), rfl⟩
theorem fl_X1_19 : FL RX1 19 1 2 := ⟨by decide, by decide, gw_at 312 (by decide +kernel) (by decide +kernel), rfl⟩
theorem fl_X1_22 : FL RX1 22 1 3 := ⟨by decide, by decide, gw_at 313 (by decide +kernel) (by decide +kernel), rfl⟩
def m_X1_begin (a1 : Int32) (a2 : Int32) (h : Hp) : Option (Unit × Hp) := hb (si h 89 1 a1) fun h1 => hb (si h1 89 2 a2) fun h2 => hb (si h2 89 3 0) fun h3 => some ((), h3)
set_option maxRecDepth 20000 in
set_option maxHeartbeats 4000000 in
theorem s_X1_begin (w : WT) {x : CT} {l : Launch} (hx : xl x = l) (hG : Gd x cX1_begin 3 RX1) (hE : Ge x (GC w)) (hR : Rm x 1) (hT : Rt x none) (a1 : Int32) (a2 : Int32) (h : Hp) : Sn x 3 (gA (GC w)) (0, 0) (ζM x (GC w) inV) (gW (GC w) h) 0 [(0, .ref (gB (GC w) + 89)), (1, .int a1), (2, .int a2)] [] (m_X1_begin a1 a2 h) := by
  unfold m_X1_begin
  refine s_aload_n hG dX1_begin_0 0 rfl rfl ?_
  refine s_iload_n hG dX1_begin_1 1 rfl rfl ?_
  refine s_putI hG hE dX1_begin_2 fl_X1_15 rfl rfl kC_89 (fun h1 => ?_)
  refine s_aload_n hG dX1_begin_5 0 rfl rfl ?_
  refine s_iload_n hG dX1_begin_6 2 rfl rfl ?_
  refine s_putI hG hE dX1_begin_7 fl_X1_19 rfl rfl kC_89 (fun h2 => ?_)
  refine s_aload_n hG dX1_begin_10 0 rfl rfl ?_
  refine s_iconst hG dX1_begin_11 ic_0 ?_
  refine s_putI hG hE dX1_begin_12 fl_X1_22 rfl rfl kC_89 (fun h3 => ?_)
  exact s_vret hG hT dX1_begin_15

theorem c_X1_begin (w : WT) (l : Launch) (a1 : Int32) (a2 : Int32) (h : Hp) : ∀ v h', m_X1_begin a1 a2 h = some (v, h') → MetM l (GC w) yX1_begin cX1_begin 3 none 1 [.ref (gB (GC w) + 89), .int a1, .int a2] h (inV v) h' :=
  met_of (by decide) (lokC w) (Nat.le_of_ble_eq_true rfl) (fun x hx hG hE hR hT => s_X1_begin w hx hG hE hR hT a1 a2 h)
def m_X8_isKind (a0 : Int32) (h : Hp) : Option (Int32 × Hp) := if a0 < 0 then some (0, h) else if 7 ≤ a0 then some (0, h) else some (1, h)
set_option maxRecDepth 20000 in
set_option maxHeartbeats 4000000 in
theorem s_X8_isKind (w : WT) {x : CT} {l : Launch} (hx : xl x = l) (hG : Gd x cX8_isKind 1 RX8) (hE : Ge x (GC w)) (hR : Rm x 1) (hT : Rt x (some .boolean)) (a0 : Int32) (h : Hp) : Sn x 1 (gA (GC w)) (0, 0) (ζM x (GC w) inI) (gW (GC w) h) 0 [(0, .int a0)] [] (m_X8_isKind a0 h) := by
  unfold m_X8_isKind
  refine s_iload_n hG dX8_isKind_0 0 rfl rfl ?_
  refine s_if_lt hG dX8_isKind_1 (tgt := 14) (by decide) (fun q1 => ?_) (fun q1 => ?_)
  · refine s_iconst hG dX8_isKind_14 ic_0 ?_
    exact s_zret hG hT (by decide) dX8_isKind_15
  · refine s_iload_n hG dX8_isKind_4 0 rfl rfl ?_
    refine s_bipush hG dX8_isKind_5 bc_7 ?_
    refine s_icmp_ge hG dX8_isKind_7 (tgt := 14) (by decide) (fun q2 => ?_) (fun q2 => ?_)
    · refine s_iconst hG dX8_isKind_14 ic_0 ?_
      exact s_zret hG hT (by decide) dX8_isKind_15
    · refine s_iconst hG dX8_isKind_10 ic_1 ?_
      refine s_goto (tgt := 15) hG dX8_isKind_11 (by decide) ?_
      exact s_zret hG hT (by decide) dX8_isKind_15

theorem c_X8_isKind (w : WT) (l : Launch) (a0 : Int32) (h : Hp) : ∀ v h', m_X8_isKind a0 h = some (v, h') → MetM l (GC w) yX8_isKind cX8_isKind 1 (some .boolean) 1 [.int a0] h (inI v) h' :=
  met_of (by decide) (lokC w) (Nat.le_of_ble_eq_true rfl) (fun x hx hG hE hR hT => s_X8_isKind w hx hG hE hR hT a0 h)
theorem wd_1009 : Cond.fieldLink RX1 33 RX1 "BODIES" "[I" ∈ GW := gw_at 1009 (by decide +kernel) (by decide +kernel)
def m_X1_bodyFrom_L4 : Nat → Int32 → Int32 → Int32 → Hp → Option (Int32 × Hp)
  | 0, _, _, _, _ => none
  | n + 1, a1, a2, a3, h => if 7 ≤ a3 then some (0, h) else if a2 < 0 then some (0, h) else ck (inb ((a2 * 3) + a1) 21) (vb (bodT ((a2 * 3) + a1).toNatClampNeg) fun v4 => if v4 = 0 then ck (inb a2 7) (vb (abvT a2.toNatClampNeg) fun v7 => vb (a3 + 1) fun v8 => m_X1_bodyFrom_L4 n a1 v7 v8 h) else some (v4, h))
set_option maxRecDepth 20000 in
set_option maxHeartbeats 4000000 in
theorem s_X1_bodyFrom_L4 (w : WT) {x : CT} {l : Launch} (hx : xl x = l) (hG : Gd x cX1_bodyFrom 5 RX1) (hE : Ge x (GC w)) (hR : Rm x 1) (hT : Rt x (some .int)) : ∀ (n : Nat) (a1 : Int32) (a2 : Int32) (a3 : Int32) (h : Hp), Sn x 5 (gA (GC w)) (0, 0) (ζM x (GC w) inI) (gW (GC w) h) 4 [(1, .int a1), (2, .int a2), (3, .int a3)] [] (m_X1_bodyFrom_L4 n a1 a2 a3 h) := by
  intro n
  induction n with
  | zero => intro a1 a2 a3 h; exact s_none
  | succ n ih =>
    intro a1 a2 a3 h
    rw [m_X1_bodyFrom_L4]
    refine s_iload_n hG dX1_bodyFrom_4 2 rfl rfl ?_
    refine s_bipush hG dX1_bodyFrom_5 bc_7 ?_
    refine s_icmp_ge hG dX1_bodyFrom_7 (tgt := 45) (by decide) (fun q1 => ?_) (fun q1 => ?_)
    · refine s_iconst hG dX1_bodyFrom_45 ic_0 ?_
      exact s_iret hG hT dX1_bodyFrom_46
    · refine s_iload_n hG dX1_bodyFrom_10 1 rfl rfl ?_
      refine s_if_lt hG dX1_bodyFrom_11 (tgt := 45) (by decide) (fun q2 => ?_) (fun q2 => ?_)
      · refine s_iconst hG dX1_bodyFrom_45 ic_0 ?_
        exact s_iret hG hT dX1_bodyFrom_46
      · refine s_gsB (Wd := gW (GC w) h) hG hE dX1_bodyFrom_14 wd_1009 ?_
        refine s_iload_n hG dX1_bodyFrom_17 1 rfl rfl ?_
        refine s_iconst hG dX1_bodyFrom_18 ic_3 ?_
        refine s_imul hG dX1_bodyFrom_19 ?_
        refine s_iload_n hG dX1_bodyFrom_20 0 rfl rfl ?_
        refine s_iadd hG dX1_bodyFrom_21 ?_
        refine s_ck (fun q3 => ?_)
        refine s_tB (Wd := gW (GC w) h) hG hE dX1_bodyFrom_22 q3 ?_
        refine s_vI (fun v4 => ?_)
        refine s_istore (lv' := [(4, .int v4), (1, .int a1), (2, .int a2), (3, .int a3)]) hG dX1_bodyFrom_23 (by decide) rfl ?_
        refine s_iload hG dX1_bodyFrom_25 0 rfl ?_
        refine s_if_eq hG dX1_bodyFrom_27 (tgt := 33) (by decide) (fun q5 => ?_) (fun q5 => ?_)
        · refine s_gsAN (Wd := gW (GC w) h) hG hE dX1_bodyFrom_33 ?_
          refine s_iload_n hG dX1_bodyFrom_36 2 rfl rfl ?_
          refine s_ck (fun q6 => ?_)
          refine s_tA (Wd := gW (GC w) h) hG hE dX1_bodyFrom_37 q6 ?_
          refine s_vI (fun v7 => ?_)
          refine s_istore_n (lv' := [(2, .int v7), (4, .int v4), (1, .int a1), (3, .int a3)]) hG dX1_bodyFrom_38 rfl (by decide) rfl ?_
          refine s_iinc hG dX1_bodyFrom_39 3 rfl ic_1 (by decide) (fun v8 => [(3, .int v8), (2, .int v7), (4, .int v4), (1, .int a1)]) (fun _ => rfl) (fun v8 => ?_)
          refine s_goto (tgt := 4) hG dX1_bodyFrom_42 (by decide) ?_
          refine s_lv [3, 1, 0] rfl ?_
          exact ih a1 v7 v8 h
        · refine s_iload hG dX1_bodyFrom_30 0 rfl ?_
          exact s_iret hG hT dX1_bodyFrom_32

def m_X1_bodyFrom (a0 : Int32) (a1 : Int32) (h : Hp) : Option (Int32 × Hp) := m_X1_bodyFrom_L4 FU a1 a0 0 h
set_option maxRecDepth 20000 in
set_option maxHeartbeats 4000000 in
theorem s_X1_bodyFrom (w : WT) {x : CT} {l : Launch} (hx : xl x = l) (hG : Gd x cX1_bodyFrom 5 RX1) (hE : Ge x (GC w)) (hR : Rm x 1) (hT : Rt x (some .int)) (a0 : Int32) (a1 : Int32) (h : Hp) : Sn x 5 (gA (GC w)) (0, 0) (ζM x (GC w) inI) (gW (GC w) h) 0 [(0, .int a0), (1, .int a1)] [] (m_X1_bodyFrom a0 a1 h) := by
  unfold m_X1_bodyFrom
  refine s_iload_n hG dX1_bodyFrom_0 0 rfl rfl ?_
  refine s_istore_n (lv' := [(2, .int a0), (0, .int a0), (1, .int a1)]) hG dX1_bodyFrom_1 rfl (by decide) rfl ?_
  refine s_iconst hG dX1_bodyFrom_2 ic_0 ?_
  refine s_istore_n (lv' := [(3, .int 0), (2, .int a0), (0, .int a0), (1, .int a1)]) hG dX1_bodyFrom_3 rfl (by decide) rfl ?_
  refine s_lv [3, 1, 0] rfl ?_
  exact s_X1_bodyFrom_L4 w hx hG hE hR hT FU a1 a0 0 h

theorem c_X1_bodyFrom (w : WT) (l : Launch) (a0 : Int32) (a1 : Int32) (h : Hp) : ∀ v h', m_X1_bodyFrom a0 a1 h = some (v, h') → MetM l (GC w) yX1_bodyFrom cX1_bodyFrom 5 (some .int) 1 [.int a0, .int a1] h (inI v) h' :=
  met_of (by decide) (lokC w) (Nat.le_of_ble_eq_true rfl) (fun x hx hG hE hR hT => s_X1_bodyFrom w hx hG hE hR hT a0 a1 h)
theorem vv_X1_25 : VV RX1 25 yX1_perform cX1_perform 8 (some .int) 5 := ⟨⟨gw_at 1002 (by decide +kernel) (by decide +kernel), gw_at 1005 (by decide +kernel) (by decide +kernel), gw_at 92 (by decide +kernel) (by decide +kernel), by decide +kernel, by decide⟩, gw_at 1004 (by decide +kernel) (by decide +kernel), gw_at 26 (by decide +kernel) (by decide +kernel)⟩
theorem vs_X1_29 : VS RX1 29 yX1_bodyFrom cX1_bodyFrom 5 (some .int) 2 := ⟨⟨gw_at 1006 (by decide +kernel) (by decide +kernel), gw_at 1008 (by decide +kernel) (by decide +kernel), gw_at 92 (by decide +kernel) (by decide +kernel), by decide +kernel, by decide⟩, gw_at 1007 (by decide +kernel) (by decide +kernel)⟩
theorem bc_20 : (Int8.ofInt 20).toInt32 = 20 := by decide
theorem fl_X1_11 : FL RX1 11 1 0 := ⟨by decide, by decide, gw_at 310 (by decide +kernel) (by decide +kernel), rfl⟩
theorem fC_1_0 : SC 89 0 = some 90 := rfl
theorem kC_90 : LC 90 = (20, 20) := rfl
def m_X1_perform_L41 (P : Int32 → Int32 → Int32 → Int32 → Int32 → Hp → Option (Int32 × Hp)) (a1 : Int32) (a4 : Int32) (a5 : Int32) (a6 : Int32) (h : Hp) : Option (Int32 × Hp) := hb (si h 89 3 ((gi h 89 3) + 1)) fun h1 => vb (a5 + 1) fun v2 => if a6 = 10 then some (a4 + (gi h1 89 1), h1) else if a6 = 11 then cb (P a1 a1 0 a4 v2 h1) fun v5 h6 => some (v5 - (gi h6 89 2), h6) else if a6 = 12 then cb (P a1 a1 1 a4 v2 h1) fun v8 h9 => some (v8 * 2, h9) else if a6 = 20 then cb (P a1 0 1 a4 v2 h1) fun v11 h12 => some (v11 ^^^ 6, h12) else if a6 = 30 then cb (P a1 1 0 (a4 * 3) v2 h1) fun v14 h15 => some (v14, h15) else if a6 = 31 then cb (P a1 1 2 a4 v2 h1) fun v17 h18 => cb (P a1 a1 1 1 v2 h18) fun v19 h20 => some (v17 + v19, h20) else if a6 = 40 then cb (P a1 0 0 a4 v2 h1) fun v22 h23 => some (-v22, h23) else if a6 = 50 then cb (P a1 3 2 (a4 - (gi h1 89 1)) v2 h1) fun v25 h26 => some (v25, h26) else if a6 = 51 then cb (P a1 3 1 a4 v2 h1) fun v28 h29 => cb (P a1 3 0 2 v2 h29) fun v30 h31 => some (v28 + v30, h31) else if a6 = 60 then cb (P a1 0 1 (a4 + (gi h1 89 2)) v2 h1) fun v33 h34 => some (v33, h34) else cb (P a1 a1 0 a4 v2 h1) fun v35 h36 => cb (P a1 0 2 a4 v2 h36) fun v37 h38 => some (v35 - v37, h38)
set_option maxRecDepth 20000 in
set_option maxHeartbeats 4000000 in
theorem s_X1_perform_L41 (w : WT) (dd : Nat) {x : CT} {l : Launch} (hx : xl x = l) (hG : Gd x cX1_perform 8 RX1) (hE : Ge x (GC w)) (hR : Rm x (dd + 2)) (hT : Rt x (some .int)) (P : Int32 → Int32 → Int32 → Int32 → Int32 → Hp → Option (Int32 × Hp)) (HP : ∀ (l : Launch) (a1 : Int32) (a2 : Int32) (a3 : Int32) (a4 : Int32) (a5 : Int32) (h : Hp) v h', P a1 a2 a3 a4 a5 h = some (v, h') → MetM l (GC w) yX1_perform cX1_perform 8 (some .int) dd [.ref (gB (GC w) + 89), .int a1, .int a2, .int a3, .int a4, .int a5] h (inI v) h') (a1 : Int32) (a4 : Int32) (a5 : Int32) (a6 : Int32) (h : Hp) : Sn x 8 (gA (GC w)) (0, 0) (ζM x (GC w) inI) (gW (GC w) h) 41 [(0, .ref (gB (GC w) + 89)), (1, .int a1), (4, .int a4), (5, .int a5), (6, .int a6)] [] (m_X1_perform_L41 P a1 a4 a5 a6 h) := by
  unfold m_X1_perform_L41
  refine s_aload_n hG dX1_perform_41 0 rfl rfl ?_
  refine s_dup hG dX1_perform_42 rfl ?_
  refine s_getI hG hE dX1_perform_43 fl_X1_22 rfl kC_89 ?_
  refine s_iconst hG dX1_perform_46 ic_1 ?_
  refine s_iadd hG dX1_perform_47 ?_
  refine s_putI hG hE dX1_perform_48 fl_X1_22 rfl rfl kC_89 (fun h1 => ?_)
  refine s_iload hG dX1_perform_51 3 rfl ?_
  refine s_iconst hG dX1_perform_53 ic_1 ?_
  refine s_iadd hG dX1_perform_54 ?_
  refine s_vI (fun v2 => ?_)
  refine s_istore (lv' := [(7, .int v2), (0, .ref (gB (GC w) + 89)), (1, .int a1), (4, .int a4), (5, .int a5), (6, .int a6)]) hG dX1_perform_55 (by decide) rfl ?_
  refine s_iload hG dX1_perform_57 5 rfl ?_
  refine s_if (fun q3 => ?_) (fun q3 => ?_)
  · refine s_lsw (tgt := 148) (off := 89) hG dX1_perform_59 (by decide) (by rw [q3]; decide) (by decide) ?_
    refine s_iload hG dX1_perform_148 3 rfl ?_
    refine s_aload_n hG dX1_perform_150 1 rfl rfl ?_
    refine s_getI hG hE dX1_perform_151 fl_X1_15 rfl kC_89 ?_
    refine s_iadd hG dX1_perform_154 ?_
    exact s_iret hG hT dX1_perform_155
  · refine s_if (fun q4 => ?_) (fun q4 => ?_)
    · refine s_lsw (tgt := 156) (off := 97) hG dX1_perform_59 (by decide) (by rw [q4]; decide) (by decide) ?_
      refine s_aload_n hG dX1_perform_156 1 rfl rfl ?_
      refine s_iload_n hG dX1_perform_157 2 rfl rfl ?_
      refine s_iload_n hG dX1_perform_158 2 rfl rfl ?_
      refine s_iconst hG dX1_perform_159 ic_0 ?_
      refine s_iload hG dX1_perform_160 3 rfl ?_
      refine s_iload hG dX1_perform_162 0 rfl ?_
      refine s_callV (a := 89) (c := 1) (inj := inI) (As := [.int a1, .int a1, .int 0, .int a4, .int v2]) (st := []) rfl hG hE dX1_perform_164 hR (by omega) vv_X1_25 (by decide) rfl kC_89 rfl (Nat.le_of_ble_eq_true rfl) rfl (fun zv zh zq => HP (xl x) a1 a1 0 a4 v2 h1 zv zh zq) (fun v5 h6 => ?_)
      refine s_aload_n hG dX1_perform_167 1 rfl rfl ?_
      refine s_getI hG hE dX1_perform_168 fl_X1_19 rfl kC_89 ?_
      refine s_isub hG dX1_perform_171 ?_
      exact s_iret hG hT dX1_perform_172
    · refine s_if (fun q7 => ?_) (fun q7 => ?_)
      · refine s_lsw (tgt := 173) (off := 114) hG dX1_perform_59 (by decide) (by rw [q7]; decide) (by decide) ?_
        refine s_aload_n hG dX1_perform_173 1 rfl rfl ?_
        refine s_iload_n hG dX1_perform_174 2 rfl rfl ?_
        refine s_iload_n hG dX1_perform_175 2 rfl rfl ?_
        refine s_iconst hG dX1_perform_176 ic_1 ?_
        refine s_iload hG dX1_perform_177 3 rfl ?_
        refine s_iload hG dX1_perform_179 0 rfl ?_
        refine s_callV (a := 89) (c := 1) (inj := inI) (As := [.int a1, .int a1, .int 1, .int a4, .int v2]) (st := []) rfl hG hE dX1_perform_181 hR (by omega) vv_X1_25 (by decide) rfl kC_89 rfl (Nat.le_of_ble_eq_true rfl) rfl (fun zv zh zq => HP (xl x) a1 a1 1 a4 v2 h1 zv zh zq) (fun v8 h9 => ?_)
        refine s_iconst hG dX1_perform_184 ic_2 ?_
        refine s_imul hG dX1_perform_185 ?_
        exact s_iret hG hT dX1_perform_186
      · refine s_if (fun q10 => ?_) (fun q10 => ?_)
        · refine s_lsw (tgt := 187) (off := 128) hG dX1_perform_59 (by decide) (by rw [q10]; decide) (by decide) ?_
          refine s_aload_n hG dX1_perform_187 1 rfl rfl ?_
          refine s_iload_n hG dX1_perform_188 2 rfl rfl ?_
          refine s_iconst hG dX1_perform_189 ic_0 ?_
          refine s_iconst hG dX1_perform_190 ic_1 ?_
          refine s_iload hG dX1_perform_191 3 rfl ?_
          refine s_iload hG dX1_perform_193 0 rfl ?_
          refine s_callV (a := 89) (c := 1) (inj := inI) (As := [.int a1, .int 0, .int 1, .int a4, .int v2]) (st := []) rfl hG hE dX1_perform_195 hR (by omega) vv_X1_25 (by decide) rfl kC_89 rfl (Nat.le_of_ble_eq_true rfl) rfl (fun zv zh zq => HP (xl x) a1 0 1 a4 v2 h1 zv zh zq) (fun v11 h12 => ?_)
          refine s_bipush hG dX1_perform_198 bc_6 ?_
          refine s_ixor hG dX1_perform_200 ?_
          exact s_iret hG hT dX1_perform_201
        · refine s_if (fun q13 => ?_) (fun q13 => ?_)
          · refine s_lsw (tgt := 202) (off := 143) hG dX1_perform_59 (by decide) (by rw [q13]; decide) (by decide) ?_
            refine s_aload_n hG dX1_perform_202 1 rfl rfl ?_
            refine s_iload_n hG dX1_perform_203 2 rfl rfl ?_
            refine s_iconst hG dX1_perform_204 ic_1 ?_
            refine s_iconst hG dX1_perform_205 ic_0 ?_
            refine s_iload hG dX1_perform_206 3 rfl ?_
            refine s_iconst hG dX1_perform_208 ic_3 ?_
            refine s_imul hG dX1_perform_209 ?_
            refine s_iload hG dX1_perform_210 0 rfl ?_
            refine s_callV (a := 89) (c := 1) (inj := inI) (As := [.int a1, .int 1, .int 0, .int (a4 * 3), .int v2]) (st := []) rfl hG hE dX1_perform_212 hR (by omega) vv_X1_25 (by decide) rfl kC_89 rfl (Nat.le_of_ble_eq_true rfl) rfl (fun zv zh zq => HP (xl x) a1 1 0 (a4 * 3) v2 h1 zv zh zq) (fun v14 h15 => ?_)
            exact s_iret hG hT dX1_perform_215
          · refine s_if (fun q16 => ?_) (fun q16 => ?_)
            · refine s_lsw (tgt := 216) (off := 157) hG dX1_perform_59 (by decide) (by rw [q16]; decide) (by decide) ?_
              refine s_aload_n hG dX1_perform_216 1 rfl rfl ?_
              refine s_iload_n hG dX1_perform_217 2 rfl rfl ?_
              refine s_iconst hG dX1_perform_218 ic_1 ?_
              refine s_iconst hG dX1_perform_219 ic_2 ?_
              refine s_iload hG dX1_perform_220 3 rfl ?_
              refine s_iload hG dX1_perform_222 0 rfl ?_
              refine s_callV (a := 89) (c := 1) (inj := inI) (As := [.int a1, .int 1, .int 2, .int a4, .int v2]) (st := []) rfl hG hE dX1_perform_224 hR (by omega) vv_X1_25 (by decide) rfl kC_89 rfl (Nat.le_of_ble_eq_true rfl) rfl (fun zv zh zq => HP (xl x) a1 1 2 a4 v2 h1 zv zh zq) (fun v17 h18 => ?_)
              refine s_aload_n hG dX1_perform_227 1 rfl rfl ?_
              refine s_iload_n hG dX1_perform_228 2 rfl rfl ?_
              refine s_iload_n hG dX1_perform_229 2 rfl rfl ?_
              refine s_iconst hG dX1_perform_230 ic_1 ?_
              refine s_iconst hG dX1_perform_231 ic_1 ?_
              refine s_iload hG dX1_perform_232 0 rfl ?_
              refine s_callV (a := 89) (c := 1) (inj := inI) (As := [.int a1, .int a1, .int 1, .int 1, .int v2]) (st := [.int v17]) rfl hG hE dX1_perform_234 hR (by omega) vv_X1_25 (by decide) rfl kC_89 rfl (Nat.le_of_ble_eq_true rfl) rfl (fun zv zh zq => HP (xl x) a1 a1 1 1 v2 h18 zv zh zq) (fun v19 h20 => ?_)
              refine s_iadd hG dX1_perform_237 ?_
              exact s_iret hG hT dX1_perform_238
            · refine s_if (fun q21 => ?_) (fun q21 => ?_)
              · refine s_lsw (tgt := 239) (off := 180) hG dX1_perform_59 (by decide) (by rw [q21]; decide) (by decide) ?_
                refine s_aload_n hG dX1_perform_239 1 rfl rfl ?_
                refine s_iload_n hG dX1_perform_240 2 rfl rfl ?_
                refine s_iconst hG dX1_perform_241 ic_0 ?_
                refine s_iconst hG dX1_perform_242 ic_0 ?_
                refine s_iload hG dX1_perform_243 3 rfl ?_
                refine s_iload hG dX1_perform_245 0 rfl ?_
                refine s_callV (a := 89) (c := 1) (inj := inI) (As := [.int a1, .int 0, .int 0, .int a4, .int v2]) (st := []) rfl hG hE dX1_perform_247 hR (by omega) vv_X1_25 (by decide) rfl kC_89 rfl (Nat.le_of_ble_eq_true rfl) rfl (fun zv zh zq => HP (xl x) a1 0 0 a4 v2 h1 zv zh zq) (fun v22 h23 => ?_)
                refine s_ineg hG dX1_perform_250 ?_
                exact s_iret hG hT dX1_perform_251
              · refine s_if (fun q24 => ?_) (fun q24 => ?_)
                · refine s_lsw (tgt := 252) (off := 193) hG dX1_perform_59 (by decide) (by rw [q24]; decide) (by decide) ?_
                  refine s_aload_n hG dX1_perform_252 1 rfl rfl ?_
                  refine s_iload_n hG dX1_perform_253 2 rfl rfl ?_
                  refine s_iconst hG dX1_perform_254 ic_3 ?_
                  refine s_iconst hG dX1_perform_255 ic_2 ?_
                  refine s_iload hG dX1_perform_256 3 rfl ?_
                  refine s_aload_n hG dX1_perform_258 1 rfl rfl ?_
                  refine s_getI hG hE dX1_perform_259 fl_X1_15 rfl kC_89 ?_
                  refine s_isub hG dX1_perform_262 ?_
                  refine s_iload hG dX1_perform_263 0 rfl ?_
                  refine s_callV (a := 89) (c := 1) (inj := inI) (As := [.int a1, .int 3, .int 2, .int (a4 - (gi h1 89 1)), .int v2]) (st := []) rfl hG hE dX1_perform_265 hR (by omega) vv_X1_25 (by decide) rfl kC_89 rfl (Nat.le_of_ble_eq_true rfl) rfl (fun zv zh zq => HP (xl x) a1 3 2 (a4 - (gi h1 89 1)) v2 h1 zv zh zq) (fun v25 h26 => ?_)
                  exact s_iret hG hT dX1_perform_268
                · refine s_if (fun q27 => ?_) (fun q27 => ?_)
                  · refine s_lsw (tgt := 269) (off := 210) hG dX1_perform_59 (by decide) (by rw [q27]; decide) (by decide) ?_
                    refine s_aload_n hG dX1_perform_269 1 rfl rfl ?_
                    refine s_iload_n hG dX1_perform_270 2 rfl rfl ?_
                    refine s_iconst hG dX1_perform_271 ic_3 ?_
                    refine s_iconst hG dX1_perform_272 ic_1 ?_
                    refine s_iload hG dX1_perform_273 3 rfl ?_
                    refine s_iload hG dX1_perform_275 0 rfl ?_
                    refine s_callV (a := 89) (c := 1) (inj := inI) (As := [.int a1, .int 3, .int 1, .int a4, .int v2]) (st := []) rfl hG hE dX1_perform_277 hR (by omega) vv_X1_25 (by decide) rfl kC_89 rfl (Nat.le_of_ble_eq_true rfl) rfl (fun zv zh zq => HP (xl x) a1 3 1 a4 v2 h1 zv zh zq) (fun v28 h29 => ?_)
                    refine s_aload_n hG dX1_perform_280 1 rfl rfl ?_
                    refine s_iload_n hG dX1_perform_281 2 rfl rfl ?_
                    refine s_iconst hG dX1_perform_282 ic_3 ?_
                    refine s_iconst hG dX1_perform_283 ic_0 ?_
                    refine s_iconst hG dX1_perform_284 ic_2 ?_
                    refine s_iload hG dX1_perform_285 0 rfl ?_
                    refine s_callV (a := 89) (c := 1) (inj := inI) (As := [.int a1, .int 3, .int 0, .int 2, .int v2]) (st := [.int v28]) rfl hG hE dX1_perform_287 hR (by omega) vv_X1_25 (by decide) rfl kC_89 rfl (Nat.le_of_ble_eq_true rfl) rfl (fun zv zh zq => HP (xl x) a1 3 0 2 v2 h29 zv zh zq) (fun v30 h31 => ?_)
                    refine s_iadd hG dX1_perform_290 ?_
                    exact s_iret hG hT dX1_perform_291
                  · refine s_if (fun q32 => ?_) (fun q32 => ?_)
                    · refine s_lsw (tgt := 292) (off := 233) hG dX1_perform_59 (by decide) (by rw [q32]; decide) (by decide) ?_
                      refine s_aload_n hG dX1_perform_292 1 rfl rfl ?_
                      refine s_iload_n hG dX1_perform_293 2 rfl rfl ?_
                      refine s_iconst hG dX1_perform_294 ic_0 ?_
                      refine s_iconst hG dX1_perform_295 ic_1 ?_
                      refine s_iload hG dX1_perform_296 3 rfl ?_
                      refine s_aload_n hG dX1_perform_298 1 rfl rfl ?_
                      refine s_getI hG hE dX1_perform_299 fl_X1_19 rfl kC_89 ?_
                      refine s_iadd hG dX1_perform_302 ?_
                      refine s_iload hG dX1_perform_303 0 rfl ?_
                      refine s_callV (a := 89) (c := 1) (inj := inI) (As := [.int a1, .int 0, .int 1, .int (a4 + (gi h1 89 2)), .int v2]) (st := []) rfl hG hE dX1_perform_305 hR (by omega) vv_X1_25 (by decide) rfl kC_89 rfl (Nat.le_of_ble_eq_true rfl) rfl (fun zv zh zq => HP (xl x) a1 0 1 (a4 + (gi h1 89 2)) v2 h1 zv zh zq) (fun v33 h34 => ?_)
                      exact s_iret hG hT dX1_perform_308
                    · refine s_lsw (tgt := 309) (off := 250) hG dX1_perform_59 (by decide) (by show Op.lookupswitch.offset [(10, 89), (11, 97), (12, 114), (20, 128), (30, 143), (31, 157), (40, 180), (50, 193), (51, 210), (60, 233)] _ _ = _; rw [lv_osw q3 (show (10 : Int32).toInt = 10 by decide), lv_osw q4 (show (11 : Int32).toInt = 11 by decide), lv_osw q7 (show (12 : Int32).toInt = 12 by decide), lv_osw q10 (show (20 : Int32).toInt = 20 by decide), lv_osw q13 (show (30 : Int32).toInt = 30 by decide), lv_osw q16 (show (31 : Int32).toInt = 31 by decide), lv_osw q21 (show (40 : Int32).toInt = 40 by decide), lv_osw q24 (show (50 : Int32).toInt = 50 by decide), lv_osw q27 (show (51 : Int32).toInt = 51 by decide), lv_osw q32 (show (60 : Int32).toInt = 60 by decide)]; rfl) (by decide) ?_
                      refine s_aload_n hG dX1_perform_309 1 rfl rfl ?_
                      refine s_iload_n hG dX1_perform_310 2 rfl rfl ?_
                      refine s_iload_n hG dX1_perform_311 2 rfl rfl ?_
                      refine s_iconst hG dX1_perform_312 ic_0 ?_
                      refine s_iload hG dX1_perform_313 3 rfl ?_
                      refine s_iload hG dX1_perform_315 0 rfl ?_
                      refine s_callV (a := 89) (c := 1) (inj := inI) (As := [.int a1, .int a1, .int 0, .int a4, .int v2]) (st := []) rfl hG hE dX1_perform_317 hR (by omega) vv_X1_25 (by decide) rfl kC_89 rfl (Nat.le_of_ble_eq_true rfl) rfl (fun zv zh zq => HP (xl x) a1 a1 0 a4 v2 h1 zv zh zq) (fun v35 h36 => ?_)
                      refine s_aload_n hG dX1_perform_320 1 rfl rfl ?_
                      refine s_iload_n hG dX1_perform_321 2 rfl rfl ?_
                      refine s_iconst hG dX1_perform_322 ic_0 ?_
                      refine s_iconst hG dX1_perform_323 ic_2 ?_
                      refine s_iload hG dX1_perform_324 3 rfl ?_
                      refine s_iload hG dX1_perform_326 0 rfl ?_
                      refine s_callV (a := 89) (c := 1) (inj := inI) (As := [.int a1, .int 0, .int 2, .int a4, .int v2]) (st := [.int v35]) rfl hG hE dX1_perform_328 hR (by omega) vv_X1_25 (by decide) rfl kC_89 rfl (Nat.le_of_ble_eq_true rfl) rfl (fun zv zh zq => HP (xl x) a1 0 2 a4 v2 h36 zv zh zq) (fun v37 h38 => ?_)
                      refine s_isub hG dX1_perform_331 ?_
                      exact s_iret hG hT dX1_perform_332

def m_X1_perform (P : Int32 → Int32 → Int32 → Int32 → Int32 → Hp → Option (Int32 × Hp)) (a1 : Int32) (a2 : Int32) (a3 : Int32) (a4 : Int32) (a5 : Int32) (h : Hp) : Option (Int32 × Hp) := cb (m_X1_bodyFrom a2 a3 h) fun v1 h2 => if v1 = 0 then some (0, h2) else if a5 ≤ 40 then if 20 ≤ (gi h2 89 3) then m_X1_perform_L41 P a1 a4 a5 v1 h2 else ck (inb (gi h2 89 3) 20) (hb (si h2 90 (gi h2 89 3).toNatClampNeg v1) fun h7 => m_X1_perform_L41 P a1 a4 a5 v1 h7) else some (0, h2)
set_option maxRecDepth 20000 in
set_option maxHeartbeats 4000000 in
theorem s_X1_perform (w : WT) (dd : Nat) {x : CT} {l : Launch} (hx : xl x = l) (hG : Gd x cX1_perform 8 RX1) (hE : Ge x (GC w)) (hR : Rm x (dd + 2)) (hT : Rt x (some .int)) (P : Int32 → Int32 → Int32 → Int32 → Int32 → Hp → Option (Int32 × Hp)) (HP : ∀ (l : Launch) (a1 : Int32) (a2 : Int32) (a3 : Int32) (a4 : Int32) (a5 : Int32) (h : Hp) v h', P a1 a2 a3 a4 a5 h = some (v, h') → MetM l (GC w) yX1_perform cX1_perform 8 (some .int) dd [.ref (gB (GC w) + 89), .int a1, .int a2, .int a3, .int a4, .int a5] h (inI v) h') (a1 : Int32) (a2 : Int32) (a3 : Int32) (a4 : Int32) (a5 : Int32) (h : Hp) : Sn x 8 (gA (GC w)) (0, 0) (ζM x (GC w) inI) (gW (GC w) h) 0 [(0, .ref (gB (GC w) + 89)), (1, .int a1), (2, .int a2), (3, .int a3), (4, .int a4), (5, .int a5)] [] (m_X1_perform P a1 a2 a3 a4 a5 h) := by
  unfold m_X1_perform
  refine s_iload_n hG dX1_perform_0 2 rfl rfl ?_
  refine s_iload_n hG dX1_perform_1 3 rfl rfl ?_
  refine s_callS (inj := inI) (As := [.int a2, .int a3]) (st := []) rfl hG hE dX1_perform_2 hR (by omega) vs_X1_29 rfl (Nat.le_of_ble_eq_true rfl) rfl (fun zv zh zq => c_X1_bodyFrom w (xl x) a2 a3 h zv zh zq) (fun v1 h2 => ?_)
  refine s_istore (lv' := [(6, .int v1), (0, .ref (gB (GC w) + 89)), (1, .int a1), (2, .int a2), (3, .int a3), (4, .int a4), (5, .int a5)]) hG dX1_perform_5 (by decide) rfl ?_
  refine s_iload hG dX1_perform_7 0 rfl ?_
  refine s_if_eq hG dX1_perform_9 (tgt := 19) (by decide) (fun q3 => ?_) (fun q3 => ?_)
  · refine s_iconst hG dX1_perform_19 ic_0 ?_
    exact s_iret hG hT dX1_perform_20
  · refine s_iload hG dX1_perform_12 6 rfl ?_
    refine s_bipush hG dX1_perform_14 bc_40 ?_
    refine s_icmp_le hG dX1_perform_16 (tgt := 21) (by decide) (fun q4 => ?_) (fun q4 => ?_)
    · refine s_aload_n hG dX1_perform_21 1 rfl rfl ?_
      refine s_getI hG hE dX1_perform_22 fl_X1_22 rfl kC_89 ?_
      refine s_bipush hG dX1_perform_25 bc_20 ?_
      refine s_icmp_ge hG dX1_perform_27 (tgt := 41) (by decide) (fun q5 => ?_) (fun q5 => ?_)
      · refine s_lv [1, 2, 5, 6, 0] rfl ?_
        exact s_X1_perform_L41 w dd hx hG hE hR hT P HP a1 a4 a5 v1 h2
      · refine s_aload_n hG dX1_perform_30 1 rfl rfl ?_
        refine s_getS hG hE dX1_perform_31 fl_X1_11 rfl kC_89 fC_1_0 (nzC kC_90) ?_
        refine s_aload_n hG dX1_perform_34 1 rfl rfl ?_
        refine s_getI hG hE dX1_perform_35 fl_X1_22 rfl kC_89 ?_
        refine s_iload hG dX1_perform_38 0 rfl ?_
        refine s_ck (fun q6 => ?_)
        refine s_iast hG hE dX1_perform_40 kC_90 q6 (fun h7 => ?_)
        refine s_lv [1, 2, 5, 6, 0] rfl ?_
        exact s_X1_perform_L41 w dd hx hG hE hR hT P HP a1 a4 a5 v1 h7
    · refine s_iconst hG dX1_perform_19 ic_0 ?_
      exact s_iret hG hT dX1_perform_20

theorem c_X1_perform (w : WT) (dd : Nat) (l : Launch) (P : Int32 → Int32 → Int32 → Int32 → Int32 → Hp → Option (Int32 × Hp)) (HP : ∀ (l : Launch) (a1 : Int32) (a2 : Int32) (a3 : Int32) (a4 : Int32) (a5 : Int32) (h : Hp) v h', P a1 a2 a3 a4 a5 h = some (v, h') → MetM l (GC w) yX1_perform cX1_perform 8 (some .int) dd [.ref (gB (GC w) + 89), .int a1, .int a2, .int a3, .int a4, .int a5] h (inI v) h') (a1 : Int32) (a2 : Int32) (a3 : Int32) (a4 : Int32) (a5 : Int32) (h : Hp) : ∀ v h', m_X1_perform P a1 a2 a3 a4 a5 h = some (v, h') → MetM l (GC w) yX1_perform cX1_perform 8 (some .int) (dd + 2) [.ref (gB (GC w) + 89), .int a1, .int a2, .int a3, .int a4, .int a5] h (inI v) h' :=
  met_of (by decide) (lokC w) (Nat.le_of_ble_eq_true rfl) (fun x hx hG hE hR hT => s_X1_perform w dd hx hG hE hR hT P HP a1 a2 a3 a4 a5 h)
def m_X1_performN : Nat → Int32 → Int32 → Int32 → Int32 → Int32 → Hp → Option (Int32 × Hp)
  | 0, _, _, _, _, _, _ => none
  | n + 1, a1, a2, a3, a4, a5, h => m_X1_perform (m_X1_performN n) a1 a2 a3 a4 a5 h
theorem c_X1_performN (w : WT) : ∀ (n : Nat), ∀ (l : Launch) (a1 : Int32) (a2 : Int32) (a3 : Int32) (a4 : Int32) (a5 : Int32) (h : Hp) v h', m_X1_performN n a1 a2 a3 a4 a5 h = some (v, h') → MetM l (GC w) yX1_perform cX1_perform 8 (some .int) (2 * n) [.ref (gB (GC w) + 89), .int a1, .int a2, .int a3, .int a4, .int a5] h (inI v) h' := by
  intro n
  induction n with
  | zero => intro l a1 a2 a3 a4 a5 h v h' q; cases q
  | succ n ih =>
    intro l a1 a2 a3 a4 a5 h v h' q
    exact c_X1_perform w (2 * n) l (m_X1_performN n) ih a1 a2 a3 a4 a5 h v h' q
def m_X1_does (a1 : Int32) (a2 : Int32) (a3 : Int32) (h : Hp) : Option (Int32 × Hp) := cb (m_X1_performN 60 a1 a1 a2 a3 0 h) fun v1 h2 => some (v1, h2)
set_option maxRecDepth 20000 in
set_option maxHeartbeats 4000000 in
theorem s_X1_does (w : WT) {x : CT} {l : Launch} (hx : xl x = l) (hG : Gd x cX1_does 4 RX1) (hE : Ge x (GC w)) (hR : Rm x 121) (hT : Rt x (some .int)) (a1 : Int32) (a2 : Int32) (a3 : Int32) (h : Hp) : Sn x 4 (gA (GC w)) (0, 0) (ζM x (GC w) inI) (gW (GC w) h) 0 [(0, .ref (gB (GC w) + 89)), (1, .int a1), (2, .int a2), (3, .int a3)] [] (m_X1_does a1 a2 a3 h) := by
  unfold m_X1_does
  refine s_aload_n hG dX1_does_0 0 rfl rfl ?_
  refine s_iload_n hG dX1_does_1 1 rfl rfl ?_
  refine s_iload_n hG dX1_does_2 1 rfl rfl ?_
  refine s_iload_n hG dX1_does_3 2 rfl rfl ?_
  refine s_iload_n hG dX1_does_4 3 rfl rfl ?_
  refine s_iconst hG dX1_does_5 ic_0 ?_
  refine s_callV (a := 89) (c := 1) (inj := inI) (As := [.int a1, .int a1, .int a2, .int a3, .int 0]) (st := []) rfl hG hE dX1_does_6 hR (by decide) vv_X1_25 (by decide) rfl kC_89 rfl (Nat.le_of_ble_eq_true rfl) rfl (fun zv zh zq => c_X1_performN w 60 (xl x) a1 a1 a2 a3 0 h zv zh zq) (fun v1 h2 => ?_)
  exact s_iret hG hT dX1_does_9

theorem c_X1_does (w : WT) (l : Launch) (a1 : Int32) (a2 : Int32) (a3 : Int32) (h : Hp) : ∀ v h', m_X1_does a1 a2 a3 h = some (v, h') → MetM l (GC w) yX1_does cX1_does 4 (some .int) 121 [.ref (gB (GC w) + 89), .int a1, .int a2, .int a3] h (inI v) h' :=
  met_of (by decide) (lokC w) (Nat.le_of_ble_eq_true rfl) (fun x hx hG hE hR hT => s_X1_does w hx hG hE hR hT a1 a2 a3 h)
theorem fl_X8_65 : FL RX8 65 8 10 := ⟨by decide, by decide, gw_at 421 (by decide +kernel) (by decide +kernel), rfl⟩
theorem fC_8_10 : SC 1 10 = some 89 := rfl
theorem vv_X8_277 : VV RX8 277 yX1_begin cX1_begin 3 none 2 := ⟨⟨gw_at 991 (by decide +kernel) (by decide +kernel), gw_at 994 (by decide +kernel) (by decide +kernel), gw_at 92 (by decide +kernel) (by decide +kernel), by decide +kernel, by decide⟩, gw_at 992 (by decide +kernel) (by decide +kernel), gw_at 993 (by decide +kernel) (by decide +kernel)⟩
theorem vs_X8_280 : VS RX8 280 yX8_isKind cX8_isKind 1 (some .boolean) 1 := ⟨⟨gw_at 995 (by decide +kernel) (by decide +kernel), gw_at 997 (by decide +kernel) (by decide +kernel), gw_at 87 (by decide +kernel) (by decide +kernel), by decide +kernel, by decide⟩, gw_at 996 (by decide +kernel) (by decide +kernel)⟩
theorem vv_X8_283 : VV RX8 283 yX1_does cX1_does 4 (some .int) 3 := ⟨⟨gw_at 998 (by decide +kernel) (by decide +kernel), gw_at 1001 (by decide +kernel) (by decide +kernel), gw_at 92 (by decide +kernel) (by decide +kernel), by decide +kernel, by decide⟩, gw_at 999 (by decide +kernel) (by decide +kernel), gw_at 1000 (by decide +kernel) (by decide +kernel)⟩
def m_X8_act (a1 : Int32) (a2 : Int32) (a3 : Int32) (h : Hp) : Option (Int32 × Hp) := cb (m_X1_begin (gi h 1 12) (gi h 1 11) h) fun _ h2 => cb (m_X8_isKind a1 h2) fun v3 h4 => if v3 = 0 then some (0, h4) else if a2 < 0 then some (0, h4) else if a2 < 3 then cb (m_X1_does a1 a2 a3 h4) fun v8 h9 => some (v8, h9) else some (0, h4)
set_option maxRecDepth 20000 in
set_option maxHeartbeats 4000000 in
theorem s_X8_act (w : WT) {x : CT} {l : Launch} (hx : xl x = l) (hG : Gd x cX8_act 4 RX8) (hE : Ge x (GC w)) (hR : Rm x 122) (hT : Rt x (some .int)) (a1 : Int32) (a2 : Int32) (a3 : Int32) (h : Hp) : Sn x 4 (gA (GC w)) (0, 0) (ζM x (GC w) inI) (gW (GC w) h) 0 [(0, .ref (gB (GC w) + 1)), (1, .int a1), (2, .int a2), (3, .int a3)] [] (m_X8_act a1 a2 a3 h) := by
  unfold m_X8_act
  refine s_aload_n hG dX8_act_0 0 rfl rfl ?_
  refine s_getS hG hE dX8_act_1 fl_X8_65 rfl kC_1 fC_8_10 (nzC kC_89) ?_
  refine s_aload_n hG dX8_act_4 0 rfl rfl ?_
  refine s_getI hG hE dX8_act_5 fl_X8_96 rfl kC_1 ?_
  refine s_aload_n hG dX8_act_8 0 rfl rfl ?_
  refine s_getI hG hE dX8_act_9 fl_X8_80 rfl kC_1 ?_
  refine s_callV (a := 89) (c := 1) (inj := inV) (As := [.int (gi h 1 12), .int (gi h 1 11)]) (st := []) rfl hG hE dX8_act_12 hR (by decide) vv_X8_277 (by decide) rfl kC_89 rfl (Nat.le_of_ble_eq_true rfl) rfl (fun zv zh zq => c_X1_begin w (xl x) (gi h 1 12) (gi h 1 11) h zv zh zq) (fun v1 h2 => ?_)
  refine s_iload_n hG dX8_act_15 1 rfl rfl ?_
  refine s_callS (inj := inI) (As := [.int a1]) (st := []) rfl hG hE dX8_act_16 hR (by decide) vs_X8_280 rfl (Nat.le_of_ble_eq_true rfl) rfl (fun zv zh zq => c_X8_isKind w (xl x) a1 h2 zv zh zq) (fun v3 h4 => ?_)
  refine s_if_eq hG dX8_act_19 (tgt := 31) (by decide) (fun q5 => ?_) (fun q5 => ?_)
  · refine s_iconst hG dX8_act_31 ic_0 ?_
    exact s_iret hG hT dX8_act_32
  · refine s_iload_n hG dX8_act_22 2 rfl rfl ?_
    refine s_if_lt hG dX8_act_23 (tgt := 31) (by decide) (fun q6 => ?_) (fun q6 => ?_)
    · refine s_iconst hG dX8_act_31 ic_0 ?_
      exact s_iret hG hT dX8_act_32
    · refine s_iload_n hG dX8_act_26 2 rfl rfl ?_
      refine s_iconst hG dX8_act_27 ic_3 ?_
      refine s_icmp_lt hG dX8_act_28 (tgt := 33) (by decide) (fun q7 => ?_) (fun q7 => ?_)
      · refine s_aload_n hG dX8_act_33 0 rfl rfl ?_
        refine s_getS hG hE dX8_act_34 fl_X8_65 rfl kC_1 fC_8_10 (nzC kC_89) ?_
        refine s_iload_n hG dX8_act_37 1 rfl rfl ?_
        refine s_iload_n hG dX8_act_38 2 rfl rfl ?_
        refine s_iload_n hG dX8_act_39 3 rfl rfl ?_
        refine s_callV (a := 89) (c := 1) (inj := inI) (As := [.int a1, .int a2, .int a3]) (st := []) rfl hG hE dX8_act_40 hR (by decide) vv_X8_283 (by decide) rfl kC_89 rfl (Nat.le_of_ble_eq_true rfl) rfl (fun zv zh zq => c_X1_does w (xl x) a1 a2 a3 h4 zv zh zq) (fun v8 h9 => ?_)
        exact s_iret hG hT dX8_act_43
      · refine s_iconst hG dX8_act_31 ic_0 ?_
        exact s_iret hG hT dX8_act_32

theorem c_X8_act (w : WT) (l : Launch) (a1 : Int32) (a2 : Int32) (a3 : Int32) (h : Hp) : ∀ v h', m_X8_act a1 a2 a3 h = some (v, h') → MetM l (GC w) yX8_act cX8_act 4 (some .int) 122 [.ref (gB (GC w) + 1), .int a1, .int a2, .int a3] h (inI v) h' :=
  met_of (by decide) (lokC w) (Nat.le_of_ble_eq_true rfl) (fun x hx hG hE hR hT => s_X8_act w hx hG hE hR hT a1 a2 a3 h)
def m_X1_bodyAt (a1 : Int32) (h : Hp) : Option (Int32 × Hp) := if a1 < 0 then some ((-1), h) else if (gi h 89 3) ≤ a1 then some ((-1), h) else if 20 ≤ a1 then some ((-1), h) else ck (inb a1 20) (some (gi h 90 a1.toNatClampNeg, h))
set_option maxRecDepth 20000 in
set_option maxHeartbeats 4000000 in
theorem s_X1_bodyAt (w : WT) {x : CT} {l : Launch} (hx : xl x = l) (hG : Gd x cX1_bodyAt 2 RX1) (hE : Ge x (GC w)) (hR : Rm x 1) (hT : Rt x (some .int)) (a1 : Int32) (h : Hp) : Sn x 2 (gA (GC w)) (0, 0) (ζM x (GC w) inI) (gW (GC w) h) 0 [(0, .ref (gB (GC w) + 89)), (1, .int a1)] [] (m_X1_bodyAt a1 h) := by
  unfold m_X1_bodyAt
  refine s_iload_n hG dX1_bodyAt_0 1 rfl rfl ?_
  refine s_if_lt hG dX1_bodyAt_1 (tgt := 27) (by decide) (fun q1 => ?_) (fun q1 => ?_)
  · refine s_iconst hG dX1_bodyAt_27 ic_m1 ?_
    exact s_iret hG hT dX1_bodyAt_28
  · refine s_iload_n hG dX1_bodyAt_4 1 rfl rfl ?_
    refine s_aload_n hG dX1_bodyAt_5 0 rfl rfl ?_
    refine s_getI hG hE dX1_bodyAt_6 fl_X1_22 rfl kC_89 ?_
    refine s_icmp_ge hG dX1_bodyAt_9 (tgt := 27) (by decide) (fun q2 => ?_) (fun q2 => ?_)
    · refine s_iconst hG dX1_bodyAt_27 ic_m1 ?_
      exact s_iret hG hT dX1_bodyAt_28
    · refine s_iload_n hG dX1_bodyAt_12 1 rfl rfl ?_
      refine s_bipush hG dX1_bodyAt_13 bc_20 ?_
      refine s_icmp_ge hG dX1_bodyAt_15 (tgt := 27) (by decide) (fun q3 => ?_) (fun q3 => ?_)
      · refine s_iconst hG dX1_bodyAt_27 ic_m1 ?_
        exact s_iret hG hT dX1_bodyAt_28
      · refine s_aload_n hG dX1_bodyAt_18 0 rfl rfl ?_
        refine s_getS hG hE dX1_bodyAt_19 fl_X1_11 rfl kC_89 fC_1_0 (nzC kC_90) ?_
        refine s_iload_n hG dX1_bodyAt_22 1 rfl rfl ?_
        refine s_ck (fun q4 => ?_)
        refine s_iald hG hE dX1_bodyAt_23 kC_90 q4 ?_
        refine s_goto (tgt := 28) hG dX1_bodyAt_24 (by decide) ?_
        exact s_iret hG hT dX1_bodyAt_28

theorem c_X1_bodyAt (w : WT) (l : Launch) (a1 : Int32) (h : Hp) : ∀ v h', m_X1_bodyAt a1 h = some (v, h') → MetM l (GC w) yX1_bodyAt cX1_bodyAt 2 (some .int) 1 [.ref (gB (GC w) + 89), .int a1] h (inI v) h' :=
  met_of (by decide) (lokC w) (Nat.le_of_ble_eq_true rfl) (fun x hx hG hE hR hT => s_X1_bodyAt w hx hG hE hR hT a1 h)
theorem vv_X8_287 : VV RX8 287 yX1_bodyAt cX1_bodyAt 2 (some .int) 1 := ⟨⟨gw_at 1017 (by decide +kernel) (by decide +kernel), gw_at 1020 (by decide +kernel) (by decide +kernel), gw_at 92 (by decide +kernel) (by decide +kernel), by decide +kernel, by decide⟩, gw_at 1018 (by decide +kernel) (by decide +kernel), gw_at 1019 (by decide +kernel) (by decide +kernel)⟩
def m_X8_trace (a1 : Int32) (h : Hp) : Option (Int32 × Hp) := cb (m_X1_bodyAt a1 h) fun v1 h2 => some (v1, h2)
set_option maxRecDepth 20000 in
set_option maxHeartbeats 4000000 in
theorem s_X8_trace (w : WT) {x : CT} {l : Launch} (hx : xl x = l) (hG : Gd x cX8_trace 2 RX8) (hE : Ge x (GC w)) (hR : Rm x 2) (hT : Rt x (some .int)) (a1 : Int32) (h : Hp) : Sn x 2 (gA (GC w)) (0, 0) (ζM x (GC w) inI) (gW (GC w) h) 0 [(0, .ref (gB (GC w) + 1)), (1, .int a1)] [] (m_X8_trace a1 h) := by
  unfold m_X8_trace
  refine s_aload_n hG dX8_trace_0 0 rfl rfl ?_
  refine s_getS hG hE dX8_trace_1 fl_X8_65 rfl kC_1 fC_8_10 (nzC kC_89) ?_
  refine s_iload_n hG dX8_trace_4 1 rfl rfl ?_
  refine s_callV (a := 89) (c := 1) (inj := inI) (As := [.int a1]) (st := []) rfl hG hE dX8_trace_5 hR (by decide) vv_X8_287 (by decide) rfl kC_89 rfl (Nat.le_of_ble_eq_true rfl) rfl (fun zv zh zq => c_X1_bodyAt w (xl x) a1 h zv zh zq) (fun v1 h2 => ?_)
  exact s_iret hG hT dX8_trace_8

theorem c_X8_trace (w : WT) (l : Launch) (a1 : Int32) (h : Hp) : ∀ v h', m_X8_trace a1 h = some (v, h') → MetM l (GC w) yX8_trace cX8_trace 2 (some .int) 2 [.ref (gB (GC w) + 1), .int a1] h (inI v) h' :=
  met_of (by decide) (lokC w) (Nat.le_of_ble_eq_true rfl) (fun x hx hG hE hR hT => s_X8_trace w hx hG hE hR hT a1 h)
theorem wd_1025 : Cond.fieldLink RX8 290 RX8 "ABOVE" "[I" ∈ GW := gw_at 1025 (by decide +kernel) (by decide +kernel)
theorem bc_m11 : (Int8.ofInt (-11)).toInt32 = (-11) := by decide
def m_X8_taken_L25 : Nat → Int32 → Int32 → Int32 → Int32 → Hp → Option (Int32 × Hp)
  | 0, _, _, _, _, _ => none
  | n + 1, a1, a2, a3, a4, h => if 7 ≤ a4 then some ((-12), h) else if a3 < 0 then some ((-12), h) else if a3 = a2 then some (a1, h) else ck (inb a3 7) (vb (abvT a3.toNatClampNeg) fun v5 => vb (a4 + 1) fun v6 => m_X8_taken_L25 n a1 a2 v5 v6 h)
set_option maxRecDepth 20000 in
set_option maxHeartbeats 4000000 in
theorem s_X8_taken_L25 (w : WT) {x : CT} {l : Launch} (hx : xl x = l) (hG : Gd x cX8_taken 5 RX8) (hE : Ge x (GC w)) (hR : Rm x 2) (hT : Rt x (some .int)) : ∀ (n : Nat) (a1 : Int32) (a2 : Int32) (a3 : Int32) (a4 : Int32) (h : Hp), Sn x 5 (gA (GC w)) (0, 0) (ζM x (GC w) inI) (gW (GC w) h) 25 [(1, .int a1), (2, .int a2), (3, .int a3), (4, .int a4)] [] (m_X8_taken_L25 n a1 a2 a3 a4 h) := by
  intro n
  induction n with
  | zero => intro a1 a2 a3 a4 h; exact s_none
  | succ n ih =>
    intro a1 a2 a3 a4 h
    rw [m_X8_taken_L25]
    refine s_iload hG dX8_taken_25 3 rfl ?_
    refine s_bipush hG dX8_taken_27 bc_7 ?_
    refine s_icmp_ge hG dX8_taken_29 (tgt := 55) (by decide) (fun q1 => ?_) (fun q1 => ?_)
    · refine s_bipush hG dX8_taken_55 bc_m12 ?_
      exact s_iret hG hT dX8_taken_57
    · refine s_iload_n hG dX8_taken_32 2 rfl rfl ?_
      refine s_if_lt hG dX8_taken_33 (tgt := 55) (by decide) (fun q2 => ?_) (fun q2 => ?_)
      · refine s_bipush hG dX8_taken_55 bc_m12 ?_
        exact s_iret hG hT dX8_taken_57
      · refine s_iload_n hG dX8_taken_36 2 rfl rfl ?_
        refine s_iload_n hG dX8_taken_37 1 rfl rfl ?_
        refine s_icmp_ne hG dX8_taken_38 (tgt := 43) (by decide) (fun q3 => ?_) (fun q3 => ?_)
        · refine s_iload_n hG dX8_taken_41 0 rfl rfl ?_
          exact s_iret hG hT dX8_taken_42
        · refine s_gsA (Wd := gW (GC w) h) hG hE dX8_taken_43 wd_1025 ?_
          refine s_iload_n hG dX8_taken_46 2 rfl rfl ?_
          refine s_ck (fun q4 => ?_)
          refine s_tA (Wd := gW (GC w) h) hG hE dX8_taken_47 q4 ?_
          refine s_vI (fun v5 => ?_)
          refine s_istore_n (lv' := [(3, .int v5), (1, .int a1), (2, .int a2), (4, .int a4)]) hG dX8_taken_48 rfl (by decide) rfl ?_
          refine s_iinc hG dX8_taken_49 3 rfl ic_1 (by decide) (fun v6 => [(4, .int v6), (3, .int v5), (1, .int a1), (2, .int a2)]) (fun _ => rfl) (fun v6 => ?_)
          refine s_goto (tgt := 25) hG dX8_taken_52 (by decide) ?_
          refine s_lv [2, 3, 1, 0] rfl ?_
          exact ih a1 a2 v5 v6 h

def m_X8_taken (a1 : Int32) (a2 : Int32) (h : Hp) : Option (Int32 × Hp) := cb (m_X8_isKind a2 h) fun v1 h2 => if v1 = 0 then some ((-2), h2) else cb (m_X8_isKind a1 h2) fun v4 h5 => if v4 = 0 then some ((-11), h5) else m_X8_taken_L25 FU a1 a2 a1 0 h5
set_option maxRecDepth 20000 in
set_option maxHeartbeats 4000000 in
theorem s_X8_taken (w : WT) {x : CT} {l : Launch} (hx : xl x = l) (hG : Gd x cX8_taken 5 RX8) (hE : Ge x (GC w)) (hR : Rm x 2) (hT : Rt x (some .int)) (a1 : Int32) (a2 : Int32) (h : Hp) : Sn x 5 (gA (GC w)) (0, 0) (ζM x (GC w) inI) (gW (GC w) h) 0 [(0, .ref (gB (GC w) + 1)), (1, .int a1), (2, .int a2)] [] (m_X8_taken a1 a2 h) := by
  unfold m_X8_taken
  refine s_iload_n hG dX8_taken_0 2 rfl rfl ?_
  refine s_callS (inj := inI) (As := [.int a2]) (st := []) rfl hG hE dX8_taken_1 hR (by decide) vs_X8_280 rfl (Nat.le_of_ble_eq_true rfl) rfl (fun zv zh zq => c_X8_isKind w (xl x) a2 h zv zh zq) (fun v1 h2 => ?_)
  refine s_if_ne hG dX8_taken_4 (tgt := 10) (by decide) (fun q3 => ?_) (fun q3 => ?_)
  · refine s_bipush hG dX8_taken_7 bc_m2 ?_
    exact s_iret hG hT dX8_taken_9
  · refine s_iload_n hG dX8_taken_10 1 rfl rfl ?_
    refine s_callS (inj := inI) (As := [.int a1]) (st := []) rfl hG hE dX8_taken_11 hR (by decide) vs_X8_280 rfl (Nat.le_of_ble_eq_true rfl) rfl (fun zv zh zq => c_X8_isKind w (xl x) a1 h2 zv zh zq) (fun v4 h5 => ?_)
    refine s_if_ne hG dX8_taken_14 (tgt := 20) (by decide) (fun q6 => ?_) (fun q6 => ?_)
    · refine s_bipush hG dX8_taken_17 bc_m11 ?_
      exact s_iret hG hT dX8_taken_19
    · refine s_iload_n hG dX8_taken_20 1 rfl rfl ?_
      refine s_istore_n (lv' := [(3, .int a1), (0, .ref (gB (GC w) + 1)), (1, .int a1), (2, .int a2)]) hG dX8_taken_21 rfl (by decide) rfl ?_
      refine s_iconst hG dX8_taken_22 ic_0 ?_
      refine s_istore (lv' := [(4, .int 0), (3, .int a1), (0, .ref (gB (GC w) + 1)), (1, .int a1), (2, .int a2)]) hG dX8_taken_23 (by decide) rfl ?_
      refine s_lv [3, 4, 1, 0] rfl ?_
      exact s_X8_taken_L25 w hx hG hE hR hT FU a1 a2 a1 0 h5

theorem c_X8_taken (w : WT) (l : Launch) (a1 : Int32) (a2 : Int32) (h : Hp) : ∀ v h', m_X8_taken a1 a2 h = some (v, h') → MetM l (GC w) yX8_taken cX8_taken 5 (some .int) 2 [.ref (gB (GC w) + 1), .int a1, .int a2] h (inI v) h' :=
  met_of (by decide) (lokC w) (Nat.le_of_ble_eq_true rfl) (fun x hx hG hE hR hT => s_X8_taken w hx hG hE hR hT a1 a2 h)
theorem fl_X8_293 : FL RX8 293 1 3 := ⟨by decide, by decide, gw_at 314 (by decide +kernel) (by decide +kernel), rfl⟩
def m_X8_count (a1 : Int32) (h : Hp) : Option (Int32 × Hp) := if a1 = 0 then some (gi h 1 11, h) else if a1 = 1 then some (gi h 1 12, h) else if a1 = 2 then some (gi h 1 13, h) else if a1 = 3 then some (gi h 9 1, h) else if a1 = 4 then some (gi h 89 3, h) else some ((-2), h)
set_option maxRecDepth 20000 in
set_option maxHeartbeats 4000000 in
theorem s_X8_count (w : WT) {x : CT} {l : Launch} (hx : xl x = l) (hG : Gd x cX8_count 2 RX8) (hE : Ge x (GC w)) (hR : Rm x 1) (hT : Rt x (some .int)) (a1 : Int32) (h : Hp) : Sn x 2 (gA (GC w)) (0, 0) (ζM x (GC w) inI) (gW (GC w) h) 0 [(0, .ref (gB (GC w) + 1)), (1, .int a1)] [] (m_X8_count a1 h) := by
  unfold m_X8_count
  refine s_iload_n hG dX8_count_0 1 rfl rfl ?_
  refine s_tsw (off := 35) hG dX8_count_1 0 (by decide) (tgt := 36) (by decide) (fun q1 => ?_) (fun q1 => ?_)
  · refine s_aload_n hG dX8_count_36 0 rfl rfl ?_
    refine s_getI hG hE dX8_count_37 fl_X8_80 rfl kC_1 ?_
    exact s_iret hG hT dX8_count_40
  · refine s_tsw (off := 40) hG dX8_count_1 1 (by decide) (tgt := 41) (by decide) (fun q2 => ?_) (fun q2 => ?_)
    · refine s_aload_n hG dX8_count_41 0 rfl rfl ?_
      refine s_getI hG hE dX8_count_42 fl_X8_96 rfl kC_1 ?_
      exact s_iret hG hT dX8_count_45
    · refine s_tsw (off := 45) hG dX8_count_1 2 (by decide) (tgt := 46) (by decide) (fun q3 => ?_) (fun q3 => ?_)
      · refine s_aload_n hG dX8_count_46 0 rfl rfl ?_
        refine s_getI hG hE dX8_count_47 fl_X8_136 rfl kC_1 ?_
        exact s_iret hG hT dX8_count_50
      · refine s_tsw (off := 50) hG dX8_count_1 3 (by decide) (tgt := 51) (by decide) (fun q4 => ?_) (fun q4 => ?_)
        · refine s_aload_n hG dX8_count_51 0 rfl rfl ?_
          refine s_getS hG hE dX8_count_52 fl_X8_48 rfl kC_1 fC_8_7 (nzC kC_9) ?_
          refine s_getI hG hE dX8_count_55 fl_X8_129 rfl kC_9 ?_
          exact s_iret hG hT dX8_count_58
        · refine s_tsw (off := 58) hG dX8_count_1 4 (by decide) (tgt := 59) (by decide) (fun q5 => ?_) (fun q5 => ?_)
          · refine s_aload_n hG dX8_count_59 0 rfl rfl ?_
            refine s_getS hG hE dX8_count_60 fl_X8_65 rfl kC_1 fC_8_10 (nzC kC_89) ?_
            refine s_getI hG hE dX8_count_63 fl_X8_293 rfl kC_89 ?_
            exact s_iret hG hT dX8_count_66
          · refine s_tswD (tgt := 67) hG dX8_count_1 (by decide) (by have zq1 := lv_neT q1 (show (0 : Int32).toInt = 0 by decide); have zq2 := lv_neT q2 (show (1 : Int32).toInt = 1 by decide); have zq3 := lv_neT q3 (show (2 : Int32).toInt = 2 by decide); have zq4 := lv_neT q4 (show (3 : Int32).toInt = 3 by decide); have zq5 := lv_neT q5 (show (4 : Int32).toInt = 4 by decide); omega) ?_
            refine s_bipush hG dX8_count_67 bc_m2 ?_
            exact s_iret hG hT dX8_count_69

theorem c_X8_count (w : WT) (l : Launch) (a1 : Int32) (h : Hp) : ∀ v h', m_X8_count a1 h = some (v, h') → MetM l (GC w) yX8_count cX8_count 2 (some .int) 1 [.ref (gB (GC w) + 1), .int a1] h (inI v) h' :=
  met_of (by decide) (lokC w) (Nat.le_of_ble_eq_true rfl) (fun x hx hG hE hR hT => s_X8_count w hx hG hE hR hT a1 h)
def m_J7_fill_d0a16_L6 : Nat → Nat → Int64 → Int32 → Int32 → Hp → Option (Unit × Hp)
  | 0, _, _, _, _, _ => none
  | n + 1, a0, a1, a3, a4, h => if a4 ≤ a3 then some ((), h) else ck (inb a3 60) (hb (sl h a0 a3.toNatClampNeg a1) fun h3 => vb (a3 + 1) fun v4 => m_J7_fill_d0a16_L6 n a0 a1 v4 a4 h3)
set_option maxRecDepth 20000 in
set_option maxHeartbeats 4000000 in
theorem s_J7_fill_d0a16_L6 (w : WT) {x : CT} {l : Launch} (hx : xl x = l) (hG : Gd x cJ7_fill_d0a16 5 RJ7) (hE : Ge x (GC w)) (hR : Rm x 1) (hT : Rt x none) : ∀ (n : Nat) (a0 : Nat) (p0 : LC a0 = (21, 60)) (a1 : Int64) (a3 : Int32) (a4 : Int32) (h : Hp), Sn x 5 (gA (GC w)) (0, 0) (ζM x (GC w) inV) (gW (GC w) h) 6 [(0, .ref (gB (GC w) + a0)), (1, .long a1), (3, .int a3), (4, .int a4)] [] (m_J7_fill_d0a16_L6 n a0 a1 a3 a4 h) := by
  intro n
  induction n with
  | zero => intro a0 p0 a1 a3 a4 h; exact s_none
  | succ n ih =>
    intro a0 p0 a1 a3 a4 h
    rw [m_J7_fill_d0a16_L6]
    refine s_iload_n hG dJ7_fill_d0a16_6 2 rfl rfl ?_
    refine s_iload hG dJ7_fill_d0a16_7 3 rfl ?_
    refine s_icmp_ge hG dJ7_fill_d0a16_9 (tgt := 22) (by decide) (fun q1 => ?_) (fun q1 => ?_)
    · exact s_vret hG hT dJ7_fill_d0a16_22
    · refine s_aload_n hG dJ7_fill_d0a16_12 0 rfl rfl ?_
      refine s_iload_n hG dJ7_fill_d0a16_13 2 rfl rfl ?_
      refine s_lload_n hG dJ7_fill_d0a16_14 1 rfl rfl ?_
      refine s_ck (fun q2 => ?_)
      refine s_last hG hE dJ7_fill_d0a16_15 p0 q2 (fun h3 => ?_)
      refine s_iinc hG dJ7_fill_d0a16_16 2 rfl ic_1 (by decide) (fun v4 => [(3, .int v4), (0, .ref (gB (GC w) + a0)), (1, .long a1), (4, .int a4)]) (fun _ => rfl) (fun v4 => ?_)
      refine s_goto (tgt := 6) hG dJ7_fill_d0a16_19 (by decide) ?_
      refine s_lv [1, 2, 0, 3] rfl ?_
      exact ih a0 p0 a1 v4 a4 h3

def m_J7_fill_d0a16 (a0 : Nat) (a1 : Int64) (h : Hp) : Option (Unit × Hp) := m_J7_fill_d0a16_L6 FU a0 a1 0 60 h
set_option maxRecDepth 20000 in
set_option maxHeartbeats 4000000 in
theorem s_J7_fill_d0a16 (w : WT) {x : CT} {l : Launch} (hx : xl x = l) (hG : Gd x cJ7_fill_d0a16 5 RJ7) (hE : Ge x (GC w)) (hR : Rm x 1) (hT : Rt x none) (a0 : Nat) (p0 : LC a0 = (21, 60)) (a1 : Int64) (h : Hp) : Sn x 5 (gA (GC w)) (0, 0) (ζM x (GC w) inV) (gW (GC w) h) 0 [(0, .ref (gB (GC w) + a0)), (1, .long a1)] [] (m_J7_fill_d0a16 a0 a1 h) := by
  unfold m_J7_fill_d0a16
  refine s_iconst hG dJ7_fill_d0a16_0 ic_0 ?_
  refine s_istore_n (lv' := [(3, .int 0), (0, .ref (gB (GC w) + a0)), (1, .long a1)]) hG dJ7_fill_d0a16_1 rfl (by decide) rfl ?_
  refine s_aload_n hG dJ7_fill_d0a16_2 1 rfl rfl ?_
  refine s_alen (v := 60) hG hE dJ7_fill_d0a16_3 p0 (by decide) ?_
  refine s_istore (lv' := [(4, .int 60), (3, .int 0), (0, .ref (gB (GC w) + a0)), (1, .long a1)]) hG dJ7_fill_d0a16_4 (by decide) rfl ?_
  refine s_lv [2, 3, 1, 0] rfl ?_
  exact s_J7_fill_d0a16_L6 w hx hG hE hR hT FU a0 p0 a1 0 60 h

theorem c_J7_fill_d0a16 (w : WT) (l : Launch) (a0 : Nat) (p0 : LC a0 = (21, 60)) (a1 : Int64) (h : Hp) : ∀ v h', m_J7_fill_d0a16 a0 a1 h = some (v, h') → MetM l (GC w) yJ7_fill_d0a16 cJ7_fill_d0a16 5 none 1 [.ref (gB (GC w) + a0), .long a1] h (inV v) h' :=
  met_of (by decide) (lokC w) (Nat.le_of_ble_eq_true rfl) (fun x hx hG hE hR hT => s_J7_fill_d0a16 w hx hG hE hR hT a0 p0 a1 h)
theorem fl_X7_15 : FL RX7 15 7 1 := ⟨by decide, by decide, gw_at 400 (by decide +kernel) (by decide +kernel), rfl⟩
theorem fl_X7_9 : FL RX7 9 7 0 := ⟨by decide, by decide, gw_at 398 (by decide +kernel) (by decide +kernel), rfl⟩
theorem vs_X7_22 : VS RX7 22 yJ7_fill_d0a16 cJ7_fill_d0a16 5 none 2 := ⟨⟨gw_at 1038 (by decide +kernel) (by decide +kernel), gw_at 1040 (by decide +kernel) (by decide +kernel), gw_at 104 (by decide +kernel) (by decide +kernel), by decide +kernel, by decide⟩, gw_at 1039 (by decide +kernel) (by decide +kernel)⟩
def m_X7_become (a0 : Nat) (a1 : Int32) (a2 : Int32) (h : Hp) : Option (Unit × Hp) := hb (si h a0 1 a1) fun h1 => hb (si h1 a0 2 a2) fun h2 => cb (m_J7_fill_d0a16 (a0 + 1) 0 h2) fun _ h4 => some ((), h4)
set_option maxRecDepth 20000 in
set_option maxHeartbeats 4000000 in
theorem s_X7_become (w : WT) {x : CT} {l : Launch} (hx : xl x = l) (hG : Gd x cX7_become 3 RX7) (hE : Ge x (GC w)) (hR : Rm x 2) (hT : Rt x none) (a0 : Nat) (p0 : LC a0 = (8, 0)) (a1 : Int32) (a2 : Int32) (h : Hp) : Sn x 3 (gA (GC w)) (0, 0) (ζM x (GC w) inV) (gW (GC w) h) 0 [(0, .ref (gB (GC w) + a0)), (1, .int a1), (2, .int a2)] [] (m_X7_become a0 a1 a2 h) := by
  unfold m_X7_become
  refine s_aload_n hG dX7_become_0 0 rfl rfl ?_
  refine s_iload_n hG dX7_become_1 1 rfl rfl ?_
  refine s_putI hG hE dX7_become_2 fl_X7_15 rfl rfl p0 (fun h1 => ?_)
  refine s_aload_n hG dX7_become_5 0 rfl rfl ?_
  refine s_iload_n hG dX7_become_6 2 rfl rfl ?_
  refine s_putI hG hE dX7_become_7 fl_X7_19 rfl rfl p0 (fun h2 => ?_)
  refine s_aload_n hG dX7_become_10 0 rfl rfl ?_
  refine s_getS hG hE dX7_become_11 fl_X7_9 rfl p0 ((fC_7_0 p0).1) (nzC ((fC_7_0 p0).2)) ?_
  refine s_lconst hG dX7_become_14 lc_0 ?_
  refine s_callS (inj := inV) (As := [.ref (gB (GC w) + (a0 + 1)), .long 0]) (st := []) rfl hG hE dX7_become_15 hR (by decide) vs_X7_22 rfl (Nat.le_of_ble_eq_true rfl) rfl (fun zv zh zq => c_J7_fill_d0a16 w (xl x) (a0 + 1) ((fC_7_0 p0).2) 0 h2 zv zh zq) (fun v3 h4 => ?_)
  exact s_vret hG hT dX7_become_18

theorem c_X7_become (w : WT) (l : Launch) (a0 : Nat) (p0 : LC a0 = (8, 0)) (a1 : Int32) (a2 : Int32) (h : Hp) : ∀ v h', m_X7_become a0 a1 a2 h = some (v, h') → MetM l (GC w) yX7_become cX7_become 3 none 2 [.ref (gB (GC w) + a0), .int a1, .int a2] h (inV v) h' :=
  met_of (by decide) (lokC w) (Nat.le_of_ble_eq_true rfl) (fun x hx hG hE hR hT => s_X7_become w hx hG hE hR hT a0 p0 a1 a2 h)
theorem vv_X8_296 : VV RX8 296 yX7_become cX7_become 3 none 2 := ⟨⟨gw_at 1034 (by decide +kernel) (by decide +kernel), gw_at 1037 (by decide +kernel) (by decide +kernel), gw_at 95 (by decide +kernel) (by decide +kernel), by decide +kernel, by decide⟩, gw_at 1035 (by decide +kernel) (by decide +kernel), gw_at 1036 (by decide +kernel) (by decide +kernel)⟩
theorem bc_m14 : (Int8.ofInt (-14)).toInt32 = (-14) := by decide
theorem bc_60 : (Int8.ofInt 60).toInt32 = 60 := by decide
def m_X8_tape_L65 (t0 : Int32) (t1 : Int32) (t2 : Nat) (h : Hp) : Option (Int32 × Hp) := cb (m_X7_become t2 t1 t0 h) fun _ h2 => some (1, h2)
set_option maxRecDepth 20000 in
set_option maxHeartbeats 4000000 in
theorem s_X8_tape_L65 (w : WT) {x : CT} {l : Launch} (hx : xl x = l) (hG : Gd x cX8_tape 4 RX8) (hE : Ge x (GC w)) (hR : Rm x 3) (hT : Rt x (some .int)) (t0 : Int32) (t1 : Int32) (t2 : Nat) (q2 : LC t2 = (8, 0)) (h : Hp) : Sn x 4 (gA (GC w)) (0, 0) (ζM x (GC w) inI) (gW (GC w) h) 65 [] [.int t0, .int t1, .ref (gB (GC w) + t2)] (m_X8_tape_L65 t0 t1 t2 h) := by
  unfold m_X8_tape_L65
  refine s_callV (a := t2) (c := 7) (inj := inV) (As := [.int t1, .int t0]) (st := []) rfl hG hE dX8_tape_65 hR (by decide) vv_X8_296 (by decide) rfl q2 rfl (Nat.le_of_ble_eq_true rfl) rfl (fun zv zh zq => c_X7_become w (xl x) t2 q2 t1 t0 h zv zh zq) (fun v1 h2 => ?_)
  refine s_iconst hG dX8_tape_68 ic_1 ?_
  exact s_iret hG hT dX8_tape_69

def m_X8_tape_L48 (a1 : Int32) (a2 : Int32) (a3 : Int32) (h : Hp) : Option (Int32 × Hp) := ck (inb a1 6) (if a2 = (-1) then m_X8_tape_L65 0 a2 (180 + 2 * a1.toNatClampNeg) h else m_X8_tape_L65 a3 a2 (180 + 2 * a1.toNatClampNeg) h)
set_option maxRecDepth 20000 in
set_option maxHeartbeats 4000000 in
theorem s_X8_tape_L48 (w : WT) {x : CT} {l : Launch} (hx : xl x = l) (hG : Gd x cX8_tape 4 RX8) (hE : Ge x (GC w)) (hR : Rm x 3) (hT : Rt x (some .int)) (a1 : Int32) (a2 : Int32) (a3 : Int32) (h : Hp) : Sn x 4 (gA (GC w)) (0, 0) (ζM x (GC w) inI) (gW (GC w) h) 48 [(0, .ref (gB (GC w) + 1)), (1, .int a1), (2, .int a2), (3, .int a3)] [] (m_X8_tape_L48 a1 a2 a3 h) := by
  unfold m_X8_tape_L48
  refine s_aload_n hG dX8_tape_48 0 rfl rfl ?_
  refine s_getS hG hE dX8_tape_49 fl_X8_41 rfl kC_1 fC_8_6 (nzC kC_8) ?_
  refine s_iload_n hG dX8_tape_52 1 rfl rfl ?_
  refine s_ck (fun q1 => ?_)
  refine s_aaldS (j := 4) hG hE dX8_tape_53 (by decide) kC_8 q1 ((eC_8_6 q1).1) (nzC ((eC_8_6 q1).2)) ?_
  refine s_iload_n hG dX8_tape_54 2 rfl rfl ?_
  refine s_iload_n hG dX8_tape_55 2 rfl rfl ?_
  refine s_iconst hG dX8_tape_56 ic_m1 ?_
  refine s_icmp_ne hG dX8_tape_57 (tgt := 64) (by decide) (fun q2 => ?_) (fun q2 => ?_)
  · refine s_iconst hG dX8_tape_60 ic_0 ?_
    refine s_goto (tgt := 65) hG dX8_tape_61 (by decide) ?_
    refine s_lv [] rfl ?_
    exact s_X8_tape_L65 w hx hG hE hR hT 0 a2 (180 + 2 * a1.toNatClampNeg) ((eC_8_6 q1).2) h
  · refine s_iload_n hG dX8_tape_64 3 rfl rfl ?_
    refine s_lv [] rfl ?_
    exact s_X8_tape_L65 w hx hG hE hR hT a3 a2 (180 + 2 * a1.toNatClampNeg) ((eC_8_6 q1).2) h

def m_X8_tape_L36 (a1 : Int32) (a2 : Int32) (a3 : Int32) (h : Hp) : Option (Int32 × Hp) := if a2 = (-1) then m_X8_tape_L48 a1 a2 a3 h else if 0 ≤ a3 then m_X8_tape_L48 a1 a2 a3 h else some ((-14), h)
set_option maxRecDepth 20000 in
set_option maxHeartbeats 4000000 in
theorem s_X8_tape_L36 (w : WT) {x : CT} {l : Launch} (hx : xl x = l) (hG : Gd x cX8_tape 4 RX8) (hE : Ge x (GC w)) (hR : Rm x 3) (hT : Rt x (some .int)) (a1 : Int32) (a2 : Int32) (a3 : Int32) (h : Hp) : Sn x 4 (gA (GC w)) (0, 0) (ζM x (GC w) inI) (gW (GC w) h) 36 [(0, .ref (gB (GC w) + 1)), (1, .int a1), (2, .int a2), (3, .int a3)] [] (m_X8_tape_L36 a1 a2 a3 h) := by
  unfold m_X8_tape_L36
  refine s_iload_n hG dX8_tape_36 2 rfl rfl ?_
  refine s_iconst hG dX8_tape_37 ic_m1 ?_
  refine s_icmp_eq hG dX8_tape_38 (tgt := 48) (by decide) (fun q1 => ?_) (fun q1 => ?_)
  · exact s_X8_tape_L48 w hx hG hE hR hT a1 a2 a3 h
  · refine s_iload_n hG dX8_tape_41 3 rfl rfl ?_
    refine s_if_ge hG dX8_tape_42 (tgt := 48) (by decide) (fun q2 => ?_) (fun q2 => ?_)
    · exact s_X8_tape_L48 w hx hG hE hR hT a1 a2 a3 h
    · refine s_bipush hG dX8_tape_45 bc_m14 ?_
      exact s_iret hG hT dX8_tape_47

def m_X8_tape (a1 : Int32) (a2 : Int32) (a3 : Int32) (h : Hp) : Option (Int32 × Hp) := cb (m_X8_isTape a1 h) fun v1 h2 => if v1 = 0 then some ((-1), h2) else if a2 < (-1) then some ((-2), h2) else if a2 ≤ 4 then if a2 = (-1) then m_X8_tape_L36 a1 a2 a3 h2 else if a3 ≤ 60 then m_X8_tape_L36 a1 a2 a3 h2 else some ((-2), h2) else some ((-2), h2)
set_option maxRecDepth 20000 in
set_option maxHeartbeats 4000000 in
theorem s_X8_tape (w : WT) {x : CT} {l : Launch} (hx : xl x = l) (hG : Gd x cX8_tape 4 RX8) (hE : Ge x (GC w)) (hR : Rm x 3) (hT : Rt x (some .int)) (a1 : Int32) (a2 : Int32) (a3 : Int32) (h : Hp) : Sn x 4 (gA (GC w)) (0, 0) (ζM x (GC w) inI) (gW (GC w) h) 0 [(0, .ref (gB (GC w) + 1)), (1, .int a1), (2, .int a2), (3, .int a3)] [] (m_X8_tape a1 a2 a3 h) := by
  unfold m_X8_tape
  refine s_iload_n hG dX8_tape_0 1 rfl rfl ?_
  refine s_callS (inj := inI) (As := [.int a1]) (st := []) rfl hG hE dX8_tape_1 hR (by decide) vs_X8_236 rfl (Nat.le_of_ble_eq_true rfl) rfl (fun zv zh zq => c_X8_isTape w (xl x) a1 h zv zh zq) (fun v1 h2 => ?_)
  refine s_if_ne hG dX8_tape_4 (tgt := 9) (by decide) (fun q3 => ?_) (fun q3 => ?_)
  · refine s_iconst hG dX8_tape_7 ic_m1 ?_
    exact s_iret hG hT dX8_tape_8
  · refine s_iload_n hG dX8_tape_9 2 rfl rfl ?_
    refine s_iconst hG dX8_tape_10 ic_m1 ?_
    refine s_icmp_lt hG dX8_tape_11 (tgt := 19) (by decide) (fun q4 => ?_) (fun q4 => ?_)
    · refine s_bipush hG dX8_tape_19 bc_m2 ?_
      exact s_iret hG hT dX8_tape_21
    · refine s_iload_n hG dX8_tape_14 2 rfl rfl ?_
      refine s_iconst hG dX8_tape_15 ic_4 ?_
      refine s_icmp_le hG dX8_tape_16 (tgt := 22) (by decide) (fun q5 => ?_) (fun q5 => ?_)
      · refine s_iload_n hG dX8_tape_22 2 rfl rfl ?_
        refine s_iconst hG dX8_tape_23 ic_m1 ?_
        refine s_icmp_eq hG dX8_tape_24 (tgt := 36) (by decide) (fun q6 => ?_) (fun q6 => ?_)
        · exact s_X8_tape_L36 w hx hG hE hR hT a1 a2 a3 h2
        · refine s_iload_n hG dX8_tape_27 3 rfl rfl ?_
          refine s_bipush hG dX8_tape_28 bc_60 ?_
          refine s_icmp_le hG dX8_tape_30 (tgt := 36) (by decide) (fun q7 => ?_) (fun q7 => ?_)
          · exact s_X8_tape_L36 w hx hG hE hR hT a1 a2 a3 h2
          · refine s_bipush hG dX8_tape_33 bc_m2 ?_
            exact s_iret hG hT dX8_tape_35
      · refine s_bipush hG dX8_tape_19 bc_m2 ?_
        exact s_iret hG hT dX8_tape_21

theorem c_X8_tape (w : WT) (l : Launch) (a1 : Int32) (a2 : Int32) (a3 : Int32) (h : Hp) : ∀ v h', m_X8_tape a1 a2 a3 h = some (v, h') → MetM l (GC w) yX8_tape cX8_tape 4 (some .int) 3 [.ref (gB (GC w) + 1), .int a1, .int a2, .int a3] h (inI v) h' :=
  met_of (by decide) (lokC w) (Nat.le_of_ble_eq_true rfl) (fun x hx hG hE hR hT => s_X8_tape w hx hG hE hR hT a1 a2 a3 h)
def m_X7_cut (a0 : Nat) (a1 : Int64) (h : Hp) : Option (Int64 × Hp) := vb (gi h a0 1) fun v1 => if v1 = 0 then some (a1.toInt32.toInt8.toInt32.toInt64, h) else if v1 = 1 then some (a1.toInt32.toInt16.toInt32.toInt64, h) else if v1 = 2 then some (a1.toInt32.toInt64, h) else if v1 = 3 then some (a1, h) else if v1 = 4 then if a1 = 0 then some (0, h) else some (1, h) else some (a1, h)
set_option maxRecDepth 20000 in
set_option maxHeartbeats 4000000 in
theorem s_X7_cut (w : WT) {x : CT} {l : Launch} (hx : xl x = l) (hG : Gd x cX7_cut 3 RX7) (hE : Ge x (GC w)) (hR : Rm x 1) (hT : Rt x (some .long)) (a0 : Nat) (p0 : LC a0 = (8, 0)) (a1 : Int64) (h : Hp) : Sn x 3 (gA (GC w)) (0, 0) (ζM x (GC w) inL) (gW (GC w) h) 0 [(0, .ref (gB (GC w) + a0)), (1, .long a1)] [] (m_X7_cut a0 a1 h) := by
  unfold m_X7_cut
  refine s_aload_n hG dX7_cut_0 0 rfl rfl ?_
  refine s_getI hG hE dX7_cut_1 fl_X7_15 rfl p0 ?_
  refine s_vI (fun v1 => ?_)
  refine s_tsw (off := 36) hG dX7_cut_4 0 (by decide) (tgt := 40) (by decide) (fun q2 => ?_) (fun q2 => ?_)
  · refine s_lload_n hG dX7_cut_40 1 rfl rfl ?_
    refine s_l2i hG dX7_cut_41 ?_
    refine s_i2b hG dX7_cut_42 ?_
    refine s_i2l hG dX7_cut_43 ?_
    exact s_lret hG hT dX7_cut_44
  · refine s_tsw (off := 41) hG dX7_cut_4 1 (by decide) (tgt := 45) (by decide) (fun q3 => ?_) (fun q3 => ?_)
    · refine s_lload_n hG dX7_cut_45 1 rfl rfl ?_
      refine s_l2i hG dX7_cut_46 ?_
      refine s_i2s hG dX7_cut_47 ?_
      refine s_i2l hG dX7_cut_48 ?_
      exact s_lret hG hT dX7_cut_49
    · refine s_tsw (off := 46) hG dX7_cut_4 2 (by decide) (tgt := 50) (by decide) (fun q4 => ?_) (fun q4 => ?_)
      · refine s_lload_n hG dX7_cut_50 1 rfl rfl ?_
        refine s_l2i hG dX7_cut_51 ?_
        refine s_i2l hG dX7_cut_52 ?_
        exact s_lret hG hT dX7_cut_53
      · refine s_tsw (off := 62) hG dX7_cut_4 3 (by decide) (tgt := 66) (by decide) (fun q5 => ?_) (fun q5 => ?_)
        · refine s_lload_n hG dX7_cut_66 1 rfl rfl ?_
          exact s_lret hG hT dX7_cut_67
        · refine s_tsw (off := 50) hG dX7_cut_4 4 (by decide) (tgt := 54) (by decide) (fun q6 => ?_) (fun q6 => ?_)
          · refine s_lload_n hG dX7_cut_54 1 rfl rfl ?_
            refine s_lconst hG dX7_cut_55 lc_0 ?_
            refine s_lcmp_eq hG dX7_cut_56 dX7_cut_57 (tgt := 64) (by decide) (fun q7 => ?_) (fun q7 => ?_)
            · refine s_lconst hG dX7_cut_64 lc_0 ?_
              exact s_lret hG hT dX7_cut_65
            · refine s_lconst hG dX7_cut_60 lc_1 ?_
              refine s_goto (tgt := 65) hG dX7_cut_61 (by decide) ?_
              exact s_lret hG hT dX7_cut_65
          · refine s_tswD (tgt := 66) hG dX7_cut_4 (by decide) (by have zq2 := lv_neT q2 (show (0 : Int32).toInt = 0 by decide); have zq3 := lv_neT q3 (show (1 : Int32).toInt = 1 by decide); have zq4 := lv_neT q4 (show (2 : Int32).toInt = 2 by decide); have zq5 := lv_neT q5 (show (3 : Int32).toInt = 3 by decide); have zq6 := lv_neT q6 (show (4 : Int32).toInt = 4 by decide); omega) ?_
            refine s_lload_n hG dX7_cut_66 1 rfl rfl ?_
            exact s_lret hG hT dX7_cut_67

theorem c_X7_cut (w : WT) (l : Launch) (a0 : Nat) (p0 : LC a0 = (8, 0)) (a1 : Int64) (h : Hp) : ∀ v h', m_X7_cut a0 a1 h = some (v, h') → MetM l (GC w) yX7_cut cX7_cut 3 (some .long) 1 [.ref (gB (GC w) + a0), .long a1] h (inL v) h' :=
  met_of (by decide) (lokC w) (Nat.le_of_ble_eq_true rfl) (fun x hx hG hE hR hT => s_X7_cut w hx hG hE hR hT a0 p0 a1 h)
theorem vv_X8_299 : VV RX8 299 yX7_cut cX7_cut 3 (some .long) 1 := ⟨⟨gw_at 1045 (by decide +kernel) (by decide +kernel), gw_at 1048 (by decide +kernel) (by decide +kernel), gw_at 95 (by decide +kernel) (by decide +kernel), by decide +kernel, by decide⟩, gw_at 1046 (by decide +kernel) (by decide +kernel), gw_at 1047 (by decide +kernel) (by decide +kernel)⟩
theorem bc_m13 : (Int8.ofInt (-13)).toInt32 = (-13) := by decide
def m_X8_item (a1 : Int32) (a2 : Int32) (a3 : Int64) (h : Hp) : Option (Int32 × Hp) := cb (m_X8_isTape a1 h) fun v1 h2 => if v1 = 0 then some ((-1), h2) else ck (inb a1 6) (if (gi h2 (180 + 2 * a1.toNatClampNeg) 1) = (-1) then some ((-11), h2) else cb (m_X7_holdsPlace (180 + 2 * a1.toNatClampNeg) a2.toInt64 h2) fun v6 h7 => if v6 = 0 then some ((-13), h7) else cb (m_X7_cut (180 + 2 * a1.toNatClampNeg) a3 h7) fun v9 h10 => ck (inb a2 60) (hb (sl h10 (180 + 2 * a1.toNatClampNeg + 1) a2.toNatClampNeg v9) fun h12 => some (1, h12)))
set_option maxRecDepth 20000 in
set_option maxHeartbeats 4000000 in
theorem s_X8_item (w : WT) {x : CT} {l : Launch} (hx : xl x = l) (hG : Gd x cX8_item 6 RX8) (hE : Ge x (GC w)) (hR : Rm x 2) (hT : Rt x (some .int)) (a1 : Int32) (a2 : Int32) (a3 : Int64) (h : Hp) : Sn x 6 (gA (GC w)) (0, 0) (ζM x (GC w) inI) (gW (GC w) h) 0 [(0, .ref (gB (GC w) + 1)), (1, .int a1), (2, .int a2), (3, .long a3)] [] (m_X8_item a1 a2 a3 h) := by
  unfold m_X8_item
  refine s_iload_n hG dX8_item_0 1 rfl rfl ?_
  refine s_callS (inj := inI) (As := [.int a1]) (st := []) rfl hG hE dX8_item_1 hR (by decide) vs_X8_236 rfl (Nat.le_of_ble_eq_true rfl) rfl (fun zv zh zq => c_X8_isTape w (xl x) a1 h zv zh zq) (fun v1 h2 => ?_)
  refine s_if_ne hG dX8_item_4 (tgt := 9) (by decide) (fun q3 => ?_) (fun q3 => ?_)
  · refine s_iconst hG dX8_item_7 ic_m1 ?_
    exact s_iret hG hT dX8_item_8
  · refine s_aload_n hG dX8_item_9 0 rfl rfl ?_
    refine s_getS hG hE dX8_item_10 fl_X8_41 rfl kC_1 fC_8_6 (nzC kC_8) ?_
    refine s_iload_n hG dX8_item_13 1 rfl rfl ?_
    refine s_ck (fun q4 => ?_)
    refine s_aaldS (j := 4) hG hE dX8_item_14 (by decide) kC_8 q4 ((eC_8_6 q4).1) (nzC ((eC_8_6 q4).2)) ?_
    refine s_astore (lv' := [(5, .ref (gB (GC w) + (180 + 2 * a1.toNatClampNeg))), (0, .ref (gB (GC w) + 1)), (1, .int a1), (2, .int a2), (3, .long a3)]) hG dX8_item_15 (by decide) rfl ?_
    refine s_aload hG dX8_item_17 0 rfl ?_
    refine s_getI hG hE dX8_item_19 fl_X8_239 rfl ((eC_8_6 q4).2) ?_
    refine s_iconst hG dX8_item_22 ic_m1 ?_
    refine s_icmp_ne hG dX8_item_23 (tgt := 29) (by decide) (fun q5 => ?_) (fun q5 => ?_)
    · refine s_bipush hG dX8_item_26 bc_m11 ?_
      exact s_iret hG hT dX8_item_28
    · refine s_aload hG dX8_item_29 0 rfl ?_
      refine s_iload_n hG dX8_item_31 3 rfl rfl ?_
      refine s_i2l hG dX8_item_32 ?_
      refine s_callV (a := 180 + 2 * a1.toNatClampNeg) (c := 7) (inj := inI) (As := [.long a2.toInt64]) (st := []) rfl hG hE dX8_item_33 hR (by decide) vv_X8_245 (by decide) rfl ((eC_8_6 q4).2) rfl (Nat.le_of_ble_eq_true rfl) rfl (fun zv zh zq => c_X7_holdsPlace w (xl x) (180 + 2 * a1.toNatClampNeg) ((eC_8_6 q4).2) a2.toInt64 h2 zv zh zq) (fun v6 h7 => ?_)
      refine s_if_ne hG dX8_item_36 (tgt := 42) (by decide) (fun q8 => ?_) (fun q8 => ?_)
      · refine s_bipush hG dX8_item_39 bc_m13 ?_
        exact s_iret hG hT dX8_item_41
      · refine s_aload hG dX8_item_42 0 rfl ?_
        refine s_getS hG hE dX8_item_44 fl_X8_249 rfl ((eC_8_6 q4).2) ((fC_7_0 ((eC_8_6 q4).2)).1) (nzC ((fC_7_0 ((eC_8_6 q4).2)).2)) ?_
        refine s_iload_n hG dX8_item_47 3 rfl rfl ?_
        refine s_aload hG dX8_item_48 0 rfl ?_
        refine s_lload_n hG dX8_item_50 4 rfl rfl ?_
        refine s_callV (a := 180 + 2 * a1.toNatClampNeg) (c := 7) (inj := inL) (As := [.long a3]) (st := [.int a2, .ref (gB (GC w) + (180 + 2 * a1.toNatClampNeg + 1))]) rfl hG hE dX8_item_51 hR (by decide) vv_X8_299 (by decide) rfl ((eC_8_6 q4).2) rfl (Nat.le_of_ble_eq_true rfl) rfl (fun zv zh zq => c_X7_cut w (xl x) (180 + 2 * a1.toNatClampNeg) ((eC_8_6 q4).2) a3 h7 zv zh zq) (fun v9 h10 => ?_)
        refine s_ck (fun q11 => ?_)
        refine s_last hG hE dX8_item_54 ((fC_7_0 ((eC_8_6 q4).2)).2) q11 (fun h12 => ?_)
        refine s_iconst hG dX8_item_55 ic_1 ?_
        exact s_iret hG hT dX8_item_56

theorem c_X8_item (w : WT) (l : Launch) (a1 : Int32) (a2 : Int32) (a3 : Int64) (h : Hp) : ∀ v h', m_X8_item a1 a2 a3 h = some (v, h') → MetM l (GC w) yX8_item cX8_item 6 (some .int) 2 [.ref (gB (GC w) + 1), .int a1, .int a2, .long a3] h (inI v) h' :=
  met_of (by decide) (lokC w) (Nat.le_of_ble_eq_true rfl) (fun x hx hG hE hR hT => s_X8_item w hx hG hE hR hT a1 a2 a3 h)
def m_X8_read (a1 : Int32) (a2 : Int32) (h : Hp) : Option (Int64 × Hp) := cb (m_X8_isTape a1 h) fun v1 h2 => if v1 = 0 then some ((-9223372036854775808), h2) else ck (inb a1 6) (cb (m_X7_holdsPlace (180 + 2 * a1.toNatClampNeg) a2.toInt64 h2) fun v5 h6 => if v5 = 0 then some ((-9223372036854775808), h6) else ck (inb a2 60) (some (gl h6 (180 + 2 * a1.toNatClampNeg + 1) a2.toNatClampNeg, h6)))
set_option maxRecDepth 20000 in
set_option maxHeartbeats 4000000 in
theorem s_X8_read (w : WT) {x : CT} {l : Launch} (hx : xl x = l) (hG : Gd x cX8_read 3 RX8) (hE : Ge x (GC w)) (hR : Rm x 2) (hT : Rt x (some .long)) (a1 : Int32) (a2 : Int32) (h : Hp) : Sn x 3 (gA (GC w)) (0, 0) (ζM x (GC w) inL) (gW (GC w) h) 0 [(0, .ref (gB (GC w) + 1)), (1, .int a1), (2, .int a2)] [] (m_X8_read a1 a2 h) := by
  unfold m_X8_read
  refine s_iload_n hG dX8_read_0 1 rfl rfl ?_
  refine s_callS (inj := inI) (As := [.int a1]) (st := []) rfl hG hE dX8_read_1 hR (by decide) vs_X8_236 rfl (Nat.le_of_ble_eq_true rfl) rfl (fun zv zh zq => c_X8_isTape w (xl x) a1 h zv zh zq) (fun v1 h2 => ?_)
  refine s_if_eq hG dX8_read_4 (tgt := 21) (by decide) (fun q3 => ?_) (fun q3 => ?_)
  · refine s_ldc2 hG dX8_read_21 wd_814 ?_
    exact s_lret hG hT dX8_read_24
  · refine s_aload_n hG dX8_read_7 0 rfl rfl ?_
    refine s_getS hG hE dX8_read_8 fl_X8_41 rfl kC_1 fC_8_6 (nzC kC_8) ?_
    refine s_iload_n hG dX8_read_11 1 rfl rfl ?_
    refine s_ck (fun q4 => ?_)
    refine s_aaldS (j := 4) hG hE dX8_read_12 (by decide) kC_8 q4 ((eC_8_6 q4).1) (nzC ((eC_8_6 q4).2)) ?_
    refine s_iload_n hG dX8_read_13 2 rfl rfl ?_
    refine s_i2l hG dX8_read_14 ?_
    refine s_callV (a := 180 + 2 * a1.toNatClampNeg) (c := 7) (inj := inI) (As := [.long a2.toInt64]) (st := []) rfl hG hE dX8_read_15 hR (by decide) vv_X8_245 (by decide) rfl ((eC_8_6 q4).2) rfl (Nat.le_of_ble_eq_true rfl) rfl (fun zv zh zq => c_X7_holdsPlace w (xl x) (180 + 2 * a1.toNatClampNeg) ((eC_8_6 q4).2) a2.toInt64 h2 zv zh zq) (fun v5 h6 => ?_)
    refine s_if_ne hG dX8_read_18 (tgt := 25) (by decide) (fun q7 => ?_) (fun q7 => ?_)
    · refine s_ldc2 hG dX8_read_21 wd_814 ?_
      exact s_lret hG hT dX8_read_24
    · refine s_aload_n hG dX8_read_25 0 rfl rfl ?_
      refine s_getS hG hE dX8_read_26 fl_X8_41 rfl kC_1 fC_8_6 (nzC kC_8) ?_
      refine s_iload_n hG dX8_read_29 1 rfl rfl ?_
      refine s_aaldS (j := 4) hG hE dX8_read_30 (by decide) kC_8 q4 ((eC_8_6 q4).1) (nzC ((eC_8_6 q4).2)) ?_
      refine s_getS hG hE dX8_read_31 fl_X8_249 rfl ((eC_8_6 q4).2) ((fC_7_0 ((eC_8_6 q4).2)).1) (nzC ((fC_7_0 ((eC_8_6 q4).2)).2)) ?_
      refine s_iload_n hG dX8_read_34 2 rfl rfl ?_
      refine s_ck (fun q8 => ?_)
      refine s_lald hG hE dX8_read_35 ((fC_7_0 ((eC_8_6 q4).2)).2) q8 ?_
      exact s_lret hG hT dX8_read_36

theorem c_X8_read (w : WT) (l : Launch) (a1 : Int32) (a2 : Int32) (h : Hp) : ∀ v h', m_X8_read a1 a2 h = some (v, h') → MetM l (GC w) yX8_read cX8_read 3 (some .long) 2 [.ref (gB (GC w) + 1), .int a1, .int a2] h (inL v) h' :=
  met_of (by decide) (lokC w) (Nat.le_of_ble_eq_true rfl) (fun x hx hG hE hR hT => s_X8_read w hx hG hE hR hT a1 a2 h)
def m_X7_holdsRun (a0 : Nat) (a1 : Int32) (a2 : Int32) (h : Hp) : Option (Int32 × Hp) := if a1 < 0 then some (0, h) else if a2 < 0 then some (0, h) else if ((gi h a0 2).toInt64) < (a1.toInt64 + a2.toInt64) then some (0, h) else some (1, h)
set_option maxRecDepth 20000 in
set_option maxHeartbeats 4000000 in
theorem s_X7_holdsRun (w : WT) {x : CT} {l : Launch} (hx : xl x = l) (hG : Gd x cX7_holdsRun 3 RX7) (hE : Ge x (GC w)) (hR : Rm x 1) (hT : Rt x (some .boolean)) (a0 : Nat) (p0 : LC a0 = (8, 0)) (a1 : Int32) (a2 : Int32) (h : Hp) : Sn x 3 (gA (GC w)) (0, 0) (ζM x (GC w) inI) (gW (GC w) h) 0 [(0, .ref (gB (GC w) + a0)), (1, .int a1), (2, .int a2)] [] (m_X7_holdsRun a0 a1 a2 h) := by
  unfold m_X7_holdsRun
  refine s_iload_n hG dX7_holdsRun_0 1 rfl rfl ?_
  refine s_if_lt hG dX7_holdsRun_1 (tgt := 26) (by decide) (fun q1 => ?_) (fun q1 => ?_)
  · refine s_iconst hG dX7_holdsRun_26 ic_0 ?_
    exact s_zret hG hT (by decide) dX7_holdsRun_27
  · refine s_iload_n hG dX7_holdsRun_4 2 rfl rfl ?_
    refine s_if_lt hG dX7_holdsRun_5 (tgt := 26) (by decide) (fun q2 => ?_) (fun q2 => ?_)
    · refine s_iconst hG dX7_holdsRun_26 ic_0 ?_
      exact s_zret hG hT (by decide) dX7_holdsRun_27
    · refine s_iload_n hG dX7_holdsRun_8 1 rfl rfl ?_
      refine s_i2l hG dX7_holdsRun_9 ?_
      refine s_iload_n hG dX7_holdsRun_10 2 rfl rfl ?_
      refine s_i2l hG dX7_holdsRun_11 ?_
      refine s_ladd hG dX7_holdsRun_12 ?_
      refine s_aload_n hG dX7_holdsRun_13 0 rfl rfl ?_
      refine s_getI hG hE dX7_holdsRun_14 fl_X7_19 rfl p0 ?_
      refine s_i2l hG dX7_holdsRun_17 ?_
      refine s_lcmp_gt hG dX7_holdsRun_18 dX7_holdsRun_19 (tgt := 26) (by decide) (fun q3 => ?_) (fun q3 => ?_)
      · refine s_iconst hG dX7_holdsRun_26 ic_0 ?_
        exact s_zret hG hT (by decide) dX7_holdsRun_27
      · refine s_iconst hG dX7_holdsRun_22 ic_1 ?_
        refine s_goto (tgt := 27) hG dX7_holdsRun_23 (by decide) ?_
        exact s_zret hG hT (by decide) dX7_holdsRun_27

theorem c_X7_holdsRun (w : WT) (l : Launch) (a0 : Nat) (p0 : LC a0 = (8, 0)) (a1 : Int32) (a2 : Int32) (h : Hp) : ∀ v h', m_X7_holdsRun a0 a1 a2 h = some (v, h') → MetM l (GC w) yX7_holdsRun cX7_holdsRun 3 (some .boolean) 1 [.ref (gB (GC w) + a0), .int a1, .int a2] h (inI v) h' :=
  met_of (by decide) (lokC w) (Nat.le_of_ble_eq_true rfl) (fun x hx hG hE hR hT => s_X7_holdsRun w hx hG hE hR hT a0 p0 a1 a2 h)
theorem vv_X8_303 : VV RX8 303 yX7_holdsRun cX7_holdsRun 3 (some .boolean) 2 := ⟨⟨gw_at 1057 (by decide +kernel) (by decide +kernel), gw_at 1060 (by decide +kernel) (by decide +kernel), gw_at 95 (by decide +kernel) (by decide +kernel), by decide +kernel, by decide⟩, gw_at 1058 (by decide +kernel) (by decide +kernel), gw_at 1059 (by decide +kernel) (by decide +kernel)⟩
def m_X8_shift (a1 : Int32) (a2 : Int32) (a3 : Int32) (a4 : Int32) (a5 : Int32) (h : Hp) : Option (Int32 × Hp) := cb (m_X8_isTape a1 h) fun v1 h2 => if v1 = 0 then some ((-1), h2) else cb (m_X8_isTape a3 h2) fun v4 h5 => if v4 = 0 then some ((-1), h5) else ck (inb a1 6) (ck (inb a3 6) (if (gi h5 (180 + 2 * a1.toNatClampNeg) 1) = (-1) then some ((-11), h5) else if (gi h5 (180 + 2 * a3.toNatClampNeg) 1) = (-1) then some ((-11), h5) else if (gi h5 (180 + 2 * a1.toNatClampNeg) 1) = (gi h5 (180 + 2 * a3.toNatClampNeg) 1) then cb (m_X7_holdsRun (180 + 2 * a1.toNatClampNeg) a2 a5 h5) fun v12 h13 => if v12 = 0 then some ((-13), h13) else cb (m_X7_holdsRun (180 + 2 * a3.toNatClampNeg) a4 a5 h13) fun v15 h16 => if v15 = 0 then some ((-13), h16) else ck (cpk a2 a4 a5 60 60) (hb (cpL h16 (180 + 2 * a1.toNatClampNeg + 1) a2.toNatClampNeg (180 + 2 * a3.toNatClampNeg + 1) a4.toNatClampNeg a5.toNatClampNeg) fun h19 => some (a5, h19)) else some ((-12), h5)))
set_option maxRecDepth 20000 in
set_option maxHeartbeats 4000000 in
theorem s_X8_shift (w : WT) {x : CT} {l : Launch} (hx : xl x = l) (hG : Gd x cX8_shift 8 RX8) (hE : Ge x (GC w)) (hR : Rm x 2) (hT : Rt x (some .int)) (a1 : Int32) (a2 : Int32) (a3 : Int32) (a4 : Int32) (a5 : Int32) (h : Hp) : Sn x 8 (gA (GC w)) (0, 0) (ζM x (GC w) inI) (gW (GC w) h) 0 [(0, .ref (gB (GC w) + 1)), (1, .int a1), (2, .int a2), (3, .int a3), (4, .int a4), (5, .int a5)] [] (m_X8_shift a1 a2 a3 a4 a5 h) := by
  unfold m_X8_shift
  refine s_iload_n hG dX8_shift_0 1 rfl rfl ?_
  refine s_callS (inj := inI) (As := [.int a1]) (st := []) rfl hG hE dX8_shift_1 hR (by decide) vs_X8_236 rfl (Nat.le_of_ble_eq_true rfl) rfl (fun zv zh zq => c_X8_isTape w (xl x) a1 h zv zh zq) (fun v1 h2 => ?_)
  refine s_if_eq hG dX8_shift_4 (tgt := 14) (by decide) (fun q3 => ?_) (fun q3 => ?_)
  · refine s_iconst hG dX8_shift_14 ic_m1 ?_
    exact s_iret hG hT dX8_shift_15
  · refine s_iload_n hG dX8_shift_7 3 rfl rfl ?_
    refine s_callS (inj := inI) (As := [.int a3]) (st := []) rfl hG hE dX8_shift_8 hR (by decide) vs_X8_236 rfl (Nat.le_of_ble_eq_true rfl) rfl (fun zv zh zq => c_X8_isTape w (xl x) a3 h2 zv zh zq) (fun v4 h5 => ?_)
    refine s_if_ne hG dX8_shift_11 (tgt := 16) (by decide) (fun q6 => ?_) (fun q6 => ?_)
    · refine s_iconst hG dX8_shift_14 ic_m1 ?_
      exact s_iret hG hT dX8_shift_15
    · refine s_aload_n hG dX8_shift_16 0 rfl rfl ?_
      refine s_getS hG hE dX8_shift_17 fl_X8_41 rfl kC_1 fC_8_6 (nzC kC_8) ?_
      refine s_iload_n hG dX8_shift_20 1 rfl rfl ?_
      refine s_ck (fun q7 => ?_)
      refine s_aaldS (j := 4) hG hE dX8_shift_21 (by decide) kC_8 q7 ((eC_8_6 q7).1) (nzC ((eC_8_6 q7).2)) ?_
      refine s_astore (lv' := [(6, .ref (gB (GC w) + (180 + 2 * a1.toNatClampNeg))), (0, .ref (gB (GC w) + 1)), (1, .int a1), (2, .int a2), (3, .int a3), (4, .int a4), (5, .int a5)]) hG dX8_shift_22 (by decide) rfl ?_
      refine s_aload_n hG dX8_shift_24 1 rfl rfl ?_
      refine s_getS hG hE dX8_shift_25 fl_X8_41 rfl kC_1 fC_8_6 (nzC kC_8) ?_
      refine s_iload_n hG dX8_shift_28 4 rfl rfl ?_
      refine s_ck (fun q8 => ?_)
      refine s_aaldS (j := 4) hG hE dX8_shift_29 (by decide) kC_8 q8 ((eC_8_6 q8).1) (nzC ((eC_8_6 q8).2)) ?_
      refine s_astore (lv' := [(7, .ref (gB (GC w) + (180 + 2 * a3.toNatClampNeg))), (6, .ref (gB (GC w) + (180 + 2 * a1.toNatClampNeg))), (0, .ref (gB (GC w) + 1)), (1, .int a1), (2, .int a2), (3, .int a3), (4, .int a4), (5, .int a5)]) hG dX8_shift_30 (by decide) rfl ?_
      refine s_aload hG dX8_shift_32 1 rfl ?_
      refine s_getI hG hE dX8_shift_34 fl_X8_239 rfl ((eC_8_6 q7).2) ?_
      refine s_iconst hG dX8_shift_37 ic_m1 ?_
      refine s_icmp_eq hG dX8_shift_38 (tgt := 50) (by decide) (fun q9 => ?_) (fun q9 => ?_)
      · refine s_bipush hG dX8_shift_50 bc_m11 ?_
        exact s_iret hG hT dX8_shift_52
      · refine s_aload hG dX8_shift_41 0 rfl ?_
        refine s_getI hG hE dX8_shift_43 fl_X8_239 rfl ((eC_8_6 q8).2) ?_
        refine s_iconst hG dX8_shift_46 ic_m1 ?_
        refine s_icmp_ne hG dX8_shift_47 (tgt := 53) (by decide) (fun q10 => ?_) (fun q10 => ?_)
        · refine s_bipush hG dX8_shift_50 bc_m11 ?_
          exact s_iret hG hT dX8_shift_52
        · refine s_aload hG dX8_shift_53 1 rfl ?_
          refine s_getI hG hE dX8_shift_55 fl_X8_239 rfl ((eC_8_6 q7).2) ?_
          refine s_aload hG dX8_shift_58 0 rfl ?_
          refine s_getI hG hE dX8_shift_60 fl_X8_239 rfl ((eC_8_6 q8).2) ?_
          refine s_icmp_eq hG dX8_shift_63 (tgt := 69) (by decide) (fun q11 => ?_) (fun q11 => ?_)
          · refine s_aload hG dX8_shift_69 1 rfl ?_
            refine s_iload_n hG dX8_shift_71 4 rfl rfl ?_
            refine s_iload hG dX8_shift_72 7 rfl ?_
            refine s_callV (a := 180 + 2 * a1.toNatClampNeg) (c := 7) (inj := inI) (As := [.int a2, .int a5]) (st := []) rfl hG hE dX8_shift_74 hR (by decide) vv_X8_303 (by decide) rfl ((eC_8_6 q7).2) rfl (Nat.le_of_ble_eq_true rfl) rfl (fun zv zh zq => c_X7_holdsRun w (xl x) (180 + 2 * a1.toNatClampNeg) ((eC_8_6 q7).2) a2 a5 h5 zv zh zq) (fun v12 h13 => ?_)
            refine s_if_eq hG dX8_shift_77 (tgt := 92) (by decide) (fun q14 => ?_) (fun q14 => ?_)
            · refine s_bipush hG dX8_shift_92 bc_m13 ?_
              exact s_iret hG hT dX8_shift_94
            · refine s_aload hG dX8_shift_80 0 rfl ?_
              refine s_iload hG dX8_shift_82 6 rfl ?_
              refine s_iload hG dX8_shift_84 7 rfl ?_
              refine s_callV (a := 180 + 2 * a3.toNatClampNeg) (c := 7) (inj := inI) (As := [.int a4, .int a5]) (st := []) rfl hG hE dX8_shift_86 hR (by decide) vv_X8_303 (by decide) rfl ((eC_8_6 q8).2) rfl (Nat.le_of_ble_eq_true rfl) rfl (fun zv zh zq => c_X7_holdsRun w (xl x) (180 + 2 * a3.toNatClampNeg) ((eC_8_6 q8).2) a4 a5 h13 zv zh zq) (fun v15 h16 => ?_)
              refine s_if_ne hG dX8_shift_89 (tgt := 95) (by decide) (fun q17 => ?_) (fun q17 => ?_)
              · refine s_bipush hG dX8_shift_92 bc_m13 ?_
                exact s_iret hG hT dX8_shift_94
              · refine s_aload hG dX8_shift_95 1 rfl ?_
                refine s_getS hG hE dX8_shift_97 fl_X8_249 rfl ((eC_8_6 q7).2) ((fC_7_0 ((eC_8_6 q7).2)).1) (nzC ((fC_7_0 ((eC_8_6 q7).2)).2)) ?_
                refine s_iload_n hG dX8_shift_100 4 rfl rfl ?_
                refine s_aload hG dX8_shift_101 0 rfl ?_
                refine s_getS hG hE dX8_shift_103 fl_X8_249 rfl ((eC_8_6 q8).2) ((fC_7_0 ((eC_8_6 q8).2)).1) (nzC ((fC_7_0 ((eC_8_6 q8).2)).2)) ?_
                refine s_iload hG dX8_shift_106 6 rfl ?_
                refine s_iload hG dX8_shift_108 7 rfl ?_
                refine s_ck (fun q18 => ?_)
                refine s_copyL hG hE hR (by decide) dX8_shift_110 wd_980 wd_982 wd_981 wd_103 (Nat.le_of_ble_eq_true rfl) ((fC_7_0 ((eC_8_6 q7).2)).2) ((fC_7_0 ((eC_8_6 q8).2)).2) q18 (fun h19 => ?_)
                refine s_iload hG dX8_shift_113 7 rfl ?_
                exact s_iret hG hT dX8_shift_115
          · refine s_bipush hG dX8_shift_66 bc_m12 ?_
            exact s_iret hG hT dX8_shift_68

theorem c_X8_shift (w : WT) (l : Launch) (a1 : Int32) (a2 : Int32) (a3 : Int32) (a4 : Int32) (a5 : Int32) (h : Hp) : ∀ v h', m_X8_shift a1 a2 a3 a4 a5 h = some (v, h') → MetM l (GC w) yX8_shift cX8_shift 8 (some .int) 2 [.ref (gB (GC w) + 1), .int a1, .int a2, .int a3, .int a4, .int a5] h (inI v) h' :=
  met_of (by decide) (lokC w) (Nat.le_of_ble_eq_true rfl) (fun x hx hG hE hR hT => s_X8_shift w hx hG hE hR hT a1 a2 a3 a4 a5 h)
