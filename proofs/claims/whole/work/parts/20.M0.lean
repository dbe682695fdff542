theorem kM_1 : LM 1 = (10, 0) := rfl
def m_X9_in (a1 : Int32) (a2 : Int32) (a3 : Int32) (h : Hp) : Option (Int32 × Hp) := if a1 < a2 then some (0, h) else if a3 < a1 then some (0, h) else some (1, h)
set_option maxRecDepth 20000 in
set_option maxHeartbeats 4000000 in
theorem s_X9_in (w : WT) {x : CT} {l : Launch} (hx : xl x = l) (hG : Gd x cX9_in 4 RX9) (hE : Ge x (GM w)) (hR : Rm x 1) (hT : Rt x (some .boolean)) (a1 : Int32) (a2 : Int32) (a3 : Int32) (h : Hp) : Sn x 4 (gA (GM w)) (0, 0) (ζM x (GM w) inI) (gW (GM w) h) 0 [(0, .ref (gB (GM w) + 1)), (1, .int a1), (2, .int a2), (3, .int a3)] [] (m_X9_in a1 a2 a3 h) := by
  unfold m_X9_in
  refine s_iload_n hG dX9_in_0 1 rfl rfl ?_
  refine s_iload_n hG dX9_in_1 2 rfl rfl ?_
  refine s_icmp_lt hG dX9_in_2 (tgt := 14) (by decide) (fun q1 => ?_) (fun q1 => ?_)
  · refine s_iconst hG dX9_in_14 ic_0 ?_
    exact s_zret hG hT (by decide) dX9_in_15
  · refine s_iload_n hG dX9_in_5 1 rfl rfl ?_
    refine s_iload_n hG dX9_in_6 3 rfl rfl ?_
    refine s_icmp_gt hG dX9_in_7 (tgt := 14) (by decide) (fun q2 => ?_) (fun q2 => ?_)
    · refine s_iconst hG dX9_in_14 ic_0 ?_
      exact s_zret hG hT (by decide) dX9_in_15
    · refine s_iconst hG dX9_in_10 ic_1 ?_
      refine s_goto (tgt := 15) hG dX9_in_11 (by decide) ?_
      exact s_zret hG hT (by decide) dX9_in_15

theorem c_X9_in (w : WT) (l : Launch) (a1 : Int32) (a2 : Int32) (a3 : Int32) (h : Hp) : ∀ v h', m_X9_in a1 a2 a3 h = some (v, h') → MetM l (GM w) yX9_in cX9_in 4 (some .boolean) 1 [.ref (gB (GM w) + 1), .int a1, .int a2, .int a3] h (inI v) h' :=
  met_of (by decide) (lokM w) (Nat.le_of_ble_eq_true rfl) (fun x hx hG hE hR hT => s_X9_in w hx hG hE hR hT a1 a2 a3 h)
theorem fl_X9_13 : FL RX9 13 9 1 := ⟨by decide, by decide, gw_at 1068 (by decide +kernel) (by decide +kernel), rfl⟩
theorem vv_X9_144 : VV RX9 144 yX9_in cX9_in 4 (some .boolean) 3 := ⟨⟨gw_at 1202 (by decide +kernel) (by decide +kernel), gw_at 1205 (by decide +kernel) (by decide +kernel), gw_at 96 (by decide +kernel) (by decide +kernel), by decide +kernel, by decide⟩, gw_at 1204 (by decide +kernel) (by decide +kernel), gw_at 27 (by decide +kernel) (by decide +kernel)⟩
def m_X9_isClaim (a1 : Int32) (h : Hp) : Option (Int32 × Hp) := cb (m_X9_in a1 0 ((gi h 1 1) - 1) h) fun v1 h2 => ck (isb v1) (some (v1, h2))
set_option maxRecDepth 20000 in
set_option maxHeartbeats 4000000 in
theorem s_X9_isClaim (w : WT) {x : CT} {l : Launch} (hx : xl x = l) (hG : Gd x cX9_isClaim 2 RX9) (hE : Ge x (GM w)) (hR : Rm x 2) (hT : Rt x (some .boolean)) (a1 : Int32) (h : Hp) : Sn x 2 (gA (GM w)) (0, 0) (ζM x (GM w) inI) (gW (GM w) h) 0 [(0, .ref (gB (GM w) + 1)), (1, .int a1)] [] (m_X9_isClaim a1 h) := by
  unfold m_X9_isClaim
  refine s_aload_n hG dX9_isClaim_0 0 rfl rfl ?_
  refine s_iload_n hG dX9_isClaim_1 1 rfl rfl ?_
  refine s_iconst hG dX9_isClaim_2 ic_0 ?_
  refine s_aload_n hG dX9_isClaim_3 0 rfl rfl ?_
  refine s_getI hG hE dX9_isClaim_4 fl_X9_13 rfl kM_1 ?_
  refine s_iconst hG dX9_isClaim_7 ic_1 ?_
  refine s_isub hG dX9_isClaim_8 ?_
  refine s_callV (a := 1) (c := 9) (inj := inI) (As := [.int a1, .int 0, .int ((gi h 1 1) - 1)]) (st := []) rfl hG hE dX9_isClaim_9 hR (by decide) vv_X9_144 (by decide) rfl kM_1 rfl (Nat.le_of_ble_eq_true rfl) rfl (fun zv zh zq => c_X9_in w (xl x) a1 0 ((gi h 1 1) - 1) h zv zh zq) (fun v1 h2 => ?_)
  refine s_ck (fun q3 => ?_)
  exact s_zret hG hT (isb_cases q3) dX9_isClaim_12

theorem c_X9_isClaim (w : WT) (l : Launch) (a1 : Int32) (h : Hp) : ∀ v h', m_X9_isClaim a1 h = some (v, h') → MetM l (GM w) yX9_isClaim cX9_isClaim 2 (some .boolean) 2 [.ref (gB (GM w) + 1), .int a1] h (inI v) h' :=
  met_of (by decide) (lokM w) (Nat.le_of_ble_eq_true rfl) (fun x hx hG hE hR hT => s_X9_isClaim w hx hG hE hR hT a1 h)
theorem fl_X9_7 : FL RX9 7 9 0 := ⟨by decide, by decide, gw_at 1067 (by decide +kernel) (by decide +kernel), rfl⟩
def m_X9_isSuit (a1 : Int32) (h : Hp) : Option (Int32 × Hp) := cb (m_X9_in a1 0 ((gi h 1 0) - 1) h) fun v1 h2 => ck (isb v1) (some (v1, h2))
set_option maxRecDepth 20000 in
set_option maxHeartbeats 4000000 in
theorem s_X9_isSuit (w : WT) {x : CT} {l : Launch} (hx : xl x = l) (hG : Gd x cX9_isSuit 2 RX9) (hE : Ge x (GM w)) (hR : Rm x 2) (hT : Rt x (some .boolean)) (a1 : Int32) (h : Hp) : Sn x 2 (gA (GM w)) (0, 0) (ζM x (GM w) inI) (gW (GM w) h) 0 [(0, .ref (gB (GM w) + 1)), (1, .int a1)] [] (m_X9_isSuit a1 h) := by
  unfold m_X9_isSuit
  refine s_aload_n hG dX9_isSuit_0 0 rfl rfl ?_
  refine s_iload_n hG dX9_isSuit_1 1 rfl rfl ?_
  refine s_iconst hG dX9_isSuit_2 ic_0 ?_
  refine s_aload_n hG dX9_isSuit_3 0 rfl rfl ?_
  refine s_getI hG hE dX9_isSuit_4 fl_X9_7 rfl kM_1 ?_
  refine s_iconst hG dX9_isSuit_7 ic_1 ?_
  refine s_isub hG dX9_isSuit_8 ?_
  refine s_callV (a := 1) (c := 9) (inj := inI) (As := [.int a1, .int 0, .int ((gi h 1 0) - 1)]) (st := []) rfl hG hE dX9_isSuit_9 hR (by decide) vv_X9_144 (by decide) rfl kM_1 rfl (Nat.le_of_ble_eq_true rfl) rfl (fun zv zh zq => c_X9_in w (xl x) a1 0 ((gi h 1 0) - 1) h zv zh zq) (fun v1 h2 => ?_)
  refine s_ck (fun q3 => ?_)
  exact s_zret hG hT (isb_cases q3) dX9_isSuit_12

theorem c_X9_isSuit (w : WT) (l : Launch) (a1 : Int32) (h : Hp) : ∀ v h', m_X9_isSuit a1 h = some (v, h') → MetM l (GM w) yX9_isSuit cX9_isSuit 2 (some .boolean) 2 [.ref (gB (GM w) + 1), .int a1] h (inI v) h' :=
  met_of (by decide) (lokM w) (Nat.le_of_ble_eq_true rfl) (fun x hx hG hE hR hT => s_X9_isSuit w hx hG hE hR hT a1 h)
theorem fl_X9_29 : FL RX9 29 9 6 := ⟨by decide, by decide, gw_at 1073 (by decide +kernel) (by decide +kernel), rfl⟩
theorem fM_9_6 : SM 1 6 = some 6 := rfl
theorem kM_6 : LM 6 = (20, 240) := rfl
def m_X9_get (a1 : Int32) (a2 : Int32) (h : Hp) : Option (Int32 × Hp) := ck (inb ((10 * a1) + a2) 240) (some (gi h 6 ((10 * a1) + a2).toNatClampNeg, h))
set_option maxRecDepth 20000 in
set_option maxHeartbeats 4000000 in
theorem s_X9_get (w : WT) {x : CT} {l : Launch} (hx : xl x = l) (hG : Gd x cX9_get 3 RX9) (hE : Ge x (GM w)) (hR : Rm x 1) (hT : Rt x (some .int)) (a1 : Int32) (a2 : Int32) (h : Hp) : Sn x 3 (gA (GM w)) (0, 0) (ζM x (GM w) inI) (gW (GM w) h) 0 [(0, .ref (gB (GM w) + 1)), (1, .int a1), (2, .int a2)] [] (m_X9_get a1 a2 h) := by
  unfold m_X9_get
  refine s_aload_n hG dX9_get_0 0 rfl rfl ?_
  refine s_getS hG hE dX9_get_1 fl_X9_29 rfl kM_1 fM_9_6 (nzM kM_6) ?_
  refine s_bipush hG dX9_get_4 bc_10 ?_
  refine s_iload_n hG dX9_get_6 1 rfl rfl ?_
  refine s_imul hG dX9_get_7 ?_
  refine s_iload_n hG dX9_get_8 2 rfl rfl ?_
  refine s_iadd hG dX9_get_9 ?_
  refine s_ck (fun q1 => ?_)
  refine s_iald hG hE dX9_get_10 kM_6 q1 ?_
  exact s_iret hG hT dX9_get_11

theorem c_X9_get (w : WT) (l : Launch) (a1 : Int32) (a2 : Int32) (h : Hp) : ∀ v h', m_X9_get a1 a2 h = some (v, h') → MetM l (GM w) yX9_get cX9_get 3 (some .int) 1 [.ref (gB (GM w) + 1), .int a1, .int a2] h (inI v) h' :=
  met_of (by decide) (lokM w) (Nat.le_of_ble_eq_true rfl) (fun x hx hG hE hR hT => s_X9_get w hx hG hE hR hT a1 a2 h)
theorem vv_X9_148 : VV RX9 148 yX9_get cX9_get 3 (some .int) 2 := ⟨⟨gw_at 1226 (by decide +kernel) (by decide +kernel), gw_at 1229 (by decide +kernel) (by decide +kernel), gw_at 96 (by decide +kernel) (by decide +kernel), by decide +kernel, by decide⟩, gw_at 1228 (by decide +kernel) (by decide +kernel), gw_at 31 (by decide +kernel) (by decide +kernel)⟩
def m_X9_openOf (a1 : Int32) (h : Hp) : Option (Int32 × Hp) := cb (m_X9_get a1 1 h) fun v1 h2 => cb (m_X9_get a1 3 h2) fun v3 h4 => some (v1 - v3, h4)
set_option maxRecDepth 20000 in
set_option maxHeartbeats 4000000 in
theorem s_X9_openOf (w : WT) {x : CT} {l : Launch} (hx : xl x = l) (hG : Gd x cX9_openOf 2 RX9) (hE : Ge x (GM w)) (hR : Rm x 2) (hT : Rt x (some .int)) (a1 : Int32) (h : Hp) : Sn x 2 (gA (GM w)) (0, 0) (ζM x (GM w) inI) (gW (GM w) h) 0 [(0, .ref (gB (GM w) + 1)), (1, .int a1)] [] (m_X9_openOf a1 h) := by
  unfold m_X9_openOf
  refine s_aload_n hG dX9_openOf_0 0 rfl rfl ?_
  refine s_iload_n hG dX9_openOf_1 1 rfl rfl ?_
  refine s_iconst hG dX9_openOf_2 ic_1 ?_
  refine s_callV (a := 1) (c := 9) (inj := inI) (As := [.int a1, .int 1]) (st := []) rfl hG hE dX9_openOf_3 hR (by decide) vv_X9_148 (by decide) rfl kM_1 rfl (Nat.le_of_ble_eq_true rfl) rfl (fun zv zh zq => c_X9_get w (xl x) a1 1 h zv zh zq) (fun v1 h2 => ?_)
  refine s_aload_n hG dX9_openOf_6 0 rfl rfl ?_
  refine s_iload_n hG dX9_openOf_7 1 rfl rfl ?_
  refine s_iconst hG dX9_openOf_8 ic_3 ?_
  refine s_callV (a := 1) (c := 9) (inj := inI) (As := [.int a1, .int 3]) (st := [.int v1]) rfl hG hE dX9_openOf_9 hR (by decide) vv_X9_148 (by decide) rfl kM_1 rfl (Nat.le_of_ble_eq_true rfl) rfl (fun zv zh zq => c_X9_get w (xl x) a1 3 h2 zv zh zq) (fun v3 h4 => ?_)
  refine s_isub hG dX9_openOf_12 ?_
  exact s_iret hG hT dX9_openOf_13

theorem c_X9_openOf (w : WT) (l : Launch) (a1 : Int32) (h : Hp) : ∀ v h', m_X9_openOf a1 h = some (v, h') → MetM l (GM w) yX9_openOf cX9_openOf 2 (some .int) 2 [.ref (gB (GM w) + 1), .int a1] h (inI v) h' :=
  met_of (by decide) (lokM w) (Nat.le_of_ble_eq_true rfl) (fun x hx hG hE hR hT => s_X9_openOf w hx hG hE hR hT a1 h)
def m_X9_manyOf_L28 (k4 : Int32 → Int32 → Int32 → Hp → Option (Int32 × Hp)) (a1 : Int32) (a3 : Int32) (t0 : Int32) (t1 : Int32) (h : Hp) : Option (Int32 × Hp) := vb (t1 + t0) fun v1 => vb (a3 + 1) fun v2 => k4 a1 v1 v2 h
set_option maxRecDepth 20000 in
set_option maxHeartbeats 4000000 in
theorem s_X9_manyOf_L28 (w : WT) {x : CT} {l : Launch} (hx : xl x = l) (hG : Gd x cX9_manyOf 4 RX9) (hE : Ge x (GM w)) (hR : Rm x 2) (hT : Rt x (some .int)) (k4 : Int32 → Int32 → Int32 → Hp → Option (Int32 × Hp)) (hk4 : ∀ (a1 : Int32) (a2 : Int32) (a3 : Int32) (h : Hp), Sn x 4 (gA (GM w)) (0, 0) (ζM x (GM w) inI) (gW (GM w) h) 4 [(0, .ref (gB (GM w) + 1)), (1, .int a1), (2, .int a2), (3, .int a3)] [] (k4 a1 a2 a3 h)) (a1 : Int32) (a3 : Int32) (t0 : Int32) (t1 : Int32) (h : Hp) : Sn x 4 (gA (GM w)) (0, 0) (ζM x (GM w) inI) (gW (GM w) h) 28 [(0, .ref (gB (GM w) + 1)), (1, .int a1), (3, .int a3)] [.int t0, .int t1] (m_X9_manyOf_L28 k4 a1 a3 t0 t1 h) := by
  unfold m_X9_manyOf_L28
  refine s_iadd hG dX9_manyOf_28 ?_
  refine s_vI (fun v1 => ?_)
  refine s_istore_n (lv' := [(2, .int v1), (0, .ref (gB (GM w) + 1)), (1, .int a1), (3, .int a3)]) hG dX9_manyOf_29 rfl (by decide) rfl ?_
  refine s_iinc hG dX9_manyOf_30 3 rfl ic_1 (by decide) (fun v2 => [(3, .int v2), (2, .int v1), (0, .ref (gB (GM w) + 1)), (1, .int a1)]) (fun _ => rfl) (fun v2 => ?_)
  refine s_goto (tgt := 4) hG dX9_manyOf_33 (by decide) ?_
  refine s_lv [2, 3, 1, 0] rfl ?_
  exact hk4 a1 v1 v2 h

def m_X9_manyOf_L4 : Nat → Int32 → Int32 → Int32 → Hp → Option (Int32 × Hp)
  | 0, _, _, _, _ => none
  | n + 1, a1, a2, a3, h => if (gi h 1 1) ≤ a3 then some (a2, h) else cb (m_X9_get a3 0 h) fun v2 h3 => if v2 = a1 then m_X9_manyOf_L28 (m_X9_manyOf_L4 n) a1 a3 1 a2 h3 else m_X9_manyOf_L28 (m_X9_manyOf_L4 n) a1 a3 0 a2 h3
set_option maxRecDepth 20000 in
set_option maxHeartbeats 4000000 in
theorem s_X9_manyOf_L4 (w : WT) {x : CT} {l : Launch} (hx : xl x = l) (hG : Gd x cX9_manyOf 4 RX9) (hE : Ge x (GM w)) (hR : Rm x 2) (hT : Rt x (some .int)) : ∀ (n : Nat) (a1 : Int32) (a2 : Int32) (a3 : Int32) (h : Hp), Sn x 4 (gA (GM w)) (0, 0) (ζM x (GM w) inI) (gW (GM w) h) 4 [(0, .ref (gB (GM w) + 1)), (1, .int a1), (2, .int a2), (3, .int a3)] [] (m_X9_manyOf_L4 n a1 a2 a3 h) := by
  intro n
  induction n with
  | zero => intro a1 a2 a3 h; exact s_none
  | succ n ih =>
    intro a1 a2 a3 h
    rw [m_X9_manyOf_L4]
    refine s_iload_n hG dX9_manyOf_4 3 rfl rfl ?_
    refine s_aload_n hG dX9_manyOf_5 0 rfl rfl ?_
    refine s_getI hG hE dX9_manyOf_6 fl_X9_13 rfl kM_1 ?_
    refine s_icmp_ge hG dX9_manyOf_9 (tgt := 36) (by decide) (fun q1 => ?_) (fun q1 => ?_)
    · refine s_iload_n hG dX9_manyOf_36 2 rfl rfl ?_
      exact s_iret hG hT dX9_manyOf_37
    · refine s_iload_n hG dX9_manyOf_12 2 rfl rfl ?_
      refine s_aload_n hG dX9_manyOf_13 0 rfl rfl ?_
      refine s_iload_n hG dX9_manyOf_14 3 rfl rfl ?_
      refine s_iconst hG dX9_manyOf_15 ic_0 ?_
      refine s_callV (a := 1) (c := 9) (inj := inI) (As := [.int a3, .int 0]) (st := [.int a2]) rfl hG hE dX9_manyOf_16 hR (by decide) vv_X9_148 (by decide) rfl kM_1 rfl (Nat.le_of_ble_eq_true rfl) rfl (fun zv zh zq => c_X9_get w (xl x) a3 0 h zv zh zq) (fun v2 h3 => ?_)
      refine s_iload_n hG dX9_manyOf_19 1 rfl rfl ?_
      refine s_icmp_ne hG dX9_manyOf_20 (tgt := 27) (by decide) (fun q4 => ?_) (fun q4 => ?_)
      · refine s_iconst hG dX9_manyOf_23 ic_1 ?_
        refine s_goto (tgt := 28) hG dX9_manyOf_24 (by decide) ?_
        refine s_lv [0, 1, 3] rfl ?_
        exact s_X9_manyOf_L28 w hx hG hE hR hT (m_X9_manyOf_L4 n) ih a1 a3 1 a2 h3
      · refine s_iconst hG dX9_manyOf_27 ic_0 ?_
        refine s_lv [0, 1, 3] rfl ?_
        exact s_X9_manyOf_L28 w hx hG hE hR hT (m_X9_manyOf_L4 n) ih a1 a3 0 a2 h3

def m_X9_manyOf (a1 : Int32) (h : Hp) : Option (Int32 × Hp) := m_X9_manyOf_L4 FU a1 0 0 h
set_option maxRecDepth 20000 in
set_option maxHeartbeats 4000000 in
theorem s_X9_manyOf (w : WT) {x : CT} {l : Launch} (hx : xl x = l) (hG : Gd x cX9_manyOf 4 RX9) (hE : Ge x (GM w)) (hR : Rm x 2) (hT : Rt x (some .int)) (a1 : Int32) (h : Hp) : Sn x 4 (gA (GM w)) (0, 0) (ζM x (GM w) inI) (gW (GM w) h) 0 [(0, .ref (gB (GM w) + 1)), (1, .int a1)] [] (m_X9_manyOf a1 h) := by
  unfold m_X9_manyOf
  refine s_iconst hG dX9_manyOf_0 ic_0 ?_
  refine s_istore_n (lv' := [(2, .int 0), (0, .ref (gB (GM w) + 1)), (1, .int a1)]) hG dX9_manyOf_1 rfl (by decide) rfl ?_
  refine s_iconst hG dX9_manyOf_2 ic_0 ?_
  refine s_istore_n (lv' := [(3, .int 0), (2, .int 0), (0, .ref (gB (GM w) + 1)), (1, .int a1)]) hG dX9_manyOf_3 rfl (by decide) rfl ?_
  refine s_lv [2, 3, 1, 0] rfl ?_
  exact s_X9_manyOf_L4 w hx hG hE hR hT FU a1 0 0 h

theorem c_X9_manyOf (w : WT) (l : Launch) (a1 : Int32) (h : Hp) : ∀ v h', m_X9_manyOf a1 h = some (v, h') → MetM l (GM w) yX9_manyOf cX9_manyOf 4 (some .int) 2 [.ref (gB (GM w) + 1), .int a1] h (inI v) h' :=
  met_of (by decide) (lokM w) (Nat.le_of_ble_eq_true rfl) (fun x hx hG hE hR hT => s_X9_manyOf w hx hG hE hR hT a1 h)
def m_X9_at_L5 : Nat → Int32 → Int32 → Int32 → Int32 → Hp → Option (Int32 × Hp)
  | 0, _, _, _, _, _ => none
  | n + 1, a1, a2, a3, a4, h => if (gi h 1 1) ≤ a4 then some ((-1), h) else cb (m_X9_get a4 0 h) fun v2 h3 => if v2 = a1 then if a3 = a2 then some (a4, h3) else vb (a3 + 1) fun v6 => vb (a4 + 1) fun v7 => m_X9_at_L5 n a1 a2 v6 v7 h3 else vb (a4 + 1) fun v8 => m_X9_at_L5 n a1 a2 a3 v8 h3
set_option maxRecDepth 20000 in
set_option maxHeartbeats 4000000 in
theorem s_X9_at_L5 (w : WT) {x : CT} {l : Launch} (hx : xl x = l) (hG : Gd x cX9_at 5 RX9) (hE : Ge x (GM w)) (hR : Rm x 2) (hT : Rt x (some .int)) : ∀ (n : Nat) (a1 : Int32) (a2 : Int32) (a3 : Int32) (a4 : Int32) (h : Hp), Sn x 5 (gA (GM w)) (0, 0) (ζM x (GM w) inI) (gW (GM w) h) 5 [(0, .ref (gB (GM w) + 1)), (1, .int a1), (2, .int a2), (3, .int a3), (4, .int a4)] [] (m_X9_at_L5 n a1 a2 a3 a4 h) := by
  intro n
  induction n with
  | zero => intro a1 a2 a3 a4 h; exact s_none
  | succ n ih =>
    intro a1 a2 a3 a4 h
    rw [m_X9_at_L5]
    refine s_iload hG dX9_at_5 4 rfl ?_
    refine s_aload_n hG dX9_at_7 0 rfl rfl ?_
    refine s_getI hG hE dX9_at_8 fl_X9_13 rfl kM_1 ?_
    refine s_icmp_ge hG dX9_at_11 (tgt := 45) (by decide) (fun q1 => ?_) (fun q1 => ?_)
    · refine s_iconst hG dX9_at_45 ic_m1 ?_
      exact s_iret hG hT dX9_at_46
    · refine s_aload_n hG dX9_at_14 0 rfl rfl ?_
      refine s_iload hG dX9_at_15 4 rfl ?_
      refine s_iconst hG dX9_at_17 ic_0 ?_
      refine s_callV (a := 1) (c := 9) (inj := inI) (As := [.int a4, .int 0]) (st := []) rfl hG hE dX9_at_18 hR (by decide) vv_X9_148 (by decide) rfl kM_1 rfl (Nat.le_of_ble_eq_true rfl) rfl (fun zv zh zq => c_X9_get w (xl x) a4 0 h zv zh zq) (fun v2 h3 => ?_)
      refine s_iload_n hG dX9_at_21 1 rfl rfl ?_
      refine s_icmp_eq hG dX9_at_22 (tgt := 28) (by decide) (fun q4 => ?_) (fun q4 => ?_)
      · refine s_iload_n hG dX9_at_28 3 rfl rfl ?_
        refine s_iload_n hG dX9_at_29 2 rfl rfl ?_
        refine s_icmp_ne hG dX9_at_30 (tgt := 36) (by decide) (fun q5 => ?_) (fun q5 => ?_)
        · refine s_iload hG dX9_at_33 4 rfl ?_
          exact s_iret hG hT dX9_at_35
        · refine s_iinc hG dX9_at_36 3 rfl ic_1 (by decide) (fun v6 => [(3, .int v6), (0, .ref (gB (GM w) + 1)), (1, .int a1), (2, .int a2), (4, .int a4)]) (fun _ => rfl) (fun v6 => ?_)
          refine s_iinc hG dX9_at_39 4 rfl ic_1 (by decide) (fun v7 => [(4, .int v7), (3, .int v6), (0, .ref (gB (GM w) + 1)), (1, .int a1), (2, .int a2)]) (fun _ => rfl) (fun v7 => ?_)
          refine s_goto (tgt := 5) hG dX9_at_42 (by decide) ?_
          refine s_lv [2, 3, 4, 1, 0] rfl ?_
          exact ih a1 a2 v6 v7 h3
      · refine s_goto (tgt := 39) hG dX9_at_25 (by decide) ?_
        refine s_iinc hG dX9_at_39 4 rfl ic_1 (by decide) (fun v8 => [(4, .int v8), (0, .ref (gB (GM w) + 1)), (1, .int a1), (2, .int a2), (3, .int a3)]) (fun _ => rfl) (fun v8 => ?_)
        refine s_goto (tgt := 5) hG dX9_at_42 (by decide) ?_
        refine s_lv [1, 2, 3, 4, 0] rfl ?_
        exact ih a1 a2 a3 v8 h3

def m_X9_at (a1 : Int32) (a2 : Int32) (h : Hp) : Option (Int32 × Hp) := m_X9_at_L5 FU a1 a2 0 0 h
set_option maxRecDepth 20000 in
set_option maxHeartbeats 4000000 in
theorem s_X9_at (w : WT) {x : CT} {l : Launch} (hx : xl x = l) (hG : Gd x cX9_at 5 RX9) (hE : Ge x (GM w)) (hR : Rm x 2) (hT : Rt x (some .int)) (a1 : Int32) (a2 : Int32) (h : Hp) : Sn x 5 (gA (GM w)) (0, 0) (ζM x (GM w) inI) (gW (GM w) h) 0 [(0, .ref (gB (GM w) + 1)), (1, .int a1), (2, .int a2)] [] (m_X9_at a1 a2 h) := by
  unfold m_X9_at
  refine s_iconst hG dX9_at_0 ic_0 ?_
  refine s_istore_n (lv' := [(3, .int 0), (0, .ref (gB (GM w) + 1)), (1, .int a1), (2, .int a2)]) hG dX9_at_1 rfl (by decide) rfl ?_
  refine s_iconst hG dX9_at_2 ic_0 ?_
  refine s_istore (lv' := [(4, .int 0), (3, .int 0), (0, .ref (gB (GM w) + 1)), (1, .int a1), (2, .int a2)]) hG dX9_at_3 (by decide) rfl ?_
  refine s_lv [2, 3, 4, 1, 0] rfl ?_
  exact s_X9_at_L5 w hx hG hE hR hT FU a1 a2 0 0 h

theorem c_X9_at (w : WT) (l : Launch) (a1 : Int32) (a2 : Int32) (h : Hp) : ∀ v h', m_X9_at a1 a2 h = some (v, h') → MetM l (GM w) yX9_at cX9_at 5 (some .int) 2 [.ref (gB (GM w) + 1), .int a1, .int a2] h (inI v) h' :=
  met_of (by decide) (lokM w) (Nat.le_of_ble_eq_true rfl) (fun x hx hG hE hR hT => s_X9_at w hx hG hE hR hT a1 a2 h)
theorem fl_X9_16 : FL RX9 16 9 2 := ⟨by decide, by decide, gw_at 1069 (by decide +kernel) (by decide +kernel), rfl⟩
theorem fM_9_2 : SM 1 2 = some 2 := rfl
theorem kM_2 : LM 2 = (20, 8) := rfl
def m_X9_known (a1 : Int32) (a2 : Int32) (h : Hp) : Option (Int32 × Hp) := cb (m_X9_in a1 0 7 h) fun v1 h2 => if v1 = 0 then some ((-1), h2) else cb (m_X9_in a2 0 31 h2) fun v4 h5 => if v4 = 0 then some ((-2), h5) else ck (inb a1 8) (vb (gi h5 2 a1.toNatClampNeg) fun v8 => hb (si h5 2 a1.toNatClampNeg a2) fun h9 => some (v8, h9))
set_option maxRecDepth 20000 in
set_option maxHeartbeats 4000000 in
theorem s_X9_known (w : WT) {x : CT} {l : Launch} (hx : xl x = l) (hG : Gd x cX9_known 4 RX9) (hE : Ge x (GM w)) (hR : Rm x 2) (hT : Rt x (some .int)) (a1 : Int32) (a2 : Int32) (h : Hp) : Sn x 4 (gA (GM w)) (0, 0) (ζM x (GM w) inI) (gW (GM w) h) 0 [(0, .ref (gB (GM w) + 1)), (1, .int a1), (2, .int a2)] [] (m_X9_known a1 a2 h) := by
  unfold m_X9_known
  refine s_aload_n hG dX9_known_0 0 rfl rfl ?_
  refine s_iload_n hG dX9_known_1 1 rfl rfl ?_
  refine s_iconst hG dX9_known_2 ic_0 ?_
  refine s_bipush hG dX9_known_3 bc_7 ?_
  refine s_callV (a := 1) (c := 9) (inj := inI) (As := [.int a1, .int 0, .int 7]) (st := []) rfl hG hE dX9_known_5 hR (by decide) vv_X9_144 (by decide) rfl kM_1 rfl (Nat.le_of_ble_eq_true rfl) rfl (fun zv zh zq => c_X9_in w (xl x) a1 0 7 h zv zh zq) (fun v1 h2 => ?_)
  refine s_if_ne hG dX9_known_8 (tgt := 13) (by decide) (fun q3 => ?_) (fun q3 => ?_)
  · refine s_iconst hG dX9_known_11 ic_m1 ?_
    exact s_iret hG hT dX9_known_12
  · refine s_aload_n hG dX9_known_13 0 rfl rfl ?_
    refine s_iload_n hG dX9_known_14 2 rfl rfl ?_
    refine s_iconst hG dX9_known_15 ic_0 ?_
    refine s_bipush hG dX9_known_16 bc_31 ?_
    refine s_callV (a := 1) (c := 9) (inj := inI) (As := [.int a2, .int 0, .int 31]) (st := []) rfl hG hE dX9_known_18 hR (by decide) vv_X9_144 (by decide) rfl kM_1 rfl (Nat.le_of_ble_eq_true rfl) rfl (fun zv zh zq => c_X9_in w (xl x) a2 0 31 h2 zv zh zq) (fun v4 h5 => ?_)
    refine s_if_ne hG dX9_known_21 (tgt := 27) (by decide) (fun q6 => ?_) (fun q6 => ?_)
    · refine s_bipush hG dX9_known_24 bc_m2 ?_
      exact s_iret hG hT dX9_known_26
    · refine s_aload_n hG dX9_known_27 0 rfl rfl ?_
      refine s_getS hG hE dX9_known_28 fl_X9_16 rfl kM_1 fM_9_2 (nzM kM_2) ?_
      refine s_iload_n hG dX9_known_31 1 rfl rfl ?_
      refine s_ck (fun q7 => ?_)
      refine s_iald hG hE dX9_known_32 kM_2 q7 ?_
      refine s_vI (fun v8 => ?_)
      refine s_istore_n (lv' := [(3, .int v8), (0, .ref (gB (GM w) + 1)), (1, .int a1), (2, .int a2)]) hG dX9_known_33 rfl (by decide) rfl ?_
      refine s_aload_n hG dX9_known_34 1 rfl rfl ?_
      refine s_getS hG hE dX9_known_35 fl_X9_16 rfl kM_1 fM_9_2 (nzM kM_2) ?_
      refine s_iload_n hG dX9_known_38 2 rfl rfl ?_
      refine s_iload_n hG dX9_known_39 3 rfl rfl ?_
      refine s_iast hG hE dX9_known_40 kM_2 q7 (fun h9 => ?_)
      refine s_iload_n hG dX9_known_41 0 rfl rfl ?_
      exact s_iret hG hT dX9_known_42

theorem c_X9_known (w : WT) (l : Launch) (a1 : Int32) (a2 : Int32) (h : Hp) : ∀ v h', m_X9_known a1 a2 h = some (v, h') → MetM l (GM w) yX9_known cX9_known 4 (some .int) 2 [.ref (gB (GM w) + 1), .int a1, .int a2] h (inI v) h' :=
  met_of (by decide) (lokM w) (Nat.le_of_ble_eq_true rfl) (fun x hx hG hE hR hT => s_X9_known w hx hG hE hR hT a1 a2 h)
theorem fl_X9_32 : FL RX9 32 9 7 := ⟨by decide, by decide, gw_at 1074 (by decide +kernel) (by decide +kernel), rfl⟩
def m_X9_isLaw (a1 : Int32) (h : Hp) : Option (Int32 × Hp) := cb (m_X9_in a1 0 ((gi h 1 7) - 1) h) fun v1 h2 => ck (isb v1) (some (v1, h2))
set_option maxRecDepth 20000 in
set_option maxHeartbeats 4000000 in
theorem s_X9_isLaw (w : WT) {x : CT} {l : Launch} (hx : xl x = l) (hG : Gd x cX9_isLaw 2 RX9) (hE : Ge x (GM w)) (hR : Rm x 2) (hT : Rt x (some .boolean)) (a1 : Int32) (h : Hp) : Sn x 2 (gA (GM w)) (0, 0) (ζM x (GM w) inI) (gW (GM w) h) 0 [(0, .ref (gB (GM w) + 1)), (1, .int a1)] [] (m_X9_isLaw a1 h) := by
  unfold m_X9_isLaw
  refine s_aload_n hG dX9_isLaw_0 0 rfl rfl ?_
  refine s_iload_n hG dX9_isLaw_1 1 rfl rfl ?_
  refine s_iconst hG dX9_isLaw_2 ic_0 ?_
  refine s_aload_n hG dX9_isLaw_3 0 rfl rfl ?_
  refine s_getI hG hE dX9_isLaw_4 fl_X9_32 rfl kM_1 ?_
  refine s_iconst hG dX9_isLaw_7 ic_1 ?_
  refine s_isub hG dX9_isLaw_8 ?_
  refine s_callV (a := 1) (c := 9) (inj := inI) (As := [.int a1, .int 0, .int ((gi h 1 7) - 1)]) (st := []) rfl hG hE dX9_isLaw_9 hR (by decide) vv_X9_144 (by decide) rfl kM_1 rfl (Nat.le_of_ble_eq_true rfl) rfl (fun zv zh zq => c_X9_in w (xl x) a1 0 ((gi h 1 7) - 1) h zv zh zq) (fun v1 h2 => ?_)
  refine s_ck (fun q3 => ?_)
  exact s_zret hG hT (isb_cases q3) dX9_isLaw_12

theorem c_X9_isLaw (w : WT) (l : Launch) (a1 : Int32) (h : Hp) : ∀ v h', m_X9_isLaw a1 h = some (v, h') → MetM l (GM w) yX9_isLaw cX9_isLaw 2 (some .boolean) 2 [.ref (gB (GM w) + 1), .int a1] h (inI v) h' :=
  met_of (by decide) (lokM w) (Nat.le_of_ble_eq_true rfl) (fun x hx hG hE hR hT => s_X9_isLaw w hx hG hE hR hT a1 h)
theorem vv_X9_152 : VV RX9 152 yX9_isLaw cX9_isLaw 2 (some .boolean) 1 := ⟨⟨gw_at 1210 (by decide +kernel) (by decide +kernel), gw_at 1213 (by decide +kernel) (by decide +kernel), gw_at 96 (by decide +kernel) (by decide +kernel), by decide +kernel, by decide⟩, gw_at 1212 (by decide +kernel) (by decide +kernel), gw_at 28 (by decide +kernel) (by decide +kernel)⟩
theorem fl_X9_20 : FL RX9 20 9 3 := ⟨by decide, by decide, gw_at 1070 (by decide +kernel) (by decide +kernel), rfl⟩
theorem fM_9_3 : SM 1 3 = some 3 := rfl
theorem kM_3 : LM 3 = (20, 5) := rfl
theorem fl_X9_23 : FL RX9 23 9 4 := ⟨by decide, by decide, gw_at 1071 (by decide +kernel) (by decide +kernel), rfl⟩
theorem fM_9_4 : SM 1 4 = some 4 := rfl
theorem kM_4 : LM 4 = (20, 5) := rfl
theorem fl_X9_26 : FL RX9 26 9 5 := ⟨by decide, by decide, gw_at 1072 (by decide +kernel) (by decide +kernel), rfl⟩
theorem fM_9_5 : SM 1 5 = some 5 := rfl
theorem kM_5 : LM 5 = (20, 5) := rfl
def m_X9_suit (a1 : Int32) (a2 : Int32) (a3 : Int32) (h : Hp) : Option (Int32 × Hp) := cb (m_X9_in a1 0 7 h) fun v1 h2 => if v1 = 0 then some ((-1), h2) else cb (m_X9_in a2 0 7 h2) fun v4 h5 => if v4 = 0 then some ((-1), h5) else cb (m_X9_isLaw a3 h5) fun v7 h8 => if v7 = 0 then some ((-1), h8) else if a1 = a2 then some ((-2), h8) else if (gi h8 1 0) = 5 then some ((-4), h8) else ck (inb (gi h8 1 0) 5) (hb (si h8 3 (gi h8 1 0).toNatClampNeg a1) fun h13 => ck (inb (gi h13 1 0) 5) (hb (si h13 4 (gi h13 1 0).toNatClampNeg a2) fun h15 => ck (inb (gi h15 1 0) 5) (hb (si h15 5 (gi h15 1 0).toNatClampNeg a3) fun h17 => hb (si h17 1 0 ((gi h17 1 0) + 1)) fun h18 => some ((gi h18 1 0) - 1, h18))))
set_option maxRecDepth 20000 in
set_option maxHeartbeats 4000000 in
theorem s_X9_suit (w : WT) {x : CT} {l : Launch} (hx : xl x = l) (hG : Gd x cX9_suit 4 RX9) (hE : Ge x (GM w)) (hR : Rm x 3) (hT : Rt x (some .int)) (a1 : Int32) (a2 : Int32) (a3 : Int32) (h : Hp) : Sn x 4 (gA (GM w)) (0, 0) (ζM x (GM w) inI) (gW (GM w) h) 0 [(0, .ref (gB (GM w) + 1)), (1, .int a1), (2, .int a2), (3, .int a3)] [] (m_X9_suit a1 a2 a3 h) := by
  unfold m_X9_suit
  refine s_aload_n hG dX9_suit_0 0 rfl rfl ?_
  refine s_iload_n hG dX9_suit_1 1 rfl rfl ?_
  refine s_iconst hG dX9_suit_2 ic_0 ?_
  refine s_bipush hG dX9_suit_3 bc_7 ?_
  refine s_callV (a := 1) (c := 9) (inj := inI) (As := [.int a1, .int 0, .int 7]) (st := []) rfl hG hE dX9_suit_5 hR (by decide) vv_X9_144 (by decide) rfl kM_1 rfl (Nat.le_of_ble_eq_true rfl) rfl (fun zv zh zq => c_X9_in w (xl x) a1 0 7 h zv zh zq) (fun v1 h2 => ?_)
  refine s_if_eq hG dX9_suit_8 (tgt := 30) (by decide) (fun q3 => ?_) (fun q3 => ?_)
  · refine s_iconst hG dX9_suit_30 ic_m1 ?_
    exact s_iret hG hT dX9_suit_31
  · refine s_aload_n hG dX9_suit_11 0 rfl rfl ?_
    refine s_iload_n hG dX9_suit_12 2 rfl rfl ?_
    refine s_iconst hG dX9_suit_13 ic_0 ?_
    refine s_bipush hG dX9_suit_14 bc_7 ?_
    refine s_callV (a := 1) (c := 9) (inj := inI) (As := [.int a2, .int 0, .int 7]) (st := []) rfl hG hE dX9_suit_16 hR (by decide) vv_X9_144 (by decide) rfl kM_1 rfl (Nat.le_of_ble_eq_true rfl) rfl (fun zv zh zq => c_X9_in w (xl x) a2 0 7 h2 zv zh zq) (fun v4 h5 => ?_)
    refine s_if_eq hG dX9_suit_19 (tgt := 30) (by decide) (fun q6 => ?_) (fun q6 => ?_)
    · refine s_iconst hG dX9_suit_30 ic_m1 ?_
      exact s_iret hG hT dX9_suit_31
    · refine s_aload_n hG dX9_suit_22 0 rfl rfl ?_
      refine s_iload_n hG dX9_suit_23 3 rfl rfl ?_
      refine s_callV (a := 1) (c := 9) (inj := inI) (As := [.int a3]) (st := []) rfl hG hE dX9_suit_24 hR (by decide) vv_X9_152 (by decide) rfl kM_1 rfl (Nat.le_of_ble_eq_true rfl) rfl (fun zv zh zq => c_X9_isLaw w (xl x) a3 h5 zv zh zq) (fun v7 h8 => ?_)
      refine s_if_ne hG dX9_suit_27 (tgt := 32) (by decide) (fun q9 => ?_) (fun q9 => ?_)
      · refine s_iconst hG dX9_suit_30 ic_m1 ?_
        exact s_iret hG hT dX9_suit_31
      · refine s_iload_n hG dX9_suit_32 1 rfl rfl ?_
        refine s_iload_n hG dX9_suit_33 2 rfl rfl ?_
        refine s_icmp_ne hG dX9_suit_34 (tgt := 40) (by decide) (fun q10 => ?_) (fun q10 => ?_)
        · refine s_bipush hG dX9_suit_37 bc_m2 ?_
          exact s_iret hG hT dX9_suit_39
        · refine s_aload_n hG dX9_suit_40 0 rfl rfl ?_
          refine s_getI hG hE dX9_suit_41 fl_X9_7 rfl kM_1 ?_
          refine s_iconst hG dX9_suit_44 ic_5 ?_
          refine s_icmp_ne hG dX9_suit_45 (tgt := 51) (by decide) (fun q11 => ?_) (fun q11 => ?_)
          · refine s_bipush hG dX9_suit_48 bc_m4 ?_
            exact s_iret hG hT dX9_suit_50
          · refine s_aload_n hG dX9_suit_51 0 rfl rfl ?_
            refine s_getS hG hE dX9_suit_52 fl_X9_20 rfl kM_1 fM_9_3 (nzM kM_3) ?_
            refine s_aload_n hG dX9_suit_55 0 rfl rfl ?_
            refine s_getI hG hE dX9_suit_56 fl_X9_7 rfl kM_1 ?_
            refine s_iload_n hG dX9_suit_59 1 rfl rfl ?_
            refine s_ck (fun q12 => ?_)
            refine s_iast hG hE dX9_suit_60 kM_3 q12 (fun h13 => ?_)
            refine s_aload_n hG dX9_suit_61 0 rfl rfl ?_
            refine s_getS hG hE dX9_suit_62 fl_X9_23 rfl kM_1 fM_9_4 (nzM kM_4) ?_
            refine s_aload_n hG dX9_suit_65 0 rfl rfl ?_
            refine s_getI hG hE dX9_suit_66 fl_X9_7 rfl kM_1 ?_
            refine s_iload_n hG dX9_suit_69 2 rfl rfl ?_
            refine s_ck (fun q14 => ?_)
            refine s_iast hG hE dX9_suit_70 kM_4 q14 (fun h15 => ?_)
            refine s_aload_n hG dX9_suit_71 0 rfl rfl ?_
            refine s_getS hG hE dX9_suit_72 fl_X9_26 rfl kM_1 fM_9_5 (nzM kM_5) ?_
            refine s_aload_n hG dX9_suit_75 0 rfl rfl ?_
            refine s_getI hG hE dX9_suit_76 fl_X9_7 rfl kM_1 ?_
            refine s_iload_n hG dX9_suit_79 3 rfl rfl ?_
            refine s_ck (fun q16 => ?_)
            refine s_iast hG hE dX9_suit_80 kM_5 q16 (fun h17 => ?_)
            refine s_aload_n hG dX9_suit_81 0 rfl rfl ?_
            refine s_dup hG dX9_suit_82 rfl ?_
            refine s_getI hG hE dX9_suit_83 fl_X9_7 rfl kM_1 ?_
            refine s_iconst hG dX9_suit_86 ic_1 ?_
            refine s_iadd hG dX9_suit_87 ?_
            refine s_putI hG hE dX9_suit_88 fl_X9_7 rfl rfl kM_1 (fun h18 => ?_)
            refine s_aload_n hG dX9_suit_91 0 rfl rfl ?_
            refine s_getI hG hE dX9_suit_92 fl_X9_7 rfl kM_1 ?_
            refine s_iconst hG dX9_suit_95 ic_1 ?_
            refine s_isub hG dX9_suit_96 ?_
            exact s_iret hG hT dX9_suit_97

theorem c_X9_suit (w : WT) (l : Launch) (a1 : Int32) (a2 : Int32) (a3 : Int32) (h : Hp) : ∀ v h', m_X9_suit a1 a2 a3 h = some (v, h') → MetM l (GM w) yX9_suit cX9_suit 4 (some .int) 3 [.ref (gB (GM w) + 1), .int a1, .int a2, .int a3] h (inI v) h' :=
  met_of (by decide) (lokM w) (Nat.le_of_ble_eq_true rfl) (fun x hx hG hE hR hT => s_X9_suit w hx hG hE hR hT a1 a2 a3 h)
theorem vv_X9_156 : VV RX9 156 yX9_isSuit cX9_isSuit 2 (some .boolean) 1 := ⟨⟨gw_at 1218 (by decide +kernel) (by decide +kernel), gw_at 1221 (by decide +kernel) (by decide +kernel), gw_at 96 (by decide +kernel) (by decide +kernel), by decide +kernel, by decide⟩, gw_at 1220 (by decide +kernel) (by decide +kernel), gw_at 29 (by decide +kernel) (by decide +kernel)⟩
theorem vv_X9_159 : VV RX9 159 yX9_manyOf cX9_manyOf 4 (some .int) 1 := ⟨⟨gw_at 1222 (by decide +kernel) (by decide +kernel), gw_at 1225 (by decide +kernel) (by decide +kernel), gw_at 96 (by decide +kernel) (by decide +kernel), by decide +kernel, by decide⟩, gw_at 1224 (by decide +kernel) (by decide +kernel), gw_at 30 (by decide +kernel) (by decide +kernel)⟩
def m_X9_claim_L59 : Nat → Int32 → Int32 → Int32 → Int32 → Hp → Option (Int32 × Hp)
  | 0, _, _, _, _, _ => none
  | n + 1, a1, a2, a3, a4, h => if 10 ≤ a4 then ck (inb (10 * (gi h 1 1)) 240) (hb (si h 6 (10 * (gi h 1 1)).toNatClampNeg a1) fun h3 => ck (inb ((10 * (gi h3 1 1)) + 1) 240) (hb (si h3 6 ((10 * (gi h3 1 1)) + 1).toNatClampNeg a2) fun h5 => ck (inb ((10 * (gi h5 1 1)) + 2) 240) (hb (si h5 6 ((10 * (gi h5 1 1)) + 2).toNatClampNeg a3) fun h7 => ck (inb ((10 * (gi h7 1 1)) + 4) 240) (hb (si h7 6 ((10 * (gi h7 1 1)) + 4).toNatClampNeg 1) fun h9 => hb (si h9 1 1 ((gi h9 1 1) + 1)) fun h10 => some ((gi h10 1 1) - 1, h10))))) else ck (inb ((10 * (gi h 1 1)) + a4) 240) (hb (si h 6 ((10 * (gi h 1 1)) + a4).toNatClampNeg 0) fun h12 => vb (a4 + 1) fun v13 => m_X9_claim_L59 n a1 a2 a3 v13 h12)
set_option maxRecDepth 20000 in
set_option maxHeartbeats 4000000 in
theorem s_X9_claim_L59 (w : WT) {x : CT} {l : Launch} (hx : xl x = l) (hG : Gd x cX9_claim 5 RX9) (hE : Ge x (GM w)) (hR : Rm x 3) (hT : Rt x (some .int)) : ∀ (n : Nat) (a1 : Int32) (a2 : Int32) (a3 : Int32) (a4 : Int32) (h : Hp), Sn x 5 (gA (GM w)) (0, 0) (ζM x (GM w) inI) (gW (GM w) h) 59 [(0, .ref (gB (GM w) + 1)), (1, .int a1), (2, .int a2), (3, .int a3), (4, .int a4)] [] (m_X9_claim_L59 n a1 a2 a3 a4 h) := by
  intro n
  induction n with
  | zero => intro a1 a2 a3 a4 h; exact s_none
  | succ n ih =>
    intro a1 a2 a3 a4 h
    rw [m_X9_claim_L59]
    refine s_iload hG dX9_claim_59 4 rfl ?_
    refine s_bipush hG dX9_claim_61 bc_10 ?_
    refine s_icmp_ge hG dX9_claim_63 (tgt := 88) (by decide) (fun q1 => ?_) (fun q1 => ?_)
    · refine s_aload_n hG dX9_claim_88 0 rfl rfl ?_
      refine s_getS hG hE dX9_claim_89 fl_X9_29 rfl kM_1 fM_9_6 (nzM kM_6) ?_
      refine s_bipush hG dX9_claim_92 bc_10 ?_
      refine s_aload_n hG dX9_claim_94 0 rfl rfl ?_
      refine s_getI hG hE dX9_claim_95 fl_X9_13 rfl kM_1 ?_
      refine s_imul hG dX9_claim_98 ?_
      refine s_iload_n hG dX9_claim_99 1 rfl rfl ?_
      refine s_ck (fun q2 => ?_)
      refine s_iast hG hE dX9_claim_100 kM_6 q2 (fun h3 => ?_)
      refine s_aload_n hG dX9_claim_101 0 rfl rfl ?_
      refine s_getS hG hE dX9_claim_102 fl_X9_29 rfl kM_1 fM_9_6 (nzM kM_6) ?_
      refine s_bipush hG dX9_claim_105 bc_10 ?_
      refine s_aload_n hG dX9_claim_107 0 rfl rfl ?_
      refine s_getI hG hE dX9_claim_108 fl_X9_13 rfl kM_1 ?_
      refine s_imul hG dX9_claim_111 ?_
      refine s_iconst hG dX9_claim_112 ic_1 ?_
      refine s_iadd hG dX9_claim_113 ?_
      refine s_iload_n hG dX9_claim_114 2 rfl rfl ?_
      refine s_ck (fun q4 => ?_)
      refine s_iast hG hE dX9_claim_115 kM_6 q4 (fun h5 => ?_)
      refine s_aload_n hG dX9_claim_116 0 rfl rfl ?_
      refine s_getS hG hE dX9_claim_117 fl_X9_29 rfl kM_1 fM_9_6 (nzM kM_6) ?_
      refine s_bipush hG dX9_claim_120 bc_10 ?_
      refine s_aload_n hG dX9_claim_122 0 rfl rfl ?_
      refine s_getI hG hE dX9_claim_123 fl_X9_13 rfl kM_1 ?_
      refine s_imul hG dX9_claim_126 ?_
      refine s_iconst hG dX9_claim_127 ic_2 ?_
      refine s_iadd hG dX9_claim_128 ?_
      refine s_iload_n hG dX9_claim_129 3 rfl rfl ?_
      refine s_ck (fun q6 => ?_)
      refine s_iast hG hE dX9_claim_130 kM_6 q6 (fun h7 => ?_)
      refine s_aload_n hG dX9_claim_131 0 rfl rfl ?_
      refine s_getS hG hE dX9_claim_132 fl_X9_29 rfl kM_1 fM_9_6 (nzM kM_6) ?_
      refine s_bipush hG dX9_claim_135 bc_10 ?_
      refine s_aload_n hG dX9_claim_137 0 rfl rfl ?_
      refine s_getI hG hE dX9_claim_138 fl_X9_13 rfl kM_1 ?_
      refine s_imul hG dX9_claim_141 ?_
      refine s_iconst hG dX9_claim_142 ic_4 ?_
      refine s_iadd hG dX9_claim_143 ?_
      refine s_iconst hG dX9_claim_144 ic_1 ?_
      refine s_ck (fun q8 => ?_)
      refine s_iast hG hE dX9_claim_145 kM_6 q8 (fun h9 => ?_)
      refine s_aload_n hG dX9_claim_146 0 rfl rfl ?_
      refine s_dup hG dX9_claim_147 rfl ?_
      refine s_getI hG hE dX9_claim_148 fl_X9_13 rfl kM_1 ?_
      refine s_iconst hG dX9_claim_151 ic_1 ?_
      refine s_iadd hG dX9_claim_152 ?_
      refine s_putI hG hE dX9_claim_153 fl_X9_13 rfl rfl kM_1 (fun h10 => ?_)
      refine s_aload_n hG dX9_claim_156 0 rfl rfl ?_
      refine s_getI hG hE dX9_claim_157 fl_X9_13 rfl kM_1 ?_
      refine s_iconst hG dX9_claim_160 ic_1 ?_
      refine s_isub hG dX9_claim_161 ?_
      exact s_iret hG hT dX9_claim_162
    · refine s_aload_n hG dX9_claim_66 0 rfl rfl ?_
      refine s_getS hG hE dX9_claim_67 fl_X9_29 rfl kM_1 fM_9_6 (nzM kM_6) ?_
      refine s_bipush hG dX9_claim_70 bc_10 ?_
      refine s_aload_n hG dX9_claim_72 0 rfl rfl ?_
      refine s_getI hG hE dX9_claim_73 fl_X9_13 rfl kM_1 ?_
      refine s_imul hG dX9_claim_76 ?_
      refine s_iload hG dX9_claim_77 4 rfl ?_
      refine s_iadd hG dX9_claim_79 ?_
      refine s_iconst hG dX9_claim_80 ic_0 ?_
      refine s_ck (fun q11 => ?_)
      refine s_iast hG hE dX9_claim_81 kM_6 q11 (fun h12 => ?_)
      refine s_iinc hG dX9_claim_82 4 rfl ic_1 (by decide) (fun v13 => [(4, .int v13), (0, .ref (gB (GM w) + 1)), (1, .int a1), (2, .int a2), (3, .int a3)]) (fun _ => rfl) (fun v13 => ?_)
      refine s_goto (tgt := 59) hG dX9_claim_85 (by decide) ?_
      refine s_lv [1, 2, 3, 4, 0] rfl ?_
      exact ih a1 a2 a3 v13 h12

def m_X9_claim (a1 : Int32) (a2 : Int32) (a3 : Int32) (h : Hp) : Option (Int32 × Hp) := cb (m_X9_isSuit a1 h) fun v1 h2 => if v1 = 0 then some ((-1), h2) else cb (m_X9_in a2 1 99 h2) fun v4 h5 => if v4 = 0 then some ((-2), h5) else cb (m_X9_in a3 0 2 h5) fun v7 h8 => if v7 = 0 then some ((-2), h8) else if (gi h8 1 1) = 24 then some ((-4), h8) else cb (m_X9_manyOf a1 h8) fun v11 h12 => if v11 = 6 then some ((-4), h12) else m_X9_claim_L59 FU a1 a2 a3 0 h12
set_option maxRecDepth 20000 in
set_option maxHeartbeats 4000000 in
theorem s_X9_claim (w : WT) {x : CT} {l : Launch} (hx : xl x = l) (hG : Gd x cX9_claim 5 RX9) (hE : Ge x (GM w)) (hR : Rm x 3) (hT : Rt x (some .int)) (a1 : Int32) (a2 : Int32) (a3 : Int32) (h : Hp) : Sn x 5 (gA (GM w)) (0, 0) (ζM x (GM w) inI) (gW (GM w) h) 0 [(0, .ref (gB (GM w) + 1)), (1, .int a1), (2, .int a2), (3, .int a3)] [] (m_X9_claim a1 a2 a3 h) := by
  unfold m_X9_claim
  refine s_aload_n hG dX9_claim_0 0 rfl rfl ?_
  refine s_iload_n hG dX9_claim_1 1 rfl rfl ?_
  refine s_callV (a := 1) (c := 9) (inj := inI) (As := [.int a1]) (st := []) rfl hG hE dX9_claim_2 hR (by decide) vv_X9_156 (by decide) rfl kM_1 rfl (Nat.le_of_ble_eq_true rfl) rfl (fun zv zh zq => c_X9_isSuit w (xl x) a1 h zv zh zq) (fun v1 h2 => ?_)
  refine s_if_ne hG dX9_claim_5 (tgt := 10) (by decide) (fun q3 => ?_) (fun q3 => ?_)
  · refine s_iconst hG dX9_claim_8 ic_m1 ?_
    exact s_iret hG hT dX9_claim_9
  · refine s_aload_n hG dX9_claim_10 0 rfl rfl ?_
    refine s_iload_n hG dX9_claim_11 2 rfl rfl ?_
    refine s_iconst hG dX9_claim_12 ic_1 ?_
    refine s_bipush hG dX9_claim_13 bc_99 ?_
    refine s_callV (a := 1) (c := 9) (inj := inI) (As := [.int a2, .int 1, .int 99]) (st := []) rfl hG hE dX9_claim_15 hR (by decide) vv_X9_144 (by decide) rfl kM_1 rfl (Nat.le_of_ble_eq_true rfl) rfl (fun zv zh zq => c_X9_in w (xl x) a2 1 99 h2 zv zh zq) (fun v4 h5 => ?_)
    refine s_if_eq hG dX9_claim_18 (tgt := 31) (by decide) (fun q6 => ?_) (fun q6 => ?_)
    · refine s_bipush hG dX9_claim_31 bc_m2 ?_
      exact s_iret hG hT dX9_claim_33
    · refine s_aload_n hG dX9_claim_21 0 rfl rfl ?_
      refine s_iload_n hG dX9_claim_22 3 rfl rfl ?_
      refine s_iconst hG dX9_claim_23 ic_0 ?_
      refine s_iconst hG dX9_claim_24 ic_2 ?_
      refine s_callV (a := 1) (c := 9) (inj := inI) (As := [.int a3, .int 0, .int 2]) (st := []) rfl hG hE dX9_claim_25 hR (by decide) vv_X9_144 (by decide) rfl kM_1 rfl (Nat.le_of_ble_eq_true rfl) rfl (fun zv zh zq => c_X9_in w (xl x) a3 0 2 h5 zv zh zq) (fun v7 h8 => ?_)
      refine s_if_ne hG dX9_claim_28 (tgt := 34) (by decide) (fun q9 => ?_) (fun q9 => ?_)
      · refine s_bipush hG dX9_claim_31 bc_m2 ?_
        exact s_iret hG hT dX9_claim_33
      · refine s_aload_n hG dX9_claim_34 0 rfl rfl ?_
        refine s_getI hG hE dX9_claim_35 fl_X9_13 rfl kM_1 ?_
        refine s_bipush hG dX9_claim_38 bc_24 ?_
        refine s_icmp_eq hG dX9_claim_40 (tgt := 53) (by decide) (fun q10 => ?_) (fun q10 => ?_)
        · refine s_bipush hG dX9_claim_53 bc_m4 ?_
          exact s_iret hG hT dX9_claim_55
        · refine s_aload_n hG dX9_claim_43 0 rfl rfl ?_
          refine s_iload_n hG dX9_claim_44 1 rfl rfl ?_
          refine s_callV (a := 1) (c := 9) (inj := inI) (As := [.int a1]) (st := []) rfl hG hE dX9_claim_45 hR (by decide) vv_X9_159 (by decide) rfl kM_1 rfl (Nat.le_of_ble_eq_true rfl) rfl (fun zv zh zq => c_X9_manyOf w (xl x) a1 h8 zv zh zq) (fun v11 h12 => ?_)
          refine s_bipush hG dX9_claim_48 bc_6 ?_
          refine s_icmp_ne hG dX9_claim_50 (tgt := 56) (by decide) (fun q13 => ?_) (fun q13 => ?_)
          · refine s_bipush hG dX9_claim_53 bc_m4 ?_
            exact s_iret hG hT dX9_claim_55
          · refine s_iconst hG dX9_claim_56 ic_0 ?_
            refine s_istore (lv' := [(4, .int 0), (0, .ref (gB (GM w) + 1)), (1, .int a1), (2, .int a2), (3, .int a3)]) hG dX9_claim_57 (by decide) rfl ?_
            refine s_lv [1, 2, 3, 4, 0] rfl ?_
            exact s_X9_claim_L59 w hx hG hE hR hT FU a1 a2 a3 0 h12

theorem c_X9_claim (w : WT) (l : Launch) (a1 : Int32) (a2 : Int32) (a3 : Int32) (h : Hp) : ∀ v h', m_X9_claim a1 a2 a3 h = some (v, h') → MetM l (GM w) yX9_claim cX9_claim 5 (some .int) 3 [.ref (gB (GM w) + 1), .int a1, .int a2, .int a3] h (inI v) h' :=
  met_of (by decide) (lokM w) (Nat.le_of_ble_eq_true rfl) (fun x hx hG hE hR hT => s_X9_claim w hx hG hE hR hT a1 a2 a3 h)
def m_X9_becomes (a1 : Int32) (a2 : Int32) (a3 : Int32) (h : Hp) : Option (Int32 × Hp) := ck (inb ((10 * a1) + a2) 240) (vb (gi h 6 ((10 * a1) + a2).toNatClampNeg) fun v2 => hb (si h 6 ((10 * a1) + a2).toNatClampNeg a3) fun h3 => some (v2, h3))
set_option maxRecDepth 20000 in
set_option maxHeartbeats 4000000 in
theorem s_X9_becomes (w : WT) {x : CT} {l : Launch} (hx : xl x = l) (hG : Gd x cX9_becomes 5 RX9) (hE : Ge x (GM w)) (hR : Rm x 1) (hT : Rt x (some .int)) (a1 : Int32) (a2 : Int32) (a3 : Int32) (h : Hp) : Sn x 5 (gA (GM w)) (0, 0) (ζM x (GM w) inI) (gW (GM w) h) 0 [(0, .ref (gB (GM w) + 1)), (1, .int a1), (2, .int a2), (3, .int a3)] [] (m_X9_becomes a1 a2 a3 h) := by
  unfold m_X9_becomes
  refine s_aload_n hG dX9_becomes_0 0 rfl rfl ?_
  refine s_getS hG hE dX9_becomes_1 fl_X9_29 rfl kM_1 fM_9_6 (nzM kM_6) ?_
  refine s_bipush hG dX9_becomes_4 bc_10 ?_
  refine s_iload_n hG dX9_becomes_6 1 rfl rfl ?_
  refine s_imul hG dX9_becomes_7 ?_
  refine s_iload_n hG dX9_becomes_8 2 rfl rfl ?_
  refine s_iadd hG dX9_becomes_9 ?_
  refine s_ck (fun q1 => ?_)
  refine s_iald hG hE dX9_becomes_10 kM_6 q1 ?_
  refine s_vI (fun v2 => ?_)
  refine s_istore (lv' := [(4, .int v2), (0, .ref (gB (GM w) + 1)), (1, .int a1), (2, .int a2), (3, .int a3)]) hG dX9_becomes_11 (by decide) rfl ?_
  refine s_aload_n hG dX9_becomes_13 1 rfl rfl ?_
  refine s_getS hG hE dX9_becomes_14 fl_X9_29 rfl kM_1 fM_9_6 (nzM kM_6) ?_
  refine s_bipush hG dX9_becomes_17 bc_10 ?_
  refine s_iload_n hG dX9_becomes_19 2 rfl rfl ?_
  refine s_imul hG dX9_becomes_20 ?_
  refine s_iload_n hG dX9_becomes_21 3 rfl rfl ?_
  refine s_iadd hG dX9_becomes_22 ?_
  refine s_iload_n hG dX9_becomes_23 4 rfl rfl ?_
  refine s_iast hG hE dX9_becomes_24 kM_6 q1 (fun h3 => ?_)
  refine s_iload hG dX9_becomes_25 0 rfl ?_
  exact s_iret hG hT dX9_becomes_27

theorem c_X9_becomes (w : WT) (l : Launch) (a1 : Int32) (a2 : Int32) (a3 : Int32) (h : Hp) : ∀ v h', m_X9_becomes a1 a2 a3 h = some (v, h') → MetM l (GM w) yX9_becomes cX9_becomes 5 (some .int) 1 [.ref (gB (GM w) + 1), .int a1, .int a2, .int a3] h (inI v) h' :=
  met_of (by decide) (lokM w) (Nat.le_of_ble_eq_true rfl) (fun x hx hG hE hR hT => s_X9_becomes w hx hG hE hR hT a1 a2 a3 h)
theorem vv_X9_166 : VV RX9 166 yX9_becomes cX9_becomes 5 (some .int) 3 := ⟨⟨gw_at 1238 (by decide +kernel) (by decide +kernel), gw_at 1241 (by decide +kernel) (by decide +kernel), gw_at 96 (by decide +kernel) (by decide +kernel), by decide +kernel, by decide⟩, gw_at 1240 (by decide +kernel) (by decide +kernel), gw_at 33 (by decide +kernel) (by decide +kernel)⟩
theorem vv_X9_163 : VV RX9 163 yX9_isClaim cX9_isClaim 2 (some .boolean) 1 := ⟨⟨gw_at 1234 (by decide +kernel) (by decide +kernel), gw_at 1237 (by decide +kernel) (by decide +kernel), gw_at 96 (by decide +kernel) (by decide +kernel), by decide +kernel, by decide⟩, gw_at 1236 (by decide +kernel) (by decide +kernel), gw_at 32 (by decide +kernel) (by decide +kernel)⟩
def m_X9_answer_L47 (a1 : Int32) (a2 : Int32) (t0 : Int32) (t1 : Int32) (t2 : Nat) (h : Hp) : Option (Int32 × Hp) := ck (inb t1 240) (hb (si h t2 t1.toNatClampNeg t0) fun h2 => cb (m_X9_becomes a1 3 a2 h2) fun v3 h4 => some (v3, h4))
set_option maxRecDepth 20000 in
set_option maxHeartbeats 4000000 in
theorem s_X9_answer_L47 (w : WT) {x : CT} {l : Launch} (hx : xl x = l) (hG : Gd x cX9_answer 4 RX9) (hE : Ge x (GM w)) (hR : Rm x 3) (hT : Rt x (some .int)) (a1 : Int32) (a2 : Int32) (t0 : Int32) (t1 : Int32) (t2 : Nat) (q2 : LM t2 = (20, 240)) (h : Hp) : Sn x 4 (gA (GM w)) (0, 0) (ζM x (GM w) inI) (gW (GM w) h) 47 [(0, .ref (gB (GM w) + 1)), (1, .int a1), (2, .int a2)] [.int t0, .int t1, .ref (gB (GM w) + t2)] (m_X9_answer_L47 a1 a2 t0 t1 t2 h) := by
  unfold m_X9_answer_L47
  refine s_ck (fun q1 => ?_)
  refine s_iast hG hE dX9_answer_47 q2 q1 (fun h2 => ?_)
  refine s_aload_n hG dX9_answer_48 0 rfl rfl ?_
  refine s_iload_n hG dX9_answer_49 1 rfl rfl ?_
  refine s_iconst hG dX9_answer_50 ic_3 ?_
  refine s_iload_n hG dX9_answer_51 2 rfl rfl ?_
  refine s_callV (a := 1) (c := 9) (inj := inI) (As := [.int a1, .int 3, .int a2]) (st := []) rfl hG hE dX9_answer_52 hR (by decide) vv_X9_166 (by decide) rfl kM_1 rfl (Nat.le_of_ble_eq_true rfl) rfl (fun zv zh zq => c_X9_becomes w (xl x) a1 3 a2 h2 zv zh zq) (fun v3 h4 => ?_)
  exact s_iret hG hT dX9_answer_55

def m_X9_answer (a1 : Int32) (a2 : Int32) (a3 : Int32) (h : Hp) : Option (Int32 × Hp) := cb (m_X9_isClaim a1 h) fun v1 h2 => if v1 = 0 then some ((-1), h2) else cb (m_X9_get a1 1 h2) fun v4 h5 => cb (m_X9_in a2 0 v4 h5) fun v6 h7 => if v6 = 0 then some ((-2), h7) else if a3 = 0 then m_X9_answer_L47 a1 a2 0 ((10 * a1) + 4) 6 h7 else m_X9_answer_L47 a1 a2 1 ((10 * a1) + 4) 6 h7
set_option maxRecDepth 20000 in
set_option maxHeartbeats 4000000 in
theorem s_X9_answer (w : WT) {x : CT} {l : Launch} (hx : xl x = l) (hG : Gd x cX9_answer 4 RX9) (hE : Ge x (GM w)) (hR : Rm x 3) (hT : Rt x (some .int)) (a1 : Int32) (a2 : Int32) (a3 : Int32) (h : Hp) : Sn x 4 (gA (GM w)) (0, 0) (ζM x (GM w) inI) (gW (GM w) h) 0 [(0, .ref (gB (GM w) + 1)), (1, .int a1), (2, .int a2), (3, .int a3)] [] (m_X9_answer a1 a2 a3 h) := by
  unfold m_X9_answer
  refine s_aload_n hG dX9_answer_0 0 rfl rfl ?_
  refine s_iload_n hG dX9_answer_1 1 rfl rfl ?_
  refine s_callV (a := 1) (c := 9) (inj := inI) (As := [.int a1]) (st := []) rfl hG hE dX9_answer_2 hR (by decide) vv_X9_163 (by decide) rfl kM_1 rfl (Nat.le_of_ble_eq_true rfl) rfl (fun zv zh zq => c_X9_isClaim w (xl x) a1 h zv zh zq) (fun v1 h2 => ?_)
  refine s_if_ne hG dX9_answer_5 (tgt := 10) (by decide) (fun q3 => ?_) (fun q3 => ?_)
  · refine s_iconst hG dX9_answer_8 ic_m1 ?_
    exact s_iret hG hT dX9_answer_9
  · refine s_aload_n hG dX9_answer_10 0 rfl rfl ?_
    refine s_iload_n hG dX9_answer_11 2 rfl rfl ?_
    refine s_iconst hG dX9_answer_12 ic_0 ?_
    refine s_aload_n hG dX9_answer_13 0 rfl rfl ?_
    refine s_iload_n hG dX9_answer_14 1 rfl rfl ?_
    refine s_iconst hG dX9_answer_15 ic_1 ?_
    refine s_callV (a := 1) (c := 9) (inj := inI) (As := [.int a1, .int 1]) (st := [.int 0, .int a2, .ref (gB (GM w) + 1)]) rfl hG hE dX9_answer_16 hR (by decide) vv_X9_148 (by decide) rfl kM_1 rfl (Nat.le_of_ble_eq_true rfl) rfl (fun zv zh zq => c_X9_get w (xl x) a1 1 h2 zv zh zq) (fun v4 h5 => ?_)
    refine s_callV (a := 1) (c := 9) (inj := inI) (As := [.int a2, .int 0, .int v4]) (st := []) rfl hG hE dX9_answer_19 hR (by decide) vv_X9_144 (by decide) rfl kM_1 rfl (Nat.le_of_ble_eq_true rfl) rfl (fun zv zh zq => c_X9_in w (xl x) a2 0 v4 h5 zv zh zq) (fun v6 h7 => ?_)
    refine s_if_ne hG dX9_answer_22 (tgt := 28) (by decide) (fun q8 => ?_) (fun q8 => ?_)
    · refine s_bipush hG dX9_answer_25 bc_m2 ?_
      exact s_iret hG hT dX9_answer_27
    · refine s_aload_n hG dX9_answer_28 0 rfl rfl ?_
      refine s_getS hG hE dX9_answer_29 fl_X9_29 rfl kM_1 fM_9_6 (nzM kM_6) ?_
      refine s_bipush hG dX9_answer_32 bc_10 ?_
      refine s_iload_n hG dX9_answer_34 1 rfl rfl ?_
      refine s_imul hG dX9_answer_35 ?_
      refine s_iconst hG dX9_answer_36 ic_4 ?_
      refine s_iadd hG dX9_answer_37 ?_
      refine s_iload_n hG dX9_answer_38 3 rfl rfl ?_
      refine s_if_eq hG dX9_answer_39 (tgt := 46) (by decide) (fun q9 => ?_) (fun q9 => ?_)
      · refine s_iconst hG dX9_answer_46 ic_0 ?_
        refine s_lv [0, 1, 2] rfl ?_
        exact s_X9_answer_L47 w hx hG hE hR hT a1 a2 0 ((10 * a1) + 4) 6 kM_6 h7
      · refine s_iconst hG dX9_answer_42 ic_1 ?_
        refine s_goto (tgt := 47) hG dX9_answer_43 (by decide) ?_
        refine s_lv [0, 1, 2] rfl ?_
        exact s_X9_answer_L47 w hx hG hE hR hT a1 a2 1 ((10 * a1) + 4) 6 kM_6 h7

theorem c_X9_answer (w : WT) (l : Launch) (a1 : Int32) (a2 : Int32) (a3 : Int32) (h : Hp) : ∀ v h', m_X9_answer a1 a2 a3 h = some (v, h') → MetM l (GM w) yX9_answer cX9_answer 4 (some .int) 3 [.ref (gB (GM w) + 1), .int a1, .int a2, .int a3] h (inI v) h' :=
  met_of (by decide) (lokM w) (Nat.le_of_ble_eq_true rfl) (fun x hx hG hE hR hT => s_X9_answer w hx hG hE hR hT a1 a2 a3 h)
def m_X9_proof_L32 (a1 : Int32) (a2 : Int32) (a3 : Int32) (t0 : Int32) (t1 : Int32) (t2 : Int32) (h : Hp) : Option (Int32 × Hp) := cb (m_X9_in t2 t1 t0 h) fun v1 h2 => if v1 = 0 then some ((-2), h2) else cb (m_X9_becomes a1 (5 + a2) a3 h2) fun v4 h5 => some (v4, h5)
set_option maxRecDepth 20000 in
set_option maxHeartbeats 4000000 in
theorem s_X9_proof_L32 (w : WT) {x : CT} {l : Launch} (hx : xl x = l) (hG : Gd x cX9_proof 4 RX9) (hE : Ge x (GM w)) (hR : Rm x 3) (hT : Rt x (some .int)) (a1 : Int32) (a2 : Int32) (a3 : Int32) (t0 : Int32) (t1 : Int32) (t2 : Int32) (h : Hp) : Sn x 4 (gA (GM w)) (0, 0) (ζM x (GM w) inI) (gW (GM w) h) 32 [(0, .ref (gB (GM w) + 1)), (1, .int a1), (2, .int a2), (3, .int a3)] [.int t0, .int t1, .int t2, .ref (gB (GM w) + 1)] (m_X9_proof_L32 a1 a2 a3 t0 t1 t2 h) := by
  unfold m_X9_proof_L32
  refine s_callV (a := 1) (c := 9) (inj := inI) (As := [.int t2, .int t1, .int t0]) (st := []) rfl hG hE dX9_proof_32 hR (by decide) vv_X9_144 (by decide) rfl kM_1 rfl (Nat.le_of_ble_eq_true rfl) rfl (fun zv zh zq => c_X9_in w (xl x) t2 t1 t0 h zv zh zq) (fun v1 h2 => ?_)
  refine s_if_eq hG dX9_proof_35 (tgt := 50) (by decide) (fun q3 => ?_) (fun q3 => ?_)
  · refine s_bipush hG dX9_proof_50 bc_m2 ?_
    exact s_iret hG hT dX9_proof_52
  · refine s_aload_n hG dX9_proof_38 0 rfl rfl ?_
    refine s_iload_n hG dX9_proof_39 1 rfl rfl ?_
    refine s_iconst hG dX9_proof_40 ic_5 ?_
    refine s_iload_n hG dX9_proof_41 2 rfl rfl ?_
    refine s_iadd hG dX9_proof_42 ?_
    refine s_iload_n hG dX9_proof_43 3 rfl rfl ?_
    refine s_callV (a := 1) (c := 9) (inj := inI) (As := [.int a1, .int (5 + a2), .int a3]) (st := []) rfl hG hE dX9_proof_44 hR (by decide) vv_X9_166 (by decide) rfl kM_1 rfl (Nat.le_of_ble_eq_true rfl) rfl (fun zv zh zq => c_X9_becomes w (xl x) a1 (5 + a2) a3 h2 zv zh zq) (fun v4 h5 => ?_)
    refine s_goto (tgt := 52) hG dX9_proof_47 (by decide) ?_
    exact s_iret hG hT dX9_proof_52

def m_X9_proof (a1 : Int32) (a2 : Int32) (a3 : Int32) (h : Hp) : Option (Int32 × Hp) := cb (m_X9_isClaim a1 h) fun v1 h2 => if v1 = 0 then some ((-1), h2) else cb (m_X9_in a2 0 3 h2) fun v4 h5 => if v4 = 0 then some ((-1), h5) else if a2 = 0 then m_X9_proof_L32 a1 a2 a3 3 0 a3 h5 else m_X9_proof_L32 a1 a2 a3 1 0 a3 h5
set_option maxRecDepth 20000 in
set_option maxHeartbeats 4000000 in
theorem s_X9_proof (w : WT) {x : CT} {l : Launch} (hx : xl x = l) (hG : Gd x cX9_proof 4 RX9) (hE : Ge x (GM w)) (hR : Rm x 3) (hT : Rt x (some .int)) (a1 : Int32) (a2 : Int32) (a3 : Int32) (h : Hp) : Sn x 4 (gA (GM w)) (0, 0) (ζM x (GM w) inI) (gW (GM w) h) 0 [(0, .ref (gB (GM w) + 1)), (1, .int a1), (2, .int a2), (3, .int a3)] [] (m_X9_proof a1 a2 a3 h) := by
  unfold m_X9_proof
  refine s_aload_n hG dX9_proof_0 0 rfl rfl ?_
  refine s_iload_n hG dX9_proof_1 1 rfl rfl ?_
  refine s_callV (a := 1) (c := 9) (inj := inI) (As := [.int a1]) (st := []) rfl hG hE dX9_proof_2 hR (by decide) vv_X9_163 (by decide) rfl kM_1 rfl (Nat.le_of_ble_eq_true rfl) rfl (fun zv zh zq => c_X9_isClaim w (xl x) a1 h zv zh zq) (fun v1 h2 => ?_)
  refine s_if_eq hG dX9_proof_5 (tgt := 18) (by decide) (fun q3 => ?_) (fun q3 => ?_)
  · refine s_iconst hG dX9_proof_18 ic_m1 ?_
    exact s_iret hG hT dX9_proof_19
  · refine s_aload_n hG dX9_proof_8 0 rfl rfl ?_
    refine s_iload_n hG dX9_proof_9 2 rfl rfl ?_
    refine s_iconst hG dX9_proof_10 ic_0 ?_
    refine s_iconst hG dX9_proof_11 ic_3 ?_
    refine s_callV (a := 1) (c := 9) (inj := inI) (As := [.int a2, .int 0, .int 3]) (st := []) rfl hG hE dX9_proof_12 hR (by decide) vv_X9_144 (by decide) rfl kM_1 rfl (Nat.le_of_ble_eq_true rfl) rfl (fun zv zh zq => c_X9_in w (xl x) a2 0 3 h2 zv zh zq) (fun v4 h5 => ?_)
    refine s_if_ne hG dX9_proof_15 (tgt := 20) (by decide) (fun q6 => ?_) (fun q6 => ?_)
    · refine s_iconst hG dX9_proof_18 ic_m1 ?_
      exact s_iret hG hT dX9_proof_19
    · refine s_aload_n hG dX9_proof_20 0 rfl rfl ?_
      refine s_iload_n hG dX9_proof_21 3 rfl rfl ?_
      refine s_iconst hG dX9_proof_22 ic_0 ?_
      refine s_iload_n hG dX9_proof_23 2 rfl rfl ?_
      refine s_if_ne hG dX9_proof_24 (tgt := 31) (by decide) (fun q7 => ?_) (fun q7 => ?_)
      · refine s_iconst hG dX9_proof_27 ic_3 ?_
        refine s_goto (tgt := 32) hG dX9_proof_28 (by decide) ?_
        exact s_X9_proof_L32 w hx hG hE hR hT a1 a2 a3 3 0 a3 h5
      · refine s_iconst hG dX9_proof_31 ic_1 ?_
        exact s_X9_proof_L32 w hx hG hE hR hT a1 a2 a3 1 0 a3 h5

theorem c_X9_proof (w : WT) (l : Launch) (a1 : Int32) (a2 : Int32) (a3 : Int32) (h : Hp) : ∀ v h', m_X9_proof a1 a2 a3 h = some (v, h') → MetM l (GM w) yX9_proof cX9_proof 4 (some .int) 3 [.ref (gB (GM w) + 1), .int a1, .int a2, .int a3] h (inI v) h' :=
  met_of (by decide) (lokM w) (Nat.le_of_ble_eq_true rfl) (fun x hx hG hE hR hT => s_X9_proof w hx hG hE hR hT a1 a2 a3 h)
def m_X9_truth (a1 : Int32) (a2 : Int32) (h : Hp) : Option (Int32 × Hp) := cb (m_X9_isClaim a1 h) fun v1 h2 => if v1 = 0 then some ((-1), h2) else cb (m_X9_in a2 0 99 h2) fun v4 h5 => if v4 = 0 then some ((-2), h5) else cb (m_X9_becomes a1 9 a2 h5) fun v7 h8 => some (v7, h8)
set_option maxRecDepth 20000 in
set_option maxHeartbeats 4000000 in
theorem s_X9_truth (w : WT) {x : CT} {l : Launch} (hx : xl x = l) (hG : Gd x cX9_truth 3 RX9) (hE : Ge x (GM w)) (hR : Rm x 3) (hT : Rt x (some .int)) (a1 : Int32) (a2 : Int32) (h : Hp) : Sn x 3 (gA (GM w)) (0, 0) (ζM x (GM w) inI) (gW (GM w) h) 0 [(0, .ref (gB (GM w) + 1)), (1, .int a1), (2, .int a2)] [] (m_X9_truth a1 a2 h) := by
  unfold m_X9_truth
  refine s_aload_n hG dX9_truth_0 0 rfl rfl ?_
  refine s_iload_n hG dX9_truth_1 1 rfl rfl ?_
  refine s_callV (a := 1) (c := 9) (inj := inI) (As := [.int a1]) (st := []) rfl hG hE dX9_truth_2 hR (by decide) vv_X9_163 (by decide) rfl kM_1 rfl (Nat.le_of_ble_eq_true rfl) rfl (fun zv zh zq => c_X9_isClaim w (xl x) a1 h zv zh zq) (fun v1 h2 => ?_)
  refine s_if_ne hG dX9_truth_5 (tgt := 10) (by decide) (fun q3 => ?_) (fun q3 => ?_)
  · refine s_iconst hG dX9_truth_8 ic_m1 ?_
    exact s_iret hG hT dX9_truth_9
  · refine s_aload_n hG dX9_truth_10 0 rfl rfl ?_
    refine s_iload_n hG dX9_truth_11 2 rfl rfl ?_
    refine s_iconst hG dX9_truth_12 ic_0 ?_
    refine s_bipush hG dX9_truth_13 bc_99 ?_
    refine s_callV (a := 1) (c := 9) (inj := inI) (As := [.int a2, .int 0, .int 99]) (st := []) rfl hG hE dX9_truth_15 hR (by decide) vv_X9_144 (by decide) rfl kM_1 rfl (Nat.le_of_ble_eq_true rfl) rfl (fun zv zh zq => c_X9_in w (xl x) a2 0 99 h2 zv zh zq) (fun v4 h5 => ?_)
    refine s_if_eq hG dX9_truth_18 (tgt := 32) (by decide) (fun q6 => ?_) (fun q6 => ?_)
    · refine s_bipush hG dX9_truth_32 bc_m2 ?_
      exact s_iret hG hT dX9_truth_34
    · refine s_aload_n hG dX9_truth_21 0 rfl rfl ?_
      refine s_iload_n hG dX9_truth_22 1 rfl rfl ?_
      refine s_bipush hG dX9_truth_23 bc_9 ?_
      refine s_iload_n hG dX9_truth_25 2 rfl rfl ?_
      refine s_callV (a := 1) (c := 9) (inj := inI) (As := [.int a1, .int 9, .int a2]) (st := []) rfl hG hE dX9_truth_26 hR (by decide) vv_X9_166 (by decide) rfl kM_1 rfl (Nat.le_of_ble_eq_true rfl) rfl (fun zv zh zq => c_X9_becomes w (xl x) a1 9 a2 h5 zv zh zq) (fun v7 h8 => ?_)
      refine s_goto (tgt := 34) hG dX9_truth_29 (by decide) ?_
      exact s_iret hG hT dX9_truth_34

theorem c_X9_truth (w : WT) (l : Launch) (a1 : Int32) (a2 : Int32) (h : Hp) : ∀ v h', m_X9_truth a1 a2 h = some (v, h') → MetM l (GM w) yX9_truth cX9_truth 3 (some .int) 3 [.ref (gB (GM w) + 1), .int a1, .int a2] h (inI v) h' :=
  met_of (by decide) (lokM w) (Nat.le_of_ble_eq_true rfl) (fun x hx hG hE hR hT => s_X9_truth w hx hG hE hR hT a1 a2 h)
def m_X9_of (a1 : Int32) (a2 : Int32) (h : Hp) : Option (Int32 × Hp) := cb (m_X9_isClaim a1 h) fun v1 h2 => if v1 = 0 then some ((-1), h2) else cb (m_X9_in a2 0 9 h2) fun v4 h5 => if v4 = 0 then some ((-1), h5) else cb (m_X9_get a1 a2 h5) fun v7 h8 => some (v7, h8)
set_option maxRecDepth 20000 in
set_option maxHeartbeats 4000000 in
theorem s_X9_of (w : WT) {x : CT} {l : Launch} (hx : xl x = l) (hG : Gd x cX9_of 3 RX9) (hE : Ge x (GM w)) (hR : Rm x 3) (hT : Rt x (some .int)) (a1 : Int32) (a2 : Int32) (h : Hp) : Sn x 3 (gA (GM w)) (0, 0) (ζM x (GM w) inI) (gW (GM w) h) 0 [(0, .ref (gB (GM w) + 1)), (1, .int a1), (2, .int a2)] [] (m_X9_of a1 a2 h) := by
  unfold m_X9_of
  refine s_aload_n hG dX9_of_0 0 rfl rfl ?_
  refine s_iload_n hG dX9_of_1 1 rfl rfl ?_
  refine s_callV (a := 1) (c := 9) (inj := inI) (As := [.int a1]) (st := []) rfl hG hE dX9_of_2 hR (by decide) vv_X9_163 (by decide) rfl kM_1 rfl (Nat.le_of_ble_eq_true rfl) rfl (fun zv zh zq => c_X9_isClaim w (xl x) a1 h zv zh zq) (fun v1 h2 => ?_)
  refine s_if_eq hG dX9_of_5 (tgt := 28) (by decide) (fun q3 => ?_) (fun q3 => ?_)
  · refine s_iconst hG dX9_of_28 ic_m1 ?_
    exact s_iret hG hT dX9_of_29
  · refine s_aload_n hG dX9_of_8 0 rfl rfl ?_
    refine s_iload_n hG dX9_of_9 2 rfl rfl ?_
    refine s_iconst hG dX9_of_10 ic_0 ?_
    refine s_bipush hG dX9_of_11 bc_9 ?_
    refine s_callV (a := 1) (c := 9) (inj := inI) (As := [.int a2, .int 0, .int 9]) (st := []) rfl hG hE dX9_of_13 hR (by decide) vv_X9_144 (by decide) rfl kM_1 rfl (Nat.le_of_ble_eq_true rfl) rfl (fun zv zh zq => c_X9_in w (xl x) a2 0 9 h2 zv zh zq) (fun v4 h5 => ?_)
    refine s_if_eq hG dX9_of_16 (tgt := 28) (by decide) (fun q6 => ?_) (fun q6 => ?_)
    · refine s_iconst hG dX9_of_28 ic_m1 ?_
      exact s_iret hG hT dX9_of_29
    · refine s_aload_n hG dX9_of_19 0 rfl rfl ?_
      refine s_iload_n hG dX9_of_20 1 rfl rfl ?_
      refine s_iload_n hG dX9_of_21 2 rfl rfl ?_
      refine s_callV (a := 1) (c := 9) (inj := inI) (As := [.int a1, .int a2]) (st := []) rfl hG hE dX9_of_22 hR (by decide) vv_X9_148 (by decide) rfl kM_1 rfl (Nat.le_of_ble_eq_true rfl) rfl (fun zv zh zq => c_X9_get w (xl x) a1 a2 h5 zv zh zq) (fun v7 h8 => ?_)
      refine s_goto (tgt := 29) hG dX9_of_25 (by decide) ?_
      exact s_iret hG hT dX9_of_29

theorem c_X9_of (w : WT) (l : Launch) (a1 : Int32) (a2 : Int32) (h : Hp) : ∀ v h', m_X9_of a1 a2 h = some (v, h') → MetM l (GM w) yX9_of cX9_of 3 (some .int) 3 [.ref (gB (GM w) + 1), .int a1, .int a2] h (inI v) h' :=
  met_of (by decide) (lokM w) (Nat.le_of_ble_eq_true rfl) (fun x hx hG hE hR hT => s_X9_of w hx hG hE hR hT a1 a2 h)
theorem fl_X9_35 : FL RX9 35 9 8 := ⟨by decide, by decide, gw_at 1075 (by decide +kernel) (by decide +kernel), rfl⟩
theorem fl_X9_41 : FL RX9 41 9 10 := ⟨by decide, by decide, gw_at 1077 (by decide +kernel) (by decide +kernel), rfl⟩
theorem fM_9_10 : SM 1 10 = some 7 := rfl
theorem kM_7 : LM 7 = (20, 100) := rfl
def m_X9_feed_L31 : Nat → Int32 → Int32 → Hp → Option (Int32 × Hp)
  | 0, _, _, _ => none
  | n + 1, a1, a3, h => if a3 < 0 then some (gi h 1 8, h) else ck (inb (gi h 1 8) 100) (hb (si h 7 (gi h 1 8).toNatClampNeg ((a1 >>> ((8 * a3) &&& 31)).toInt8.toInt32)) fun h3 => hb (si h3 1 8 ((gi h3 1 8) + 1)) fun h4 => vb (a3 + (-1)) fun v5 => m_X9_feed_L31 n a1 v5 h4)
set_option maxRecDepth 20000 in
set_option maxHeartbeats 4000000 in
theorem s_X9_feed_L31 (w : WT) {x : CT} {l : Launch} (hx : xl x = l) (hG : Gd x cX9_feed 4 RX9) (hE : Ge x (GM w)) (hR : Rm x 2) (hT : Rt x (some .int)) : ∀ (n : Nat) (a1 : Int32) (a3 : Int32) (h : Hp), Sn x 4 (gA (GM w)) (0, 0) (ζM x (GM w) inI) (gW (GM w) h) 31 [(0, .ref (gB (GM w) + 1)), (1, .int a1), (3, .int a3)] [] (m_X9_feed_L31 n a1 a3 h) := by
  intro n
  induction n with
  | zero => intro a1 a3 h; exact s_none
  | succ n ih =>
    intro a1 a3 h
    rw [m_X9_feed_L31]
    refine s_iload_n hG dX9_feed_31 2 rfl rfl ?_
    refine s_if_lt hG dX9_feed_32 (tgt := 67) (by decide) (fun q1 => ?_) (fun q1 => ?_)
    · refine s_aload_n hG dX9_feed_67 0 rfl rfl ?_
      refine s_getI hG hE dX9_feed_68 fl_X9_35 rfl kM_1 ?_
      exact s_iret hG hT dX9_feed_71
    · refine s_aload_n hG dX9_feed_35 0 rfl rfl ?_
      refine s_getS hG hE dX9_feed_36 fl_X9_41 rfl kM_1 fM_9_10 (nzM kM_7) ?_
      refine s_aload_n hG dX9_feed_39 0 rfl rfl ?_
      refine s_getI hG hE dX9_feed_40 fl_X9_35 rfl kM_1 ?_
      refine s_iload_n hG dX9_feed_43 1 rfl rfl ?_
      refine s_bipush hG dX9_feed_44 bc_8 ?_
      refine s_iload_n hG dX9_feed_46 2 rfl rfl ?_
      refine s_imul hG dX9_feed_47 ?_
      refine s_ishr hG dX9_feed_48 ?_
      refine s_i2b hG dX9_feed_49 ?_
      refine s_ck (fun q2 => ?_)
      refine s_iast hG hE dX9_feed_50 kM_7 q2 (fun h3 => ?_)
      refine s_aload_n hG dX9_feed_51 0 rfl rfl ?_
      refine s_dup hG dX9_feed_52 rfl ?_
      refine s_getI hG hE dX9_feed_53 fl_X9_35 rfl kM_1 ?_
      refine s_iconst hG dX9_feed_56 ic_1 ?_
      refine s_iadd hG dX9_feed_57 ?_
      refine s_putI hG hE dX9_feed_58 fl_X9_35 rfl rfl kM_1 (fun h4 => ?_)
      refine s_iinc hG dX9_feed_61 2 rfl ic_m1 (by decide) (fun v5 => [(3, .int v5), (0, .ref (gB (GM w) + 1)), (1, .int a1)]) (fun _ => rfl) (fun v5 => ?_)
      refine s_goto (tgt := 31) hG dX9_feed_64 (by decide) ?_
      refine s_lv [1, 2, 0] rfl ?_
      exact ih a1 v5 h4

def m_X9_feed (a1 : Int32) (a2 : Int32) (h : Hp) : Option (Int32 × Hp) := cb (m_X9_in a2 0 4 h) fun v1 h2 => if v1 = 0 then some ((-2), h2) else if ((gi h2 1 8) + a2) ≤ 100 then vb (a2 - 1) fun v5 => m_X9_feed_L31 FU a1 v5 h2 else some ((-4), h2)
set_option maxRecDepth 20000 in
set_option maxHeartbeats 4000000 in
theorem s_X9_feed (w : WT) {x : CT} {l : Launch} (hx : xl x = l) (hG : Gd x cX9_feed 4 RX9) (hE : Ge x (GM w)) (hR : Rm x 2) (hT : Rt x (some .int)) (a1 : Int32) (a2 : Int32) (h : Hp) : Sn x 4 (gA (GM w)) (0, 0) (ζM x (GM w) inI) (gW (GM w) h) 0 [(0, .ref (gB (GM w) + 1)), (1, .int a1), (2, .int a2)] [] (m_X9_feed a1 a2 h) := by
  unfold m_X9_feed
  refine s_aload_n hG dX9_feed_0 0 rfl rfl ?_
  refine s_iload_n hG dX9_feed_1 2 rfl rfl ?_
  refine s_iconst hG dX9_feed_2 ic_0 ?_
  refine s_iconst hG dX9_feed_3 ic_4 ?_
  refine s_callV (a := 1) (c := 9) (inj := inI) (As := [.int a2, .int 0, .int 4]) (st := []) rfl hG hE dX9_feed_4 hR (by decide) vv_X9_144 (by decide) rfl kM_1 rfl (Nat.le_of_ble_eq_true rfl) rfl (fun zv zh zq => c_X9_in w (xl x) a2 0 4 h zv zh zq) (fun v1 h2 => ?_)
  refine s_if_ne hG dX9_feed_7 (tgt := 13) (by decide) (fun q3 => ?_) (fun q3 => ?_)
  · refine s_bipush hG dX9_feed_10 bc_m2 ?_
    exact s_iret hG hT dX9_feed_12
  · refine s_aload_n hG dX9_feed_13 0 rfl rfl ?_
    refine s_getI hG hE dX9_feed_14 fl_X9_35 rfl kM_1 ?_
    refine s_iload_n hG dX9_feed_17 2 rfl rfl ?_
    refine s_iadd hG dX9_feed_18 ?_
    refine s_bipush hG dX9_feed_19 bc_100 ?_
    refine s_icmp_le hG dX9_feed_21 (tgt := 27) (by decide) (fun q4 => ?_) (fun q4 => ?_)
    · refine s_iload_n hG dX9_feed_27 2 rfl rfl ?_
      refine s_iconst hG dX9_feed_28 ic_1 ?_
      refine s_isub hG dX9_feed_29 ?_
      refine s_vI (fun v5 => ?_)
      refine s_istore_n (lv' := [(3, .int v5), (0, .ref (gB (GM w) + 1)), (1, .int a1), (2, .int a2)]) hG dX9_feed_30 rfl (by decide) rfl ?_
      refine s_lv [1, 2, 0] rfl ?_
      exact s_X9_feed_L31 w hx hG hE hR hT FU a1 v5 h2
    · refine s_bipush hG dX9_feed_24 bc_m4 ?_
      exact s_iret hG hT dX9_feed_26

theorem c_X9_feed (w : WT) (l : Launch) (a1 : Int32) (a2 : Int32) (h : Hp) : ∀ v h', m_X9_feed a1 a2 h = some (v, h') → MetM l (GM w) yX9_feed cX9_feed 4 (some .int) 2 [.ref (gB (GM w) + 1), .int a1, .int a2] h (inI v) h' :=
  met_of (by decide) (lokM w) (Nat.le_of_ble_eq_true rfl) (fun x hx hG hE hR hT => s_X9_feed w hx hG hE hR hT a1 a2 h)
theorem fl_X9_38 : FL RX9 38 9 9 := ⟨by decide, by decide, gw_at 1076 (by decide +kernel) (by decide +kernel), rfl⟩
def m_X9_next (h : Hp) : Option (Int32 × Hp) := if (gi h 1 8) ≤ (gi h 1 9) then some ((-1), h) else ck (inb (gi h 1 9) 100) (some (gi h 7 (gi h 1 9).toNatClampNeg, h))
set_option maxRecDepth 20000 in
set_option maxHeartbeats 4000000 in
theorem s_X9_next (w : WT) {x : CT} {l : Launch} (hx : xl x = l) (hG : Gd x cX9_next 1 RX9) (hE : Ge x (GM w)) (hR : Rm x 1) (hT : Rt x (some .int)) (h : Hp) : Sn x 1 (gA (GM w)) (0, 0) (ζM x (GM w) inI) (gW (GM w) h) 0 [(0, .ref (gB (GM w) + 1))] [] (m_X9_next h) := by
  unfold m_X9_next
  refine s_aload_n hG dX9_next_0 0 rfl rfl ?_
  refine s_getI hG hE dX9_next_1 fl_X9_38 rfl kM_1 ?_
  refine s_aload_n hG dX9_next_4 0 rfl rfl ?_
  refine s_getI hG hE dX9_next_5 fl_X9_35 rfl kM_1 ?_
  refine s_icmp_ge hG dX9_next_8 (tgt := 23) (by decide) (fun q1 => ?_) (fun q1 => ?_)
  · refine s_iconst hG dX9_next_23 ic_m1 ?_
    exact s_iret hG hT dX9_next_24
  · refine s_aload_n hG dX9_next_11 0 rfl rfl ?_
    refine s_getS hG hE dX9_next_12 fl_X9_41 rfl kM_1 fM_9_10 (nzM kM_7) ?_
    refine s_aload_n hG dX9_next_15 0 rfl rfl ?_
    refine s_getI hG hE dX9_next_16 fl_X9_38 rfl kM_1 ?_
    refine s_ck (fun q2 => ?_)
    refine s_iald hG hE dX9_next_19 kM_7 q2 ?_
    refine s_goto (tgt := 24) hG dX9_next_20 (by decide) ?_
    exact s_iret hG hT dX9_next_24

theorem c_X9_next (w : WT) (l : Launch) (h : Hp) : ∀ v h', m_X9_next h = some (v, h') → MetM l (GM w) yX9_next cX9_next 1 (some .int) 1 [.ref (gB (GM w) + 1)] h (inI v) h' :=
  met_of (by decide) (lokM w) (Nat.le_of_ble_eq_true rfl) (fun x hx hG hE hR hT => s_X9_next w hx hG hE hR hT h)
theorem vv_X9_170 : VV RX9 170 yX9_next cX9_next 1 (some .int) 0 := ⟨⟨gw_at 1270 (by decide +kernel) (by decide +kernel), gw_at 1273 (by decide +kernel) (by decide +kernel), gw_at 96 (by decide +kernel) (by decide +kernel), by decide +kernel, by decide⟩, gw_at 1272 (by decide +kernel) (by decide +kernel), gw_at 36 (by decide +kernel) (by decide +kernel)⟩
def m_X9_takes (a1 : Int32) (h : Hp) : Option (Int32 × Hp) := cb (m_X9_next h) fun v1 h2 => if v1 = a1 then hb (si h2 1 9 ((gi h2 1 9) + 1)) fun h4 => some (1, h4) else some (0, h2)
set_option maxRecDepth 20000 in
set_option maxHeartbeats 4000000 in
theorem s_X9_takes (w : WT) {x : CT} {l : Launch} (hx : xl x = l) (hG : Gd x cX9_takes 2 RX9) (hE : Ge x (GM w)) (hR : Rm x 2) (hT : Rt x (some .boolean)) (a1 : Int32) (h : Hp) : Sn x 2 (gA (GM w)) (0, 0) (ζM x (GM w) inI) (gW (GM w) h) 0 [(0, .ref (gB (GM w) + 1)), (1, .int a1)] [] (m_X9_takes a1 h) := by
  unfold m_X9_takes
  refine s_aload_n hG dX9_takes_0 0 rfl rfl ?_
  refine s_callV (a := 1) (c := 9) (inj := inI) (As := []) (st := []) rfl hG hE dX9_takes_1 hR (by decide) vv_X9_170 (by decide) rfl kM_1 rfl (Nat.le_of_ble_eq_true rfl) rfl (fun zv zh zq => c_X9_next w (xl x) h zv zh zq) (fun v1 h2 => ?_)
  refine s_iload_n hG dX9_takes_4 1 rfl rfl ?_
  refine s_icmp_eq hG dX9_takes_5 (tgt := 10) (by decide) (fun q3 => ?_) (fun q3 => ?_)
  · refine s_aload_n hG dX9_takes_10 0 rfl rfl ?_
    refine s_dup hG dX9_takes_11 rfl ?_
    refine s_getI hG hE dX9_takes_12 fl_X9_38 rfl kM_1 ?_
    refine s_iconst hG dX9_takes_15 ic_1 ?_
    refine s_iadd hG dX9_takes_16 ?_
    refine s_putI hG hE dX9_takes_17 fl_X9_38 rfl rfl kM_1 (fun h4 => ?_)
    refine s_iconst hG dX9_takes_20 ic_1 ?_
    exact s_zret hG hT (by decide) dX9_takes_21
  · refine s_iconst hG dX9_takes_8 ic_0 ?_
    exact s_zret hG hT (by decide) dX9_takes_9

theorem c_X9_takes (w : WT) (l : Launch) (a1 : Int32) (h : Hp) : ∀ v h', m_X9_takes a1 h = some (v, h') → MetM l (GM w) yX9_takes cX9_takes 2 (some .boolean) 2 [.ref (gB (GM w) + 1), .int a1] h (inI v) h' :=
  met_of (by decide) (lokM w) (Nat.le_of_ble_eq_true rfl) (fun x hx hG hE hR hT => s_X9_takes w hx hG hE hR hT a1 h)
theorem vv_X9_174 : VV RX9 174 yX9_takes cX9_takes 2 (some .boolean) 1 := ⟨⟨gw_at 1279 (by decide +kernel) (by decide +kernel), gw_at 1282 (by decide +kernel) (by decide +kernel), gw_at 96 (by decide +kernel) (by decide +kernel), by decide +kernel, by decide⟩, gw_at 1281 (by decide +kernel) (by decide +kernel), gw_at 38 (by decide +kernel) (by decide +kernel)⟩
theorem bc_96 : (Int8.ofInt 96).toInt32 = 96 := by decide
def m_X9_takesWord_L4 : Nat → Int32 → Int32 → Hp → Option (Int32 × Hp)
  | 0, _, _, _ => none
  | n + 1, a1, a3, h => if a3 < 0 then cb (m_X9_takes 32 h) fun v2 h3 => ck (isb v2) (some (v2, h3)) else cb (m_X9_takes (96 + ((a1 >>> ((5 * a3) &&& 31)) &&& 31)) h) fun v5 h6 => if v5 = 0 then some (0, h6) else vb (a3 + (-1)) fun v8 => m_X9_takesWord_L4 n a1 v8 h6
set_option maxRecDepth 20000 in
set_option maxHeartbeats 4000000 in
theorem s_X9_takesWord_L4 (w : WT) {x : CT} {l : Launch} (hx : xl x = l) (hG : Gd x cX9_takesWord 4 RX9) (hE : Ge x (GM w)) (hR : Rm x 3) (hT : Rt x (some .boolean)) : ∀ (n : Nat) (a1 : Int32) (a3 : Int32) (h : Hp), Sn x 4 (gA (GM w)) (0, 0) (ζM x (GM w) inI) (gW (GM w) h) 4 [(0, .ref (gB (GM w) + 1)), (1, .int a1), (3, .int a3)] [] (m_X9_takesWord_L4 n a1 a3 h) := by
  intro n
  induction n with
  | zero => intro a1 a3 h; exact s_none
  | succ n ih =>
    intro a1 a3 h
    rw [m_X9_takesWord_L4]
    refine s_iload_n hG dX9_takesWord_4 2 rfl rfl ?_
    refine s_if_lt hG dX9_takesWord_5 (tgt := 34) (by decide) (fun q1 => ?_) (fun q1 => ?_)
    · refine s_aload_n hG dX9_takesWord_34 0 rfl rfl ?_
      refine s_bipush hG dX9_takesWord_35 bc_32 ?_
      refine s_callV (a := 1) (c := 9) (inj := inI) (As := [.int 32]) (st := []) rfl hG hE dX9_takesWord_37 hR (by decide) vv_X9_174 (by decide) rfl kM_1 rfl (Nat.le_of_ble_eq_true rfl) rfl (fun zv zh zq => c_X9_takes w (xl x) 32 h zv zh zq) (fun v2 h3 => ?_)
      refine s_ck (fun q4 => ?_)
      exact s_zret hG hT (isb_cases q4) dX9_takesWord_40
    · refine s_aload_n hG dX9_takesWord_8 0 rfl rfl ?_
      refine s_bipush hG dX9_takesWord_9 bc_96 ?_
      refine s_iload_n hG dX9_takesWord_11 1 rfl rfl ?_
      refine s_iconst hG dX9_takesWord_12 ic_5 ?_
      refine s_iload_n hG dX9_takesWord_13 2 rfl rfl ?_
      refine s_imul hG dX9_takesWord_14 ?_
      refine s_ishr hG dX9_takesWord_15 ?_
      refine s_bipush hG dX9_takesWord_16 bc_31 ?_
      refine s_iand hG dX9_takesWord_18 ?_
      refine s_iadd hG dX9_takesWord_19 ?_
      refine s_callV (a := 1) (c := 9) (inj := inI) (As := [.int (96 + ((a1 >>> ((5 * a3) &&& 31)) &&& 31))]) (st := []) rfl hG hE dX9_takesWord_20 hR (by decide) vv_X9_174 (by decide) rfl kM_1 rfl (Nat.le_of_ble_eq_true rfl) rfl (fun zv zh zq => c_X9_takes w (xl x) (96 + ((a1 >>> ((5 * a3) &&& 31)) &&& 31)) h zv zh zq) (fun v5 h6 => ?_)
      refine s_if_ne hG dX9_takesWord_23 (tgt := 28) (by decide) (fun q7 => ?_) (fun q7 => ?_)
      · refine s_iconst hG dX9_takesWord_26 ic_0 ?_
        exact s_zret hG hT (by decide) dX9_takesWord_27
      · refine s_iinc hG dX9_takesWord_28 2 rfl ic_m1 (by decide) (fun v8 => [(3, .int v8), (0, .ref (gB (GM w) + 1)), (1, .int a1)]) (fun _ => rfl) (fun v8 => ?_)
        refine s_goto (tgt := 4) hG dX9_takesWord_31 (by decide) ?_
        refine s_lv [1, 2, 0] rfl ?_
        exact ih a1 v8 h6

def m_X9_takesWord (a1 : Int32) (a2 : Int32) (h : Hp) : Option (Int32 × Hp) := vb (a2 - 1) fun v1 => m_X9_takesWord_L4 FU a1 v1 h
set_option maxRecDepth 20000 in
set_option maxHeartbeats 4000000 in
theorem s_X9_takesWord (w : WT) {x : CT} {l : Launch} (hx : xl x = l) (hG : Gd x cX9_takesWord 4 RX9) (hE : Ge x (GM w)) (hR : Rm x 3) (hT : Rt x (some .boolean)) (a1 : Int32) (a2 : Int32) (h : Hp) : Sn x 4 (gA (GM w)) (0, 0) (ζM x (GM w) inI) (gW (GM w) h) 0 [(0, .ref (gB (GM w) + 1)), (1, .int a1), (2, .int a2)] [] (m_X9_takesWord a1 a2 h) := by
  unfold m_X9_takesWord
  refine s_iload_n hG dX9_takesWord_0 2 rfl rfl ?_
  refine s_iconst hG dX9_takesWord_1 ic_1 ?_
  refine s_isub hG dX9_takesWord_2 ?_
  refine s_vI (fun v1 => ?_)
  refine s_istore_n (lv' := [(3, .int v1), (0, .ref (gB (GM w) + 1)), (1, .int a1), (2, .int a2)]) hG dX9_takesWord_3 rfl (by decide) rfl ?_
  refine s_lv [1, 2, 0] rfl ?_
  exact s_X9_takesWord_L4 w hx hG hE hR hT FU a1 v1 h

theorem c_X9_takesWord (w : WT) (l : Launch) (a1 : Int32) (a2 : Int32) (h : Hp) : ∀ v h', m_X9_takesWord a1 a2 h = some (v, h') → MetM l (GM w) yX9_takesWord cX9_takesWord 4 (some .boolean) 3 [.ref (gB (GM w) + 1), .int a1, .int a2] h (inI v) h' :=
  met_of (by decide) (lokM w) (Nat.le_of_ble_eq_true rfl) (fun x hx hG hE hR hT => s_X9_takesWord w hx hG hE hR hT a1 a2 h)
def m_X9_isDigit (h : Hp) : Option (Int32 × Hp) := cb (m_X9_next h) fun v1 h2 => cb (m_X9_in v1 48 57 h2) fun v3 h4 => ck (isb v3) (some (v3, h4))
set_option maxRecDepth 20000 in
set_option maxHeartbeats 4000000 in
theorem s_X9_isDigit (w : WT) {x : CT} {l : Launch} (hx : xl x = l) (hG : Gd x cX9_isDigit 1 RX9) (hE : Ge x (GM w)) (hR : Rm x 2) (hT : Rt x (some .boolean)) (h : Hp) : Sn x 1 (gA (GM w)) (0, 0) (ζM x (GM w) inI) (gW (GM w) h) 0 [(0, .ref (gB (GM w) + 1))] [] (m_X9_isDigit h) := by
  unfold m_X9_isDigit
  refine s_aload_n hG dX9_isDigit_0 0 rfl rfl ?_
  refine s_aload_n hG dX9_isDigit_1 0 rfl rfl ?_
  refine s_callV (a := 1) (c := 9) (inj := inI) (As := []) (st := [.ref (gB (GM w) + 1)]) rfl hG hE dX9_isDigit_2 hR (by decide) vv_X9_170 (by decide) rfl kM_1 rfl (Nat.le_of_ble_eq_true rfl) rfl (fun zv zh zq => c_X9_next w (xl x) h zv zh zq) (fun v1 h2 => ?_)
  refine s_bipush hG dX9_isDigit_5 bc_48 ?_
  refine s_bipush hG dX9_isDigit_7 bc_57 ?_
  refine s_callV (a := 1) (c := 9) (inj := inI) (As := [.int v1, .int 48, .int 57]) (st := []) rfl hG hE dX9_isDigit_9 hR (by decide) vv_X9_144 (by decide) rfl kM_1 rfl (Nat.le_of_ble_eq_true rfl) rfl (fun zv zh zq => c_X9_in w (xl x) v1 48 57 h2 zv zh zq) (fun v3 h4 => ?_)
  refine s_ck (fun q5 => ?_)
  exact s_zret hG hT (isb_cases q5) dX9_isDigit_12

theorem c_X9_isDigit (w : WT) (l : Launch) (h : Hp) : ∀ v h', m_X9_isDigit h = some (v, h') → MetM l (GM w) yX9_isDigit cX9_isDigit 1 (some .boolean) 2 [.ref (gB (GM w) + 1)] h (inI v) h' :=
  met_of (by decide) (lokM w) (Nat.le_of_ble_eq_true rfl) (fun x hx hG hE hR hT => s_X9_isDigit w hx hG hE hR hT h)
theorem fl_X9_80 : FL RX9 80 9 23 := ⟨by decide, by decide, gw_at 1090 (by decide +kernel) (by decide +kernel), rfl⟩
theorem vv_X9_177 : VV RX9 177 yX9_isDigit cX9_isDigit 1 (some .boolean) 0 := ⟨⟨gw_at 1299 (by decide +kernel) (by decide +kernel), gw_at 1302 (by decide +kernel) (by decide +kernel), gw_at 96 (by decide +kernel) (by decide +kernel), by decide +kernel, by decide⟩, gw_at 1301 (by decide +kernel) (by decide +kernel), gw_at 43 (by decide +kernel) (by decide +kernel)⟩
def m_X9_takesNumber_L88 (a1 : Int32) (h : Hp) : Option (Int32 × Hp) := if a1 = 0 then some (1, h) else if (gi h 1 23) ≤ 0 then some (0, h) else some (1, h)
set_option maxRecDepth 20000 in
set_option maxHeartbeats 4000000 in
theorem s_X9_takesNumber_L88 (w : WT) {x : CT} {l : Launch} (hx : xl x = l) (hG : Gd x cX9_takesNumber 2 RX9) (hE : Ge x (GM w)) (hR : Rm x 3) (hT : Rt x (some .boolean)) (a1 : Int32) (h : Hp) : Sn x 2 (gA (GM w)) (0, 0) (ζM x (GM w) inI) (gW (GM w) h) 88 [(0, .ref (gB (GM w) + 1)), (1, .int a1)] [] (m_X9_takesNumber_L88 a1 h) := by
  unfold m_X9_takesNumber_L88
  refine s_iload_n hG dX9_takesNumber_88 1 rfl rfl ?_
  refine s_if_eq hG dX9_takesNumber_89 (tgt := 99) (by decide) (fun q1 => ?_) (fun q1 => ?_)
  · refine s_iconst hG dX9_takesNumber_99 ic_1 ?_
    refine s_goto (tgt := 104) hG dX9_takesNumber_100 (by decide) ?_
    exact s_zret hG hT (by decide) dX9_takesNumber_104
  · refine s_aload_n hG dX9_takesNumber_92 0 rfl rfl ?_
    refine s_getI hG hE dX9_takesNumber_93 fl_X9_80 rfl kM_1 ?_
    refine s_if_le hG dX9_takesNumber_96 (tgt := 103) (by decide) (fun q2 => ?_) (fun q2 => ?_)
    · refine s_iconst hG dX9_takesNumber_103 ic_0 ?_
      exact s_zret hG hT (by decide) dX9_takesNumber_104
    · refine s_iconst hG dX9_takesNumber_99 ic_1 ?_
      refine s_goto (tgt := 104) hG dX9_takesNumber_100 (by decide) ?_
      exact s_zret hG hT (by decide) dX9_takesNumber_104

def m_X9_takesNumber_L59 (a1 : Int32) (h : Hp) : Option (Int32 × Hp) := cb (m_X9_next h) fun v1 h2 => hb (si h2 1 23 (((10 * (gi h 1 23)) + v1) - 48)) fun h3 => hb (si h3 1 9 ((gi h3 1 9) + 1)) fun h4 => m_X9_takesNumber_L88 a1 h4
set_option maxRecDepth 20000 in
set_option maxHeartbeats 4000000 in
theorem s_X9_takesNumber_L59 (w : WT) {x : CT} {l : Launch} (hx : xl x = l) (hG : Gd x cX9_takesNumber 2 RX9) (hE : Ge x (GM w)) (hR : Rm x 3) (hT : Rt x (some .boolean)) (a1 : Int32) (h : Hp) : Sn x 2 (gA (GM w)) (0, 0) (ζM x (GM w) inI) (gW (GM w) h) 59 [(0, .ref (gB (GM w) + 1)), (1, .int a1)] [] (m_X9_takesNumber_L59 a1 h) := by
  unfold m_X9_takesNumber_L59
  refine s_aload_n hG dX9_takesNumber_59 0 rfl rfl ?_
  refine s_bipush hG dX9_takesNumber_60 bc_10 ?_
  refine s_aload_n hG dX9_takesNumber_62 0 rfl rfl ?_
  refine s_getI hG hE dX9_takesNumber_63 fl_X9_80 rfl kM_1 ?_
  refine s_imul hG dX9_takesNumber_66 ?_
  refine s_aload_n hG dX9_takesNumber_67 0 rfl rfl ?_
  refine s_callV (a := 1) (c := 9) (inj := inI) (As := []) (st := [.int (10 * (gi h 1 23)), .ref (gB (GM w) + 1)]) rfl hG hE dX9_takesNumber_68 hR (by decide) vv_X9_170 (by decide) rfl kM_1 rfl (Nat.le_of_ble_eq_true rfl) rfl (fun zv zh zq => c_X9_next w (xl x) h zv zh zq) (fun v1 h2 => ?_)
  refine s_iadd hG dX9_takesNumber_71 ?_
  refine s_bipush hG dX9_takesNumber_72 bc_48 ?_
  refine s_isub hG dX9_takesNumber_74 ?_
  refine s_putI hG hE dX9_takesNumber_75 fl_X9_80 rfl rfl kM_1 (fun h3 => ?_)
  refine s_aload_n hG dX9_takesNumber_78 0 rfl rfl ?_
  refine s_dup hG dX9_takesNumber_79 rfl ?_
  refine s_getI hG hE dX9_takesNumber_80 fl_X9_38 rfl kM_1 ?_
  refine s_iconst hG dX9_takesNumber_83 ic_1 ?_
  refine s_iadd hG dX9_takesNumber_84 ?_
  refine s_putI hG hE dX9_takesNumber_85 fl_X9_38 rfl rfl kM_1 (fun h4 => ?_)
  exact s_X9_takesNumber_L88 w hx hG hE hR hT a1 h4

def m_X9_takesNumber (a1 : Int32) (h : Hp) : Option (Int32 × Hp) := cb (m_X9_isDigit h) fun v1 h2 => if v1 = 0 then some (0, h2) else cb (m_X9_next h2) fun v4 h5 => hb (si h5 1 23 (v4 - 48)) fun h6 => hb (si h6 1 9 ((gi h6 1 9) + 1)) fun h7 => cb (m_X9_isDigit h7) fun v8 h9 => if v8 = 0 then m_X9_takesNumber_L88 a1 h9 else if a1 = 0 then m_X9_takesNumber_L59 a1 h9 else if (gi h9 1 23) = 0 then cb (m_X9_next h9) fun v13 h14 => if v13 = 48 then some (0, h14) else m_X9_takesNumber_L59 a1 h14 else m_X9_takesNumber_L59 a1 h9
set_option maxRecDepth 20000 in
set_option maxHeartbeats 4000000 in
theorem s_X9_takesNumber (w : WT) {x : CT} {l : Launch} (hx : xl x = l) (hG : Gd x cX9_takesNumber 2 RX9) (hE : Ge x (GM w)) (hR : Rm x 3) (hT : Rt x (some .boolean)) (a1 : Int32) (h : Hp) : Sn x 2 (gA (GM w)) (0, 0) (ζM x (GM w) inI) (gW (GM w) h) 0 [(0, .ref (gB (GM w) + 1)), (1, .int a1)] [] (m_X9_takesNumber a1 h) := by
  unfold m_X9_takesNumber
  refine s_aload_n hG dX9_takesNumber_0 0 rfl rfl ?_
  refine s_callV (a := 1) (c := 9) (inj := inI) (As := []) (st := []) rfl hG hE dX9_takesNumber_1 hR (by decide) vv_X9_177 (by decide) rfl kM_1 rfl (Nat.le_of_ble_eq_true rfl) rfl (fun zv zh zq => c_X9_isDigit w (xl x) h zv zh zq) (fun v1 h2 => ?_)
  refine s_if_ne hG dX9_takesNumber_4 (tgt := 9) (by decide) (fun q3 => ?_) (fun q3 => ?_)
  · refine s_iconst hG dX9_takesNumber_7 ic_0 ?_
    exact s_zret hG hT (by decide) dX9_takesNumber_8
  · refine s_aload_n hG dX9_takesNumber_9 0 rfl rfl ?_
    refine s_aload_n hG dX9_takesNumber_10 0 rfl rfl ?_
    refine s_callV (a := 1) (c := 9) (inj := inI) (As := []) (st := [.ref (gB (GM w) + 1)]) rfl hG hE dX9_takesNumber_11 hR (by decide) vv_X9_170 (by decide) rfl kM_1 rfl (Nat.le_of_ble_eq_true rfl) rfl (fun zv zh zq => c_X9_next w (xl x) h2 zv zh zq) (fun v4 h5 => ?_)
    refine s_bipush hG dX9_takesNumber_14 bc_48 ?_
    refine s_isub hG dX9_takesNumber_16 ?_
    refine s_putI hG hE dX9_takesNumber_17 fl_X9_80 rfl rfl kM_1 (fun h6 => ?_)
    refine s_aload_n hG dX9_takesNumber_20 0 rfl rfl ?_
    refine s_dup hG dX9_takesNumber_21 rfl ?_
    refine s_getI hG hE dX9_takesNumber_22 fl_X9_38 rfl kM_1 ?_
    refine s_iconst hG dX9_takesNumber_25 ic_1 ?_
    refine s_iadd hG dX9_takesNumber_26 ?_
    refine s_putI hG hE dX9_takesNumber_27 fl_X9_38 rfl rfl kM_1 (fun h7 => ?_)
    refine s_aload_n hG dX9_takesNumber_30 0 rfl rfl ?_
    refine s_callV (a := 1) (c := 9) (inj := inI) (As := []) (st := []) rfl hG hE dX9_takesNumber_31 hR (by decide) vv_X9_177 (by decide) rfl kM_1 rfl (Nat.le_of_ble_eq_true rfl) rfl (fun zv zh zq => c_X9_isDigit w (xl x) h7 zv zh zq) (fun v8 h9 => ?_)
    refine s_if_eq hG dX9_takesNumber_34 (tgt := 88) (by decide) (fun q10 => ?_) (fun q10 => ?_)
    · exact s_X9_takesNumber_L88 w hx hG hE hR hT a1 h9
    · refine s_iload_n hG dX9_takesNumber_37 1 rfl rfl ?_
      refine s_if_eq hG dX9_takesNumber_38 (tgt := 59) (by decide) (fun q11 => ?_) (fun q11 => ?_)
      · exact s_X9_takesNumber_L59 w hx hG hE hR hT a1 h9
      · refine s_aload_n hG dX9_takesNumber_41 0 rfl rfl ?_
        refine s_getI hG hE dX9_takesNumber_42 fl_X9_80 rfl kM_1 ?_
        refine s_if_ne hG dX9_takesNumber_45 (tgt := 59) (by decide) (fun q12 => ?_) (fun q12 => ?_)
        · refine s_aload_n hG dX9_takesNumber_48 0 rfl rfl ?_
          refine s_callV (a := 1) (c := 9) (inj := inI) (As := []) (st := []) rfl hG hE dX9_takesNumber_49 hR (by decide) vv_X9_170 (by decide) rfl kM_1 rfl (Nat.le_of_ble_eq_true rfl) rfl (fun zv zh zq => c_X9_next w (xl x) h9 zv zh zq) (fun v13 h14 => ?_)
          refine s_bipush hG dX9_takesNumber_52 bc_48 ?_
          refine s_icmp_ne hG dX9_takesNumber_54 (tgt := 59) (by decide) (fun q15 => ?_) (fun q15 => ?_)
          · refine s_iconst hG dX9_takesNumber_57 ic_0 ?_
            exact s_zret hG hT (by decide) dX9_takesNumber_58
          · exact s_X9_takesNumber_L59 w hx hG hE hR hT a1 h14
        · exact s_X9_takesNumber_L59 w hx hG hE hR hT a1 h9

theorem c_X9_takesNumber (w : WT) (l : Launch) (a1 : Int32) (h : Hp) : ∀ v h', m_X9_takesNumber a1 h = some (v, h') → MetM l (GM w) yX9_takesNumber cX9_takesNumber 2 (some .boolean) 3 [.ref (gB (GM w) + 1), .int a1] h (inI v) h' :=
  met_of (by decide) (lokM w) (Nat.le_of_ble_eq_true rfl) (fun x hx hG hE hR hT => s_X9_takesNumber w hx hG hE hR hT a1 h)
theorem fl_X9_74 : FL RX9 74 9 21 := ⟨by decide, by decide, gw_at 1088 (by decide +kernel) (by decide +kernel), rfl⟩
theorem fM_9_21 : SM 1 21 = some 18 := rfl
theorem kM_18 : LM 18 = (20, 600) := rfl
theorem fl_X9_77 : FL RX9 77 9 22 := ⟨by decide, by decide, gw_at 1089 (by decide +kernel) (by decide +kernel), rfl⟩
def m_X9_put (a1 : Int32) (h : Hp) : Option (Unit × Hp) := ck (inb (gi h 1 22) 600) (hb (si h 18 (gi h 1 22).toNatClampNeg a1) fun h2 => hb (si h2 1 22 ((gi h2 1 22) + 1)) fun h3 => some ((), h3))
set_option maxRecDepth 20000 in
set_option maxHeartbeats 4000000 in
theorem s_X9_put (w : WT) {x : CT} {l : Launch} (hx : xl x = l) (hG : Gd x cX9_put 2 RX9) (hE : Ge x (GM w)) (hR : Rm x 1) (hT : Rt x none) (a1 : Int32) (h : Hp) : Sn x 2 (gA (GM w)) (0, 0) (ζM x (GM w) inV) (gW (GM w) h) 0 [(0, .ref (gB (GM w) + 1)), (1, .int a1)] [] (m_X9_put a1 h) := by
  unfold m_X9_put
  refine s_aload_n hG dX9_put_0 0 rfl rfl ?_
  refine s_getS hG hE dX9_put_1 fl_X9_74 rfl kM_1 fM_9_21 (nzM kM_18) ?_
  refine s_aload_n hG dX9_put_4 0 rfl rfl ?_
  refine s_getI hG hE dX9_put_5 fl_X9_77 rfl kM_1 ?_
  refine s_iload_n hG dX9_put_8 1 rfl rfl ?_
  refine s_ck (fun q1 => ?_)
  refine s_iast hG hE dX9_put_9 kM_18 q1 (fun h2 => ?_)
  refine s_aload_n hG dX9_put_10 0 rfl rfl ?_
  refine s_dup hG dX9_put_11 rfl ?_
  refine s_getI hG hE dX9_put_12 fl_X9_77 rfl kM_1 ?_
  refine s_iconst hG dX9_put_15 ic_1 ?_
  refine s_iadd hG dX9_put_16 ?_
  refine s_putI hG hE dX9_put_17 fl_X9_77 rfl rfl kM_1 (fun h3 => ?_)
  exact s_vret hG hT dX9_put_20

theorem c_X9_put (w : WT) (l : Launch) (a1 : Int32) (h : Hp) : ∀ v h', m_X9_put a1 h = some (v, h') → MetM l (GM w) yX9_put cX9_put 2 none 1 [.ref (gB (GM w) + 1), .int a1] h (inV v) h' :=
  met_of (by decide) (lokM w) (Nat.le_of_ble_eq_true rfl) (fun x hx hG hE hR hT => s_X9_put w hx hG hE hR hT a1 h)
theorem fl_X9_86 : FL RX9 86 9 25 := ⟨by decide, by decide, gw_at 1092 (by decide +kernel) (by decide +kernel), rfl⟩
theorem fl_X9_83 : FL RX9 83 9 24 := ⟨by decide, by decide, gw_at 1091 (by decide +kernel) (by decide +kernel), rfl⟩
theorem fM_9_24 : SM 1 24 = some 19 := rfl
theorem kM_19 : LM 19 = (20, 101) := rfl
theorem bc_m33 : (Int8.ofInt (-33)).toInt32 = (-33) := by decide
theorem vv_X9_181 : VV RX9 181 yX9_put cX9_put 2 none 1 := ⟨⟨gw_at 1303 (by decide +kernel) (by decide +kernel), gw_at 1306 (by decide +kernel) (by decide +kernel), gw_at 96 (by decide +kernel) (by decide +kernel), by decide +kernel, by decide⟩, gw_at 1305 (by decide +kernel) (by decide +kernel), gw_at 44 (by decide +kernel) (by decide +kernel)⟩
theorem fl_X9_89 : FL RX9 89 9 26 := ⟨by decide, by decide, gw_at 1093 (by decide +kernel) (by decide +kernel), rfl⟩
def m_X9_whole_L0 : Nat → Hp → Option (Unit × Hp)
  | 0, _ => none
  | n + 1, h => if (gi h 1 25) ≤ 0 then some ((), h) else ck (inb ((gi h 1 25) - 1) 101) (if (gi h 19 ((gi h 1 25) - 1).toNatClampNeg) = 33 then cb (m_X9_put (-33) h) fun _ h5 => hb (si h5 1 25 ((gi h5 1 25) - 1)) fun h6 => hb (si h6 1 26 ((gi h6 1 26) - 1)) fun h7 => m_X9_whole_L0 n h7 else some ((), h))
set_option maxRecDepth 20000 in
set_option maxHeartbeats 4000000 in
theorem s_X9_whole_L0 (w : WT) {x : CT} {l : Launch} (hx : xl x = l) (hG : Gd x cX9_whole 1 RX9) (hE : Ge x (GM w)) (hR : Rm x 2) (hT : Rt x none) : ∀ (n : Nat) (h : Hp), Sn x 1 (gA (GM w)) (0, 0) (ζM x (GM w) inV) (gW (GM w) h) 0 [(0, .ref (gB (GM w) + 1))] [] (m_X9_whole_L0 n h) := by
  intro n
  induction n with
  | zero => intro h; exact s_none
  | succ n ih =>
    intro h
    rw [m_X9_whole_L0]
    refine s_aload_n hG dX9_whole_0 0 rfl rfl ?_
    refine s_getI hG hE dX9_whole_1 fl_X9_86 rfl kM_1 ?_
    refine s_if_le hG dX9_whole_4 (tgt := 52) (by decide) (fun q1 => ?_) (fun q1 => ?_)
    · exact s_vret hG hT dX9_whole_52
    · refine s_aload_n hG dX9_whole_7 0 rfl rfl ?_
      refine s_getS hG hE dX9_whole_8 fl_X9_83 rfl kM_1 fM_9_24 (nzM kM_19) ?_
      refine s_aload_n hG dX9_whole_11 0 rfl rfl ?_
      refine s_getI hG hE dX9_whole_12 fl_X9_86 rfl kM_1 ?_
      refine s_iconst hG dX9_whole_15 ic_1 ?_
      refine s_isub hG dX9_whole_16 ?_
      refine s_ck (fun q2 => ?_)
      refine s_iald hG hE dX9_whole_17 kM_19 q2 ?_
      refine s_bipush hG dX9_whole_18 bc_33 ?_
      refine s_icmp_ne hG dX9_whole_20 (tgt := 52) (by decide) (fun q3 => ?_) (fun q3 => ?_)
      · refine s_aload_n hG dX9_whole_23 0 rfl rfl ?_
        refine s_bipush hG dX9_whole_24 bc_m33 ?_
        refine s_callV (a := 1) (c := 9) (inj := inV) (As := [.int (-33)]) (st := []) rfl hG hE dX9_whole_26 hR (by decide) vv_X9_181 (by decide) rfl kM_1 rfl (Nat.le_of_ble_eq_true rfl) rfl (fun zv zh zq => c_X9_put w (xl x) (-33) h zv zh zq) (fun v4 h5 => ?_)
        refine s_aload_n hG dX9_whole_29 0 rfl rfl ?_
        refine s_dup hG dX9_whole_30 rfl ?_
        refine s_getI hG hE dX9_whole_31 fl_X9_86 rfl kM_1 ?_
        refine s_iconst hG dX9_whole_34 ic_1 ?_
        refine s_isub hG dX9_whole_35 ?_
        refine s_putI hG hE dX9_whole_36 fl_X9_86 rfl rfl kM_1 (fun h6 => ?_)
        refine s_aload_n hG dX9_whole_39 0 rfl rfl ?_
        refine s_dup hG dX9_whole_40 rfl ?_
        refine s_getI hG hE dX9_whole_41 fl_X9_89 rfl kM_1 ?_
        refine s_iconst hG dX9_whole_44 ic_1 ?_
        refine s_isub hG dX9_whole_45 ?_
        refine s_putI hG hE dX9_whole_46 fl_X9_89 rfl rfl kM_1 (fun h7 => ?_)
        refine s_goto (tgt := 0) hG dX9_whole_49 (by decide) ?_
        exact ih h7
      · exact s_vret hG hT dX9_whole_52

def m_X9_whole (h : Hp) : Option (Unit × Hp) := m_X9_whole_L0 FU h
theorem s_X9_whole (w : WT) {x : CT} {l : Launch} (hx : xl x = l) (hG : Gd x cX9_whole 1 RX9) (hE : Ge x (GM w)) (hR : Rm x 2) (hT : Rt x none) (h : Hp) : Sn x 1 (gA (GM w)) (0, 0) (ζM x (GM w) inV) (gW (GM w) h) 0 [(0, .ref (gB (GM w) + 1))] [] (m_X9_whole h) := by
  unfold m_X9_whole
  exact s_X9_whole_L0 w hx hG hE hR hT FU h

theorem c_X9_whole (w : WT) (l : Launch) (h : Hp) : ∀ v h', m_X9_whole h = some (v, h') → MetM l (GM w) yX9_whole cX9_whole 1 none 2 [.ref (gB (GM w) + 1)] h (inV v) h' :=
  met_of (by decide) (lokM w) (Nat.le_of_ble_eq_true rfl) (fun x hx hG hE hR hT => s_X9_whole w hx hG hE hR hT h)
def m_X9_settle_L45 (k0 : Int32 → Hp → Option (Unit × Hp)) (a1 : Int32) (h : Hp) : Option (Unit × Hp) := hb (si h 1 25 ((gi h 1 25) - 1)) fun h1 => ck (inb (gi h1 1 25) 101) (cb (m_X9_put (-(gi h1 19 (gi h1 1 25).toNatClampNeg)) h1) fun _ h4 => k0 a1 h4)
set_option maxRecDepth 20000 in
set_option maxHeartbeats 4000000 in
theorem s_X9_settle_L45 (w : WT) {x : CT} {l : Launch} (hx : xl x = l) (hG : Gd x cX9_settle 2 RX9) (hE : Ge x (GM w)) (hR : Rm x 2) (hT : Rt x none) (k0 : Int32 → Hp → Option (Unit × Hp)) (hk0 : ∀ (a1 : Int32) (h : Hp), Sn x 2 (gA (GM w)) (0, 0) (ζM x (GM w) inV) (gW (GM w) h) 0 [(0, .ref (gB (GM w) + 1)), (1, .int a1)] [] (k0 a1 h)) (a1 : Int32) (h : Hp) : Sn x 2 (gA (GM w)) (0, 0) (ζM x (GM w) inV) (gW (GM w) h) 45 [(0, .ref (gB (GM w) + 1)), (1, .int a1)] [] (m_X9_settle_L45 k0 a1 h) := by
  unfold m_X9_settle_L45
  refine s_aload_n hG dX9_settle_45 0 rfl rfl ?_
  refine s_dup hG dX9_settle_46 rfl ?_
  refine s_getI hG hE dX9_settle_47 fl_X9_86 rfl kM_1 ?_
  refine s_iconst hG dX9_settle_50 ic_1 ?_
  refine s_isub hG dX9_settle_51 ?_
  refine s_putI hG hE dX9_settle_52 fl_X9_86 rfl rfl kM_1 (fun h1 => ?_)
  refine s_aload_n hG dX9_settle_55 0 rfl rfl ?_
  refine s_aload_n hG dX9_settle_56 0 rfl rfl ?_
  refine s_getS hG hE dX9_settle_57 fl_X9_83 rfl kM_1 fM_9_24 (nzM kM_19) ?_
  refine s_aload_n hG dX9_settle_60 0 rfl rfl ?_
  refine s_getI hG hE dX9_settle_61 fl_X9_86 rfl kM_1 ?_
  refine s_ck (fun q2 => ?_)
  refine s_iald hG hE dX9_settle_64 kM_19 q2 ?_
  refine s_ineg hG dX9_settle_65 ?_
  refine s_callV (a := 1) (c := 9) (inj := inV) (As := [.int (-(gi h1 19 (gi h1 1 25).toNatClampNeg))]) (st := []) rfl hG hE dX9_settle_66 hR (by decide) vv_X9_181 (by decide) rfl kM_1 rfl (Nat.le_of_ble_eq_true rfl) rfl (fun zv zh zq => c_X9_put w (xl x) (-(gi h1 19 (gi h1 1 25).toNatClampNeg)) h1 zv zh zq) (fun v3 h4 => ?_)
  refine s_goto (tgt := 0) hG dX9_settle_69 (by decide) ?_
  exact hk0 a1 h4

def m_X9_settle_L0 : Nat → Int32 → Hp → Option (Unit × Hp)
  | 0, _, _ => none
  | n + 1, a1, h => if (gi h 1 25) ≤ 0 then some ((), h) else ck (inb ((gi h 1 25) - 1) 101) (if (gi h 19 ((gi h 1 25) - 1).toNatClampNeg) = 38 then m_X9_settle_L45 (m_X9_settle_L0 n) a1 h else if (gi h 19 ((gi h 1 25) - 1).toNatClampNeg) = 124 then if a1 = 38 then some ((), h) else m_X9_settle_L45 (m_X9_settle_L0 n) a1 h else some ((), h))
set_option maxRecDepth 20000 in
set_option maxHeartbeats 4000000 in
theorem s_X9_settle_L0 (w : WT) {x : CT} {l : Launch} (hx : xl x = l) (hG : Gd x cX9_settle 2 RX9) (hE : Ge x (GM w)) (hR : Rm x 2) (hT : Rt x none) : ∀ (n : Nat) (a1 : Int32) (h : Hp), Sn x 2 (gA (GM w)) (0, 0) (ζM x (GM w) inV) (gW (GM w) h) 0 [(0, .ref (gB (GM w) + 1)), (1, .int a1)] [] (m_X9_settle_L0 n a1 h) := by
  intro n
  induction n with
  | zero => intro a1 h; exact s_none
  | succ n ih =>
    intro a1 h
    rw [m_X9_settle_L0]
    refine s_aload_n hG dX9_settle_0 0 rfl rfl ?_
    refine s_getI hG hE dX9_settle_1 fl_X9_86 rfl kM_1 ?_
    refine s_if_le hG dX9_settle_4 (tgt := 72) (by decide) (fun q1 => ?_) (fun q1 => ?_)
    · exact s_vret hG hT dX9_settle_72
    · refine s_aload_n hG dX9_settle_7 0 rfl rfl ?_
      refine s_getS hG hE dX9_settle_8 fl_X9_83 rfl kM_1 fM_9_24 (nzM kM_19) ?_
      refine s_aload_n hG dX9_settle_11 0 rfl rfl ?_
      refine s_getI hG hE dX9_settle_12 fl_X9_86 rfl kM_1 ?_
      refine s_iconst hG dX9_settle_15 ic_1 ?_
      refine s_isub hG dX9_settle_16 ?_
      refine s_ck (fun q2 => ?_)
      refine s_iald hG hE dX9_settle_17 kM_19 q2 ?_
      refine s_bipush hG dX9_settle_18 bc_38 ?_
      refine s_icmp_eq hG dX9_settle_20 (tgt := 45) (by decide) (fun q3 => ?_) (fun q3 => ?_)
      · exact s_X9_settle_L45 w hx hG hE hR hT (m_X9_settle_L0 n) ih a1 h
      · refine s_aload_n hG dX9_settle_23 0 rfl rfl ?_
        refine s_getS hG hE dX9_settle_24 fl_X9_83 rfl kM_1 fM_9_24 (nzM kM_19) ?_
        refine s_aload_n hG dX9_settle_27 0 rfl rfl ?_
        refine s_getI hG hE dX9_settle_28 fl_X9_86 rfl kM_1 ?_
        refine s_iconst hG dX9_settle_31 ic_1 ?_
        refine s_isub hG dX9_settle_32 ?_
        refine s_iald hG hE dX9_settle_33 kM_19 q2 ?_
        refine s_bipush hG dX9_settle_34 bc_124 ?_
        refine s_icmp_ne hG dX9_settle_36 (tgt := 72) (by decide) (fun q4 => ?_) (fun q4 => ?_)
        · refine s_iload_n hG dX9_settle_39 1 rfl rfl ?_
          refine s_bipush hG dX9_settle_40 bc_38 ?_
          refine s_icmp_eq hG dX9_settle_42 (tgt := 72) (by decide) (fun q5 => ?_) (fun q5 => ?_)
          · exact s_vret hG hT dX9_settle_72
          · exact s_X9_settle_L45 w hx hG hE hR hT (m_X9_settle_L0 n) ih a1 h
        · exact s_vret hG hT dX9_settle_72

def m_X9_settle (a1 : Int32) (h : Hp) : Option (Unit × Hp) := m_X9_settle_L0 FU a1 h
theorem s_X9_settle (w : WT) {x : CT} {l : Launch} (hx : xl x = l) (hG : Gd x cX9_settle 2 RX9) (hE : Ge x (GM w)) (hR : Rm x 2) (hT : Rt x none) (a1 : Int32) (h : Hp) : Sn x 2 (gA (GM w)) (0, 0) (ζM x (GM w) inV) (gW (GM w) h) 0 [(0, .ref (gB (GM w) + 1)), (1, .int a1)] [] (m_X9_settle a1 h) := by
  unfold m_X9_settle
  exact s_X9_settle_L0 w hx hG hE hR hT FU a1 h

theorem c_X9_settle (w : WT) (l : Launch) (a1 : Int32) (h : Hp) : ∀ v h', m_X9_settle a1 h = some (v, h') → MetM l (GM w) yX9_settle cX9_settle 2 none 2 [.ref (gB (GM w) + 1), .int a1] h (inV v) h' :=
  met_of (by decide) (lokM w) (Nat.le_of_ble_eq_true rfl) (fun x hx hG hE hR hT => s_X9_settle w hx hG hE hR hT a1 h)
def m_X9_letter (a1 : Int32) (h : Hp) : Option (Int32 × Hp) := if a1 = 97 then some (0, h) else if a1 = 98 then some (7, h) else if a1 = 99 then some ((-1), h) else if a1 = 100 then some ((-1), h) else if a1 = 101 then some ((-1), h) else if a1 = 102 then some ((-1), h) else if a1 = 103 then some ((-1), h) else if a1 = 104 then some (8, h) else if a1 = 105 then some ((-1), h) else if a1 = 106 then some ((-1), h) else if a1 = 107 then some ((-1), h) else if a1 = 108 then some ((-1), h) else if a1 = 109 then some ((-1), h) else if a1 = 110 then some ((-1), h) else if a1 = 111 then some (2, h) else if a1 = 112 then some ((-1), h) else if a1 = 113 then some (9, h) else if a1 = 114 then some ((-1), h) else if a1 = 115 then some (4, h) else if a1 = 116 then some ((-1), h) else if a1 = 117 then some (5, h) else if a1 = 118 then some ((-1), h) else if a1 = 119 then some (3, h) else if a1 = 120 then some (6, h) else if a1 = 121 then some (1, h) else some ((-1), h)
set_option maxRecDepth 20000 in
set_option maxHeartbeats 4000000 in
theorem s_X9_letter (w : WT) {x : CT} {l : Launch} (hx : xl x = l) (hG : Gd x cX9_letter 2 RX9) (hE : Ge x (GM w)) (hR : Rm x 1) (hT : Rt x (some .int)) (a1 : Int32) (h : Hp) : Sn x 2 (gA (GM w)) (0, 0) (ζM x (GM w) inI) (gW (GM w) h) 0 [(0, .ref (gB (GM w) + 1)), (1, .int a1)] [] (m_X9_letter a1 h) := by
  unfold m_X9_letter
  refine s_iload_n hG dX9_letter_0 1 rfl rfl ?_
  refine s_tsw (off := 115) hG dX9_letter_1 97 (by decide) (tgt := 116) (by decide) (fun q1 => ?_) (fun q1 => ?_)
  · refine s_iconst hG dX9_letter_116 ic_0 ?_
    exact s_iret hG hT dX9_letter_117
  · refine s_tsw (off := 130) hG dX9_letter_1 98 (by decide) (tgt := 131) (by decide) (fun q2 => ?_) (fun q2 => ?_)
    · refine s_bipush hG dX9_letter_131 bc_7 ?_
      exact s_iret hG hT dX9_letter_133
    · refine s_tsw (off := 139) hG dX9_letter_1 99 (by decide) (tgt := 140) (by decide) (fun q3 => ?_) (fun q3 => ?_)
      · refine s_iconst hG dX9_letter_140 ic_m1 ?_
        exact s_iret hG hT dX9_letter_141
      · refine s_tsw (off := 139) hG dX9_letter_1 100 (by decide) (tgt := 140) (by decide) (fun q4 => ?_) (fun q4 => ?_)
        · refine s_iconst hG dX9_letter_140 ic_m1 ?_
          exact s_iret hG hT dX9_letter_141
        · refine s_tsw (off := 139) hG dX9_letter_1 101 (by decide) (tgt := 140) (by decide) (fun q5 => ?_) (fun q5 => ?_)
          · refine s_iconst hG dX9_letter_140 ic_m1 ?_
            exact s_iret hG hT dX9_letter_141
          · refine s_tsw (off := 139) hG dX9_letter_1 102 (by decide) (tgt := 140) (by decide) (fun q6 => ?_) (fun q6 => ?_)
            · refine s_iconst hG dX9_letter_140 ic_m1 ?_
              exact s_iret hG hT dX9_letter_141
            · refine s_tsw (off := 139) hG dX9_letter_1 103 (by decide) (tgt := 140) (by decide) (fun q7 => ?_) (fun q7 => ?_)
              · refine s_iconst hG dX9_letter_140 ic_m1 ?_
                exact s_iret hG hT dX9_letter_141
              · refine s_tsw (off := 133) hG dX9_letter_1 104 (by decide) (tgt := 134) (by decide) (fun q8 => ?_) (fun q8 => ?_)
                · refine s_bipush hG dX9_letter_134 bc_8 ?_
                  exact s_iret hG hT dX9_letter_136
                · refine s_tsw (off := 139) hG dX9_letter_1 105 (by decide) (tgt := 140) (by decide) (fun q9 => ?_) (fun q9 => ?_)
                  · refine s_iconst hG dX9_letter_140 ic_m1 ?_
                    exact s_iret hG hT dX9_letter_141
                  · refine s_tsw (off := 139) hG dX9_letter_1 106 (by decide) (tgt := 140) (by decide) (fun q10 => ?_) (fun q10 => ?_)
                    · refine s_iconst hG dX9_letter_140 ic_m1 ?_
                      exact s_iret hG hT dX9_letter_141
                    · refine s_tsw (off := 139) hG dX9_letter_1 107 (by decide) (tgt := 140) (by decide) (fun q11 => ?_) (fun q11 => ?_)
                      · refine s_iconst hG dX9_letter_140 ic_m1 ?_
                        exact s_iret hG hT dX9_letter_141
                      · refine s_tsw (off := 139) hG dX9_letter_1 108 (by decide) (tgt := 140) (by decide) (fun q12 => ?_) (fun q12 => ?_)
                        · refine s_iconst hG dX9_letter_140 ic_m1 ?_
                          exact s_iret hG hT dX9_letter_141
                        · refine s_tsw (off := 139) hG dX9_letter_1 109 (by decide) (tgt := 140) (by decide) (fun q13 => ?_) (fun q13 => ?_)
                          · refine s_iconst hG dX9_letter_140 ic_m1 ?_
                            exact s_iret hG hT dX9_letter_141
                          · refine s_tsw (off := 139) hG dX9_letter_1 110 (by decide) (tgt := 140) (by decide) (fun q14 => ?_) (fun q14 => ?_)
                            · refine s_iconst hG dX9_letter_140 ic_m1 ?_
                              exact s_iret hG hT dX9_letter_141
                            · refine s_tsw (off := 119) hG dX9_letter_1 111 (by decide) (tgt := 120) (by decide) (fun q15 => ?_) (fun q15 => ?_)
                              · refine s_iconst hG dX9_letter_120 ic_2 ?_
                                exact s_iret hG hT dX9_letter_121
                              · refine s_tsw (off := 139) hG dX9_letter_1 112 (by decide) (tgt := 140) (by decide) (fun q16 => ?_) (fun q16 => ?_)
                                · refine s_iconst hG dX9_letter_140 ic_m1 ?_
                                  exact s_iret hG hT dX9_letter_141
                                · refine s_tsw (off := 136) hG dX9_letter_1 113 (by decide) (tgt := 137) (by decide) (fun q17 => ?_) (fun q17 => ?_)
                                  · refine s_bipush hG dX9_letter_137 bc_9 ?_
                                    exact s_iret hG hT dX9_letter_139
                                  · refine s_tsw (off := 139) hG dX9_letter_1 114 (by decide) (tgt := 140) (by decide) (fun q18 => ?_) (fun q18 => ?_)
                                    · refine s_iconst hG dX9_letter_140 ic_m1 ?_
                                      exact s_iret hG hT dX9_letter_141
                                    · refine s_tsw (off := 123) hG dX9_letter_1 115 (by decide) (tgt := 124) (by decide) (fun q19 => ?_) (fun q19 => ?_)
                                      · refine s_iconst hG dX9_letter_124 ic_4 ?_
                                        exact s_iret hG hT dX9_letter_125
                                      · refine s_tsw (off := 139) hG dX9_letter_1 116 (by decide) (tgt := 140) (by decide) (fun q20 => ?_) (fun q20 => ?_)
                                        · refine s_iconst hG dX9_letter_140 ic_m1 ?_
                                          exact s_iret hG hT dX9_letter_141
                                        · refine s_tsw (off := 125) hG dX9_letter_1 117 (by decide) (tgt := 126) (by decide) (fun q21 => ?_) (fun q21 => ?_)
                                          · refine s_iconst hG dX9_letter_126 ic_5 ?_
                                            exact s_iret hG hT dX9_letter_127
                                          · refine s_tsw (off := 139) hG dX9_letter_1 118 (by decide) (tgt := 140) (by decide) (fun q22 => ?_) (fun q22 => ?_)
                                            · refine s_iconst hG dX9_letter_140 ic_m1 ?_
                                              exact s_iret hG hT dX9_letter_141
                                            · refine s_tsw (off := 121) hG dX9_letter_1 119 (by decide) (tgt := 122) (by decide) (fun q23 => ?_) (fun q23 => ?_)
                                              · refine s_iconst hG dX9_letter_122 ic_3 ?_
                                                exact s_iret hG hT dX9_letter_123
                                              · refine s_tsw (off := 127) hG dX9_letter_1 120 (by decide) (tgt := 128) (by decide) (fun q24 => ?_) (fun q24 => ?_)
                                                · refine s_bipush hG dX9_letter_128 bc_6 ?_
                                                  exact s_iret hG hT dX9_letter_130
                                                · refine s_tsw (off := 117) hG dX9_letter_1 121 (by decide) (tgt := 118) (by decide) (fun q25 => ?_) (fun q25 => ?_)
                                                  · refine s_iconst hG dX9_letter_118 ic_1 ?_
                                                    exact s_iret hG hT dX9_letter_119
                                                  · refine s_tswD (tgt := 140) hG dX9_letter_1 (by decide) (by have zq1 := lv_neT q1 (show (97 : Int32).toInt = 97 by decide); have zq2 := lv_neT q2 (show (98 : Int32).toInt = 98 by decide); have zq3 := lv_neT q3 (show (99 : Int32).toInt = 99 by decide); have zq4 := lv_neT q4 (show (100 : Int32).toInt = 100 by decide); have zq5 := lv_neT q5 (show (101 : Int32).toInt = 101 by decide); have zq6 := lv_neT q6 (show (102 : Int32).toInt = 102 by decide); have zq7 := lv_neT q7 (show (103 : Int32).toInt = 103 by decide); have zq8 := lv_neT q8 (show (104 : Int32).toInt = 104 by decide); have zq9 := lv_neT q9 (show (105 : Int32).toInt = 105 by decide); have zq10 := lv_neT q10 (show (106 : Int32).toInt = 106 by decide); have zq11 := lv_neT q11 (show (107 : Int32).toInt = 107 by decide); have zq12 := lv_neT q12 (show (108 : Int32).toInt = 108 by decide); have zq13 := lv_neT q13 (show (109 : Int32).toInt = 109 by decide); have zq14 := lv_neT q14 (show (110 : Int32).toInt = 110 by decide); have zq15 := lv_neT q15 (show (111 : Int32).toInt = 111 by decide); have zq16 := lv_neT q16 (show (112 : Int32).toInt = 112 by decide); have zq17 := lv_neT q17 (show (113 : Int32).toInt = 113 by decide); have zq18 := lv_neT q18 (show (114 : Int32).toInt = 114 by decide); have zq19 := lv_neT q19 (show (115 : Int32).toInt = 115 by decide); have zq20 := lv_neT q20 (show (116 : Int32).toInt = 116 by decide); have zq21 := lv_neT q21 (show (117 : Int32).toInt = 117 by decide); have zq22 := lv_neT q22 (show (118 : Int32).toInt = 118 by decide); have zq23 := lv_neT q23 (show (119 : Int32).toInt = 119 by decide); have zq24 := lv_neT q24 (show (120 : Int32).toInt = 120 by decide); have zq25 := lv_neT q25 (show (121 : Int32).toInt = 121 by decide); omega) ?_
                                                    refine s_iconst hG dX9_letter_140 ic_m1 ?_
                                                    exact s_iret hG hT dX9_letter_141

theorem c_X9_letter (w : WT) (l : Launch) (a1 : Int32) (h : Hp) : ∀ v h', m_X9_letter a1 h = some (v, h') → MetM l (GM w) yX9_letter cX9_letter 2 (some .int) 1 [.ref (gB (GM w) + 1), .int a1] h (inI v) h' :=
  met_of (by decide) (lokM w) (Nat.le_of_ble_eq_true rfl) (fun x hx hG hE hR hT => s_X9_letter w hx hG hE hR hT a1 h)
theorem vv_X9_185 : VV RX9 185 yX9_letter cX9_letter 2 (some .int) 1 := ⟨⟨gw_at 1291 (by decide +kernel) (by decide +kernel), gw_at 1294 (by decide +kernel) (by decide +kernel), gw_at 96 (by decide +kernel) (by decide +kernel), by decide +kernel, by decide⟩, gw_at 1293 (by decide +kernel) (by decide +kernel), gw_at 41 (by decide +kernel) (by decide +kernel)⟩
theorem bc_62 : (Int8.ofInt 62).toInt32 = 62 := by decide
theorem vv_X9_188 : VV RX9 188 yX9_takesNumber cX9_takesNumber 2 (some .boolean) 1 := ⟨⟨gw_at 1295 (by decide +kernel) (by decide +kernel), gw_at 1298 (by decide +kernel) (by decide +kernel), gw_at 96 (by decide +kernel) (by decide +kernel), by decide +kernel, by decide⟩, gw_at 1297 (by decide +kernel) (by decide +kernel), gw_at 42 (by decide +kernel) (by decide +kernel)⟩
theorem sc_10000 : (Int16.ofInt 10000).toInt32 = 10000 := by decide
theorem vv_X9_192 : VV RX9 192 yX9_whole cX9_whole 1 none 0 := ⟨⟨gw_at 1307 (by decide +kernel) (by decide +kernel), gw_at 1310 (by decide +kernel) (by decide +kernel), gw_at 96 (by decide +kernel) (by decide +kernel), by decide +kernel, by decide⟩, gw_at 1309 (by decide +kernel) (by decide +kernel), gw_at 45 (by decide +kernel) (by decide +kernel)⟩
def m_X9_takesTest (h : Hp) : Option (Int32 × Hp) := cb (m_X9_next h) fun v1 h2 => cb (m_X9_letter v1 h2) fun v3 h4 => if 0 ≤ v3 then hb (si h4 1 9 ((gi h4 1 9) + 1)) fun h6 => cb (m_X9_next h6) fun v7 h8 => cb (m_X9_in v7 60 62 h8) fun v9 h10 => if v9 = 0 then some (0, h10) else hb (si h10 1 9 ((gi h10 1 9) + 1)) fun h12 => cb (m_X9_takesNumber 0 h12) fun v13 h14 => if v13 = 0 then some (0, h14) else cb (m_X9_put (((10000 * v3) + (100 * v7)) + (gi h14 1 23)) h14) fun _ h17 => cb (m_X9_whole h17) fun _ h19 => some (1, h19) else some (0, h4)
set_option maxRecDepth 20000 in
set_option maxHeartbeats 4000000 in
theorem s_X9_takesTest (w : WT) {x : CT} {l : Launch} (hx : xl x = l) (hG : Gd x cX9_takesTest 3 RX9) (hE : Ge x (GM w)) (hR : Rm x 4) (hT : Rt x (some .boolean)) (h : Hp) : Sn x 3 (gA (GM w)) (0, 0) (ζM x (GM w) inI) (gW (GM w) h) 0 [(0, .ref (gB (GM w) + 1))] [] (m_X9_takesTest h) := by
  unfold m_X9_takesTest
  refine s_aload_n hG dX9_takesTest_0 0 rfl rfl ?_
  refine s_aload_n hG dX9_takesTest_1 0 rfl rfl ?_
  refine s_callV (a := 1) (c := 9) (inj := inI) (As := []) (st := [.ref (gB (GM w) + 1)]) rfl hG hE dX9_takesTest_2 hR (by decide) vv_X9_170 (by decide) rfl kM_1 rfl (Nat.le_of_ble_eq_true rfl) rfl (fun zv zh zq => c_X9_next w (xl x) h zv zh zq) (fun v1 h2 => ?_)
  refine s_callV (a := 1) (c := 9) (inj := inI) (As := [.int v1]) (st := []) rfl hG hE dX9_takesTest_5 hR (by decide) vv_X9_185 (by decide) rfl kM_1 rfl (Nat.le_of_ble_eq_true rfl) rfl (fun zv zh zq => c_X9_letter w (xl x) v1 h2 zv zh zq) (fun v3 h4 => ?_)
  refine s_istore_n (lv' := [(1, .int v3), (0, .ref (gB (GM w) + 1))]) hG dX9_takesTest_8 rfl (by decide) rfl ?_
  refine s_iload_n hG dX9_takesTest_9 0 rfl rfl ?_
  refine s_if_ge hG dX9_takesTest_10 (tgt := 15) (by decide) (fun q5 => ?_) (fun q5 => ?_)
  · refine s_aload_n hG dX9_takesTest_15 1 rfl rfl ?_
    refine s_dup hG dX9_takesTest_16 rfl ?_
    refine s_getI hG hE dX9_takesTest_17 fl_X9_38 rfl kM_1 ?_
    refine s_iconst hG dX9_takesTest_20 ic_1 ?_
    refine s_iadd hG dX9_takesTest_21 ?_
    refine s_putI hG hE dX9_takesTest_22 fl_X9_38 rfl rfl kM_1 (fun h6 => ?_)
    refine s_aload_n hG dX9_takesTest_25 1 rfl rfl ?_
    refine s_callV (a := 1) (c := 9) (inj := inI) (As := []) (st := []) rfl hG hE dX9_takesTest_26 hR (by decide) vv_X9_170 (by decide) rfl kM_1 rfl (Nat.le_of_ble_eq_true rfl) rfl (fun zv zh zq => c_X9_next w (xl x) h6 zv zh zq) (fun v7 h8 => ?_)
    refine s_istore_n (lv' := [(2, .int v7), (1, .int v3), (0, .ref (gB (GM w) + 1))]) hG dX9_takesTest_29 rfl (by decide) rfl ?_
    refine s_aload_n hG dX9_takesTest_30 2 rfl rfl ?_
    refine s_iload_n hG dX9_takesTest_31 0 rfl rfl ?_
    refine s_bipush hG dX9_takesTest_32 bc_60 ?_
    refine s_bipush hG dX9_takesTest_34 bc_62 ?_
    refine s_callV (a := 1) (c := 9) (inj := inI) (As := [.int v7, .int 60, .int 62]) (st := []) rfl hG hE dX9_takesTest_36 hR (by decide) vv_X9_144 (by decide) rfl kM_1 rfl (Nat.le_of_ble_eq_true rfl) rfl (fun zv zh zq => c_X9_in w (xl x) v7 60 62 h8 zv zh zq) (fun v9 h10 => ?_)
    refine s_if_ne hG dX9_takesTest_39 (tgt := 44) (by decide) (fun q11 => ?_) (fun q11 => ?_)
    · refine s_iconst hG dX9_takesTest_42 ic_0 ?_
      exact s_zret hG hT (by decide) dX9_takesTest_43
    · refine s_aload_n hG dX9_takesTest_44 2 rfl rfl ?_
      refine s_dup hG dX9_takesTest_45 rfl ?_
      refine s_getI hG hE dX9_takesTest_46 fl_X9_38 rfl kM_1 ?_
      refine s_iconst hG dX9_takesTest_49 ic_1 ?_
      refine s_iadd hG dX9_takesTest_50 ?_
      refine s_putI hG hE dX9_takesTest_51 fl_X9_38 rfl rfl kM_1 (fun h12 => ?_)
      refine s_aload_n hG dX9_takesTest_54 2 rfl rfl ?_
      refine s_iconst hG dX9_takesTest_55 ic_0 ?_
      refine s_callV (a := 1) (c := 9) (inj := inI) (As := [.int 0]) (st := []) rfl hG hE dX9_takesTest_56 hR (by decide) vv_X9_188 (by decide) rfl kM_1 rfl (Nat.le_of_ble_eq_true rfl) rfl (fun zv zh zq => c_X9_takesNumber w (xl x) 0 h12 zv zh zq) (fun v13 h14 => ?_)
      refine s_if_ne hG dX9_takesTest_59 (tgt := 64) (by decide) (fun q15 => ?_) (fun q15 => ?_)
      · refine s_iconst hG dX9_takesTest_62 ic_0 ?_
        exact s_zret hG hT (by decide) dX9_takesTest_63
      · refine s_aload_n hG dX9_takesTest_64 2 rfl rfl ?_
        refine s_sipush hG dX9_takesTest_65 sc_10000 ?_
        refine s_iload_n hG dX9_takesTest_68 1 rfl rfl ?_
        refine s_imul hG dX9_takesTest_69 ?_
        refine s_bipush hG dX9_takesTest_70 bc_100 ?_
        refine s_iload_n hG dX9_takesTest_72 0 rfl rfl ?_
        refine s_imul hG dX9_takesTest_73 ?_
        refine s_iadd hG dX9_takesTest_74 ?_
        refine s_aload_n hG dX9_takesTest_75 2 rfl rfl ?_
        refine s_getI hG hE dX9_takesTest_76 fl_X9_80 rfl kM_1 ?_
        refine s_iadd hG dX9_takesTest_79 ?_
        refine s_callV (a := 1) (c := 9) (inj := inV) (As := [.int (((10000 * v3) + (100 * v7)) + (gi h14 1 23))]) (st := []) rfl hG hE dX9_takesTest_80 hR (by decide) vv_X9_181 (by decide) rfl kM_1 rfl (Nat.le_of_ble_eq_true rfl) rfl (fun zv zh zq => c_X9_put w (xl x) (((10000 * v3) + (100 * v7)) + (gi h14 1 23)) h14 zv zh zq) (fun v16 h17 => ?_)
        refine s_aload_n hG dX9_takesTest_83 2 rfl rfl ?_
        refine s_callV (a := 1) (c := 9) (inj := inV) (As := []) (st := []) rfl hG hE dX9_takesTest_84 hR (by decide) vv_X9_192 (by decide) rfl kM_1 rfl (Nat.le_of_ble_eq_true rfl) rfl (fun zv zh zq => c_X9_whole w (xl x) h17 zv zh zq) (fun v18 h19 => ?_)
        refine s_iconst hG dX9_takesTest_87 ic_1 ?_
        exact s_zret hG hT (by decide) dX9_takesTest_88
  · refine s_iconst hG dX9_takesTest_13 ic_0 ?_
    exact s_zret hG hT (by decide) dX9_takesTest_14

theorem c_X9_takesTest (w : WT) (l : Launch) (h : Hp) : ∀ v h', m_X9_takesTest h = some (v, h') → MetM l (GM w) yX9_takesTest cX9_takesTest 3 (some .boolean) 4 [.ref (gB (GM w) + 1)] h (inI v) h' :=
  met_of (by decide) (lokM w) (Nat.le_of_ble_eq_true rfl) (fun x hx hG hE hR hT => s_X9_takesTest w hx hG hE hR hT h)
theorem vv_X9_198 : VV RX9 198 yX9_settle cX9_settle 2 none 1 := ⟨⟨gw_at 1311 (by decide +kernel) (by decide +kernel), gw_at 1314 (by decide +kernel) (by decide +kernel), gw_at 96 (by decide +kernel) (by decide +kernel), by decide +kernel, by decide⟩, gw_at 1313 (by decide +kernel) (by decide +kernel), gw_at 46 (by decide +kernel) (by decide +kernel)⟩
theorem fl_X9_56 : FL RX9 56 9 15 := ⟨by decide, by decide, gw_at 1082 (by decide +kernel) (by decide +kernel), rfl⟩
theorem fM_9_15 : SM 1 15 = some 12 := rfl
theorem kM_12 : LM 12 = (20, 48) := rfl
theorem vv_X9_195 : VV RX9 195 yX9_takesTest cX9_takesTest 3 (some .boolean) 0 := ⟨⟨gw_at 1287 (by decide +kernel) (by decide +kernel), gw_at 1290 (by decide +kernel) (by decide +kernel), gw_at 96 (by decide +kernel) (by decide +kernel), by decide +kernel, by decide⟩, gw_at 1289 (by decide +kernel) (by decide +kernel), gw_at 40 (by decide +kernel) (by decide +kernel)⟩
theorem fl_X9_53 : FL RX9 53 9 14 := ⟨by decide, by decide, gw_at 1081 (by decide +kernel) (by decide +kernel), rfl⟩
theorem fM_9_14 : SM 1 14 = some 11 := rfl
theorem kM_11 : LM 11 = (20, 48) := rfl
def m_X9_takesE_L43 (k22 : Int32 → Int32 → Hp → Option (Int32 × Hp)) (a1 : Int32) (a2 : Int32) (a3 : Int32) (h : Hp) : Option (Int32 × Hp) := if (gi h 1 26) = 4 then some (0, h) else hb (si h 1 26 ((gi h 1 26) + 1)) fun h2 => ck (inb (gi h2 1 25) 101) (hb (si h2 19 (gi h2 1 25).toNatClampNeg a3) fun h4 => hb (si h4 1 25 ((gi h4 1 25) + 1)) fun h5 => hb (si h5 1 9 ((gi h5 1 9) + 1)) fun h6 => k22 a1 a2 h6)
set_option maxRecDepth 20000 in
set_option maxHeartbeats 4000000 in
theorem s_X9_takesE_L43 (w : WT) {x : CT} {l : Launch} (hx : xl x = l) (hG : Gd x cX9_takesE 4 RX9) (hE : Ge x (GM w)) (hR : Rm x 5) (hT : Rt x (some .boolean)) (k22 : Int32 → Int32 → Hp → Option (Int32 × Hp)) (hk22 : ∀ (a1 : Int32) (a2 : Int32) (h : Hp), Sn x 4 (gA (GM w)) (0, 0) (ζM x (GM w) inI) (gW (GM w) h) 22 [(0, .ref (gB (GM w) + 1)), (1, .int a1), (2, .int a2)] [] (k22 a1 a2 h)) (a1 : Int32) (a2 : Int32) (a3 : Int32) (h : Hp) : Sn x 4 (gA (GM w)) (0, 0) (ζM x (GM w) inI) (gW (GM w) h) 43 [(0, .ref (gB (GM w) + 1)), (1, .int a1), (2, .int a2), (3, .int a3)] [] (m_X9_takesE_L43 k22 a1 a2 a3 h) := by
  unfold m_X9_takesE_L43
  refine s_aload_n hG dX9_takesE_43 0 rfl rfl ?_
  refine s_getI hG hE dX9_takesE_44 fl_X9_89 rfl kM_1 ?_
  refine s_iconst hG dX9_takesE_47 ic_4 ?_
  refine s_icmp_ne hG dX9_takesE_48 (tgt := 53) (by decide) (fun q1 => ?_) (fun q1 => ?_)
  · refine s_iconst hG dX9_takesE_51 ic_0 ?_
    exact s_zret hG hT (by decide) dX9_takesE_52
  · refine s_aload_n hG dX9_takesE_53 0 rfl rfl ?_
    refine s_dup hG dX9_takesE_54 rfl ?_
    refine s_getI hG hE dX9_takesE_55 fl_X9_89 rfl kM_1 ?_
    refine s_iconst hG dX9_takesE_58 ic_1 ?_
    refine s_iadd hG dX9_takesE_59 ?_
    refine s_putI hG hE dX9_takesE_60 fl_X9_89 rfl rfl kM_1 (fun h2 => ?_)
    refine s_aload_n hG dX9_takesE_63 0 rfl rfl ?_
    refine s_getS hG hE dX9_takesE_64 fl_X9_83 rfl kM_1 fM_9_24 (nzM kM_19) ?_
    refine s_aload_n hG dX9_takesE_67 0 rfl rfl ?_
    refine s_getI hG hE dX9_takesE_68 fl_X9_86 rfl kM_1 ?_
    refine s_iload_n hG dX9_takesE_71 3 rfl rfl ?_
    refine s_ck (fun q3 => ?_)
    refine s_iast hG hE dX9_takesE_72 kM_19 q3 (fun h4 => ?_)
    refine s_aload_n hG dX9_takesE_73 0 rfl rfl ?_
    refine s_dup hG dX9_takesE_74 rfl ?_
    refine s_getI hG hE dX9_takesE_75 fl_X9_86 rfl kM_1 ?_
    refine s_iconst hG dX9_takesE_78 ic_1 ?_
    refine s_iadd hG dX9_takesE_79 ?_
    refine s_putI hG hE dX9_takesE_80 fl_X9_86 rfl rfl kM_1 (fun h5 => ?_)
    refine s_aload_n hG dX9_takesE_83 0 rfl rfl ?_
    refine s_dup hG dX9_takesE_84 rfl ?_
    refine s_getI hG hE dX9_takesE_85 fl_X9_38 rfl kM_1 ?_
    refine s_iconst hG dX9_takesE_88 ic_1 ?_
    refine s_iadd hG dX9_takesE_89 ?_
    refine s_putI hG hE dX9_takesE_90 fl_X9_38 rfl rfl kM_1 (fun h6 => ?_)
    refine s_goto (tgt := 22) hG dX9_takesE_93 (by decide) ?_
    refine s_lv [0, 1, 2] rfl ?_
    exact hk22 a1 a2 h6

def m_X9_takesE_L122 (k22 : Int32 → Int32 → Hp → Option (Int32 × Hp)) (a1 : Int32) (a3 : Int32) (h : Hp) : Option (Int32 × Hp) := cb (m_X9_settle a3 h) fun _ h2 => ck (inb (gi h2 1 25) 101) (hb (si h2 19 (gi h2 1 25).toNatClampNeg a3) fun h4 => hb (si h4 1 25 ((gi h4 1 25) + 1)) fun h5 => hb (si h5 1 9 ((gi h5 1 9) + 1)) fun h6 => k22 a1 1 h6)
set_option maxRecDepth 20000 in
set_option maxHeartbeats 4000000 in
theorem s_X9_takesE_L122 (w : WT) {x : CT} {l : Launch} (hx : xl x = l) (hG : Gd x cX9_takesE 4 RX9) (hE : Ge x (GM w)) (hR : Rm x 5) (hT : Rt x (some .boolean)) (k22 : Int32 → Int32 → Hp → Option (Int32 × Hp)) (hk22 : ∀ (a1 : Int32) (a2 : Int32) (h : Hp), Sn x 4 (gA (GM w)) (0, 0) (ζM x (GM w) inI) (gW (GM w) h) 22 [(0, .ref (gB (GM w) + 1)), (1, .int a1), (2, .int a2)] [] (k22 a1 a2 h)) (a1 : Int32) (a3 : Int32) (h : Hp) : Sn x 4 (gA (GM w)) (0, 0) (ζM x (GM w) inI) (gW (GM w) h) 122 [(0, .ref (gB (GM w) + 1)), (1, .int a1), (3, .int a3)] [] (m_X9_takesE_L122 k22 a1 a3 h) := by
  unfold m_X9_takesE_L122
  refine s_aload_n hG dX9_takesE_122 0 rfl rfl ?_
  refine s_iload_n hG dX9_takesE_123 2 rfl rfl ?_
  refine s_callV (a := 1) (c := 9) (inj := inV) (As := [.int a3]) (st := []) rfl hG hE dX9_takesE_124 hR (by decide) vv_X9_198 (by decide) rfl kM_1 rfl (Nat.le_of_ble_eq_true rfl) rfl (fun zv zh zq => c_X9_settle w (xl x) a3 h zv zh zq) (fun v1 h2 => ?_)
  refine s_aload_n hG dX9_takesE_127 0 rfl rfl ?_
  refine s_getS hG hE dX9_takesE_128 fl_X9_83 rfl kM_1 fM_9_24 (nzM kM_19) ?_
  refine s_aload_n hG dX9_takesE_131 0 rfl rfl ?_
  refine s_getI hG hE dX9_takesE_132 fl_X9_86 rfl kM_1 ?_
  refine s_iload_n hG dX9_takesE_135 2 rfl rfl ?_
  refine s_ck (fun q3 => ?_)
  refine s_iast hG hE dX9_takesE_136 kM_19 q3 (fun h4 => ?_)
  refine s_aload_n hG dX9_takesE_137 0 rfl rfl ?_
  refine s_dup hG dX9_takesE_138 rfl ?_
  refine s_getI hG hE dX9_takesE_139 fl_X9_86 rfl kM_1 ?_
  refine s_iconst hG dX9_takesE_142 ic_1 ?_
  refine s_iadd hG dX9_takesE_143 ?_
  refine s_putI hG hE dX9_takesE_144 fl_X9_86 rfl rfl kM_1 (fun h5 => ?_)
  refine s_iconst hG dX9_takesE_147 ic_1 ?_
  refine s_istore_n (lv' := [(2, .int 1), (0, .ref (gB (GM w) + 1)), (1, .int a1), (3, .int a3)]) hG dX9_takesE_148 rfl (by decide) rfl ?_
  refine s_aload_n hG dX9_takesE_149 1 rfl rfl ?_
  refine s_dup hG dX9_takesE_150 rfl ?_
  refine s_getI hG hE dX9_takesE_151 fl_X9_38 rfl kM_1 ?_
  refine s_iconst hG dX9_takesE_154 ic_1 ?_
  refine s_iadd hG dX9_takesE_155 ?_
  refine s_putI hG hE dX9_takesE_156 fl_X9_38 rfl rfl kM_1 (fun h6 => ?_)
  refine s_goto (tgt := 22) hG dX9_takesE_159 (by decide) ?_
  refine s_lv [1, 2, 0] rfl ?_
  exact hk22 a1 1 h6

def m_X9_takesE_L22 : Nat → Int32 → Int32 → Hp → Option (Int32 × Hp)
  | 0, _, _, _ => none
  | n + 1, a1, a2, h => cb (m_X9_next h) fun v1 h2 => if a2 = 0 then if v1 = 38 then m_X9_takesE_L122 (m_X9_takesE_L22 n) a1 v1 h2 else if v1 = 124 then m_X9_takesE_L122 (m_X9_takesE_L22 n) a1 v1 h2 else cb (m_X9_settle 124 h2) fun _ h7 => ck (inb a1 48) (hb (si h7 12 a1.toNatClampNeg (gi h7 1 22)) fun h9 => if (gi h9 1 25) = 0 then some (1, h9) else if v1 = 41 then hb (si h9 1 25 ((gi h9 1 25) - 1)) fun h12 => hb (si h12 1 26 ((gi h12 1 26) - 1)) fun h13 => hb (si h13 1 9 ((gi h13 1 9) + 1)) fun h14 => cb (m_X9_whole h14) fun _ h16 => m_X9_takesE_L22 n a1 a2 h16 else some (0, h9)) else if v1 = 33 then m_X9_takesE_L43 (m_X9_takesE_L22 n) a1 a2 v1 h2 else if v1 = 40 then m_X9_takesE_L43 (m_X9_takesE_L22 n) a1 a2 v1 h2 else cb (m_X9_takesTest h2) fun v19 h20 => if v19 = 0 then some (0, h20) else m_X9_takesE_L22 n a1 0 h20
set_option maxRecDepth 20000 in
set_option maxHeartbeats 4000000 in
theorem s_X9_takesE_L22 (w : WT) {x : CT} {l : Launch} (hx : xl x = l) (hG : Gd x cX9_takesE 4 RX9) (hE : Ge x (GM w)) (hR : Rm x 5) (hT : Rt x (some .boolean)) : ∀ (n : Nat) (a1 : Int32) (a2 : Int32) (h : Hp), Sn x 4 (gA (GM w)) (0, 0) (ζM x (GM w) inI) (gW (GM w) h) 22 [(0, .ref (gB (GM w) + 1)), (1, .int a1), (2, .int a2)] [] (m_X9_takesE_L22 n a1 a2 h) := by
  intro n
  induction n with
  | zero => intro a1 a2 h; exact s_none
  | succ n ih =>
    intro a1 a2 h
    rw [m_X9_takesE_L22]
    refine s_aload_n hG dX9_takesE_22 0 rfl rfl ?_
    refine s_callV (a := 1) (c := 9) (inj := inI) (As := []) (st := []) rfl hG hE dX9_takesE_23 hR (by decide) vv_X9_170 (by decide) rfl kM_1 rfl (Nat.le_of_ble_eq_true rfl) rfl (fun zv zh zq => c_X9_next w (xl x) h zv zh zq) (fun v1 h2 => ?_)
    refine s_istore_n (lv' := [(3, .int v1), (0, .ref (gB (GM w) + 1)), (1, .int a1), (2, .int a2)]) hG dX9_takesE_26 rfl (by decide) rfl ?_
    refine s_iload_n hG dX9_takesE_27 3 rfl rfl ?_
    refine s_if_eq hG dX9_takesE_28 (tgt := 110) (by decide) (fun q3 => ?_) (fun q3 => ?_)
    · refine s_iload_n hG dX9_takesE_110 0 rfl rfl ?_
      refine s_bipush hG dX9_takesE_111 bc_38 ?_
      refine s_icmp_eq hG dX9_takesE_113 (tgt := 122) (by decide) (fun q4 => ?_) (fun q4 => ?_)
      · refine s_lv [1, 2, 0] rfl ?_
        exact s_X9_takesE_L122 w hx hG hE hR hT (m_X9_takesE_L22 n) ih a1 v1 h2
      · refine s_iload_n hG dX9_takesE_116 0 rfl rfl ?_
        refine s_bipush hG dX9_takesE_117 bc_124 ?_
        refine s_icmp_ne hG dX9_takesE_119 (tgt := 162) (by decide) (fun q5 => ?_) (fun q5 => ?_)
        · refine s_lv [1, 2, 0] rfl ?_
          exact s_X9_takesE_L122 w hx hG hE hR hT (m_X9_takesE_L22 n) ih a1 v1 h2
        · refine s_aload_n hG dX9_takesE_162 1 rfl rfl ?_
          refine s_bipush hG dX9_takesE_163 bc_124 ?_
          refine s_callV (a := 1) (c := 9) (inj := inV) (As := [.int 124]) (st := []) rfl hG hE dX9_takesE_165 hR (by decide) vv_X9_198 (by decide) rfl kM_1 rfl (Nat.le_of_ble_eq_true rfl) rfl (fun zv zh zq => c_X9_settle w (xl x) 124 h2 zv zh zq) (fun v6 h7 => ?_)
          refine s_aload_n hG dX9_takesE_168 1 rfl rfl ?_
          refine s_getS hG hE dX9_takesE_169 fl_X9_56 rfl kM_1 fM_9_15 (nzM kM_12) ?_
          refine s_iload_n hG dX9_takesE_172 2 rfl rfl ?_
          refine s_aload_n hG dX9_takesE_173 1 rfl rfl ?_
          refine s_getI hG hE dX9_takesE_174 fl_X9_77 rfl kM_1 ?_
          refine s_ck (fun q8 => ?_)
          refine s_iast hG hE dX9_takesE_177 kM_12 q8 (fun h9 => ?_)
          refine s_aload_n hG dX9_takesE_178 1 rfl rfl ?_
          refine s_getI hG hE dX9_takesE_179 fl_X9_86 rfl kM_1 ?_
          refine s_if_ne hG dX9_takesE_182 (tgt := 187) (by decide) (fun q10 => ?_) (fun q10 => ?_)
          · refine s_iconst hG dX9_takesE_185 ic_1 ?_
            exact s_zret hG hT (by decide) dX9_takesE_186
          · refine s_iload_n hG dX9_takesE_187 0 rfl rfl ?_
            refine s_bipush hG dX9_takesE_188 bc_41 ?_
            refine s_icmp_eq hG dX9_takesE_190 (tgt := 195) (by decide) (fun q11 => ?_) (fun q11 => ?_)
            · refine s_aload_n hG dX9_takesE_195 1 rfl rfl ?_
              refine s_dup hG dX9_takesE_196 rfl ?_
              refine s_getI hG hE dX9_takesE_197 fl_X9_86 rfl kM_1 ?_
              refine s_iconst hG dX9_takesE_200 ic_1 ?_
              refine s_isub hG dX9_takesE_201 ?_
              refine s_putI hG hE dX9_takesE_202 fl_X9_86 rfl rfl kM_1 (fun h12 => ?_)
              refine s_aload_n hG dX9_takesE_205 1 rfl rfl ?_
              refine s_dup hG dX9_takesE_206 rfl ?_
              refine s_getI hG hE dX9_takesE_207 fl_X9_89 rfl kM_1 ?_
              refine s_iconst hG dX9_takesE_210 ic_1 ?_
              refine s_isub hG dX9_takesE_211 ?_
              refine s_putI hG hE dX9_takesE_212 fl_X9_89 rfl rfl kM_1 (fun h13 => ?_)
              refine s_aload_n hG dX9_takesE_215 1 rfl rfl ?_
              refine s_dup hG dX9_takesE_216 rfl ?_
              refine s_getI hG hE dX9_takesE_217 fl_X9_38 rfl kM_1 ?_
              refine s_iconst hG dX9_takesE_220 ic_1 ?_
              refine s_iadd hG dX9_takesE_221 ?_
              refine s_putI hG hE dX9_takesE_222 fl_X9_38 rfl rfl kM_1 (fun h14 => ?_)
              refine s_aload_n hG dX9_takesE_225 1 rfl rfl ?_
              refine s_callV (a := 1) (c := 9) (inj := inV) (As := []) (st := []) rfl hG hE dX9_takesE_226 hR (by decide) vv_X9_192 (by decide) rfl kM_1 rfl (Nat.le_of_ble_eq_true rfl) rfl (fun zv zh zq => c_X9_whole w (xl x) h14 zv zh zq) (fun v15 h16 => ?_)
              refine s_goto (tgt := 22) hG dX9_takesE_229 (by decide) ?_
              refine s_lv [1, 2, 3] rfl ?_
              exact ih a1 a2 h16
            · refine s_iconst hG dX9_takesE_193 ic_0 ?_
              exact s_zret hG hT (by decide) dX9_takesE_194
    · refine s_iload_n hG dX9_takesE_31 0 rfl rfl ?_
      refine s_bipush hG dX9_takesE_32 bc_33 ?_
      refine s_icmp_eq hG dX9_takesE_34 (tgt := 43) (by decide) (fun q17 => ?_) (fun q17 => ?_)
      · refine s_lv [1, 2, 3, 0] rfl ?_
        exact s_X9_takesE_L43 w hx hG hE hR hT (m_X9_takesE_L22 n) ih a1 a2 v1 h2
      · refine s_iload_n hG dX9_takesE_37 0 rfl rfl ?_
        refine s_bipush hG dX9_takesE_38 bc_40 ?_
        refine s_icmp_ne hG dX9_takesE_40 (tgt := 96) (by decide) (fun q18 => ?_) (fun q18 => ?_)
        · refine s_lv [1, 2, 3, 0] rfl ?_
          exact s_X9_takesE_L43 w hx hG hE hR hT (m_X9_takesE_L22 n) ih a1 a2 v1 h2
        · refine s_aload_n hG dX9_takesE_96 1 rfl rfl ?_
          refine s_callV (a := 1) (c := 9) (inj := inI) (As := []) (st := []) rfl hG hE dX9_takesE_97 hR (by decide) vv_X9_195 (by decide) rfl kM_1 rfl (Nat.le_of_ble_eq_true rfl) rfl (fun zv zh zq => c_X9_takesTest w (xl x) h2 zv zh zq) (fun v19 h20 => ?_)
          refine s_if_eq hG dX9_takesE_100 (tgt := 108) (by decide) (fun q21 => ?_) (fun q21 => ?_)
          · refine s_iconst hG dX9_takesE_108 ic_0 ?_
            exact s_zret hG hT (by decide) dX9_takesE_109
          · refine s_iconst hG dX9_takesE_103 ic_0 ?_
            refine s_istore_n (lv' := [(2, .int 0), (3, .int v1), (0, .ref (gB (GM w) + 1)), (1, .int a1)]) hG dX9_takesE_104 rfl (by decide) rfl ?_
            refine s_goto (tgt := 22) hG dX9_takesE_105 (by decide) ?_
            refine s_lv [2, 3, 0] rfl ?_
            exact ih a1 0 h20

def m_X9_takesE (a1 : Int32) (h : Hp) : Option (Int32 × Hp) := hb (si h 1 25 0) fun h1 => hb (si h1 1 26 0) fun h2 => ck (inb a1 48) (hb (si h2 11 a1.toNatClampNeg (gi h2 1 22)) fun h4 => m_X9_takesE_L22 FU a1 1 h4)
set_option maxRecDepth 20000 in
set_option maxHeartbeats 4000000 in
theorem s_X9_takesE (w : WT) {x : CT} {l : Launch} (hx : xl x = l) (hG : Gd x cX9_takesE 4 RX9) (hE : Ge x (GM w)) (hR : Rm x 5) (hT : Rt x (some .boolean)) (a1 : Int32) (h : Hp) : Sn x 4 (gA (GM w)) (0, 0) (ζM x (GM w) inI) (gW (GM w) h) 0 [(0, .ref (gB (GM w) + 1)), (1, .int a1)] [] (m_X9_takesE a1 h) := by
  unfold m_X9_takesE
  refine s_aload_n hG dX9_takesE_0 0 rfl rfl ?_
  refine s_iconst hG dX9_takesE_1 ic_0 ?_
  refine s_putI hG hE dX9_takesE_2 fl_X9_86 rfl rfl kM_1 (fun h1 => ?_)
  refine s_aload_n hG dX9_takesE_5 0 rfl rfl ?_
  refine s_iconst hG dX9_takesE_6 ic_0 ?_
  refine s_putI hG hE dX9_takesE_7 fl_X9_89 rfl rfl kM_1 (fun h2 => ?_)
  refine s_aload_n hG dX9_takesE_10 0 rfl rfl ?_
  refine s_getS hG hE dX9_takesE_11 fl_X9_53 rfl kM_1 fM_9_14 (nzM kM_11) ?_
  refine s_iload_n hG dX9_takesE_14 1 rfl rfl ?_
  refine s_aload_n hG dX9_takesE_15 0 rfl rfl ?_
  refine s_getI hG hE dX9_takesE_16 fl_X9_77 rfl kM_1 ?_
  refine s_ck (fun q3 => ?_)
  refine s_iast hG hE dX9_takesE_19 kM_11 q3 (fun h4 => ?_)
  refine s_iconst hG dX9_takesE_20 ic_1 ?_
  refine s_istore_n (lv' := [(2, .int 1), (0, .ref (gB (GM w) + 1)), (1, .int a1)]) hG dX9_takesE_21 rfl (by decide) rfl ?_
  refine s_lv [1, 2, 0] rfl ?_
  exact s_X9_takesE_L22 w hx hG hE hR hT FU a1 1 h4

theorem c_X9_takesE (w : WT) (l : Launch) (a1 : Int32) (h : Hp) : ∀ v h', m_X9_takesE a1 h = some (v, h') → MetM l (GM w) yX9_takesE cX9_takesE 4 (some .boolean) 5 [.ref (gB (GM w) + 1), .int a1] h (inI v) h' :=
  met_of (by decide) (lokM w) (Nat.le_of_ble_eq_true rfl) (fun x hx hG hE hR hT => s_X9_takesE w hx hG hE hR hT a1 h)
theorem fl_X9_50 : FL RX9 50 9 13 := ⟨by decide, by decide, gw_at 1080 (by decide +kernel) (by decide +kernel), rfl⟩
theorem fM_9_13 : SM 1 13 = some 10 := rfl
theorem kM_10 : LM 10 = (20, 48) := rfl
theorem vv_X9_206 : VV RX9 206 yX9_takesE cX9_takesE 4 (some .boolean) 1 := ⟨⟨gw_at 1283 (by decide +kernel) (by decide +kernel), gw_at 1286 (by decide +kernel) (by decide +kernel), gw_at 96 (by decide +kernel) (by decide +kernel), by decide +kernel, by decide⟩, gw_at 1285 (by decide +kernel) (by decide +kernel), gw_at 39 (by decide +kernel) (by decide +kernel)⟩
theorem wd_1327 : Jvm.Cond.constant RX9 201 493192 ∈ GW := gw_at 1327 (by decide +kernel) (by decide +kernel)
theorem vv_X9_202 : VV RX9 202 yX9_takesWord cX9_takesWord 4 (some .boolean) 2 := ⟨⟨gw_at 1275 (by decide +kernel) (by decide +kernel), gw_at 1278 (by decide +kernel) (by decide +kernel), gw_at 96 (by decide +kernel) (by decide +kernel), by decide +kernel, by decide⟩, gw_at 1277 (by decide +kernel) (by decide +kernel), gw_at 37 (by decide +kernel) (by decide +kernel)⟩
theorem bc_112 : (Int8.ofInt 112).toInt32 = 112 := by decide
theorem bc_111 : (Int8.ofInt 111).toInt32 = 111 := by decide
theorem bc_103 : (Int8.ofInt 103).toInt32 = 103 := by decide
theorem bc_104 : (Int8.ofInt 104).toInt32 = 104 := by decide
theorem bc_116 : (Int8.ofInt 116).toInt32 = 116 := by decide
def m_X9_takesOath_L84 (a1 : Int32) (t0 : Int32) (t1 : Int32) (t2 : Nat) (h : Hp) : Option (Int32 × Hp) := ck (inb t1 48) (hb (si h t2 t1.toNatClampNeg t0) fun h2 => ck (inb a1 48) (if (gi h2 10 a1.toNatClampNeg) = 0 then some (0, h2) else hb (si h2 1 9 ((gi h2 1 9) + 1)) fun h5 => cb (m_X9_takes 32 h5) fun v6 h7 => if v6 = 0 then some (0, h7) else cb (m_X9_takesE a1 h7) fun v9 h10 => if v9 = 0 then some (0, h10) else some (1, h10)))
set_option maxRecDepth 20000 in
set_option maxHeartbeats 4000000 in
theorem s_X9_takesOath_L84 (w : WT) {x : CT} {l : Launch} (hx : xl x = l) (hG : Gd x cX9_takesOath 3 RX9) (hE : Ge x (GM w)) (hR : Rm x 6) (hT : Rt x (some .boolean)) (a1 : Int32) (t0 : Int32) (t1 : Int32) (t2 : Nat) (q2 : LM t2 = (20, 48)) (h : Hp) : Sn x 3 (gA (GM w)) (0, 0) (ζM x (GM w) inI) (gW (GM w) h) 84 [(0, .ref (gB (GM w) + 1)), (1, .int a1)] [.int t0, .int t1, .ref (gB (GM w) + t2)] (m_X9_takesOath_L84 a1 t0 t1 t2 h) := by
  unfold m_X9_takesOath_L84
  refine s_ck (fun q1 => ?_)
  refine s_iast hG hE dX9_takesOath_84 q2 q1 (fun h2 => ?_)
  refine s_aload_n hG dX9_takesOath_85 0 rfl rfl ?_
  refine s_getS hG hE dX9_takesOath_86 fl_X9_50 rfl kM_1 fM_9_13 (nzM kM_10) ?_
  refine s_iload_n hG dX9_takesOath_89 1 rfl rfl ?_
  refine s_ck (fun q3 => ?_)
  refine s_iald hG hE dX9_takesOath_90 kM_10 q3 ?_
  refine s_if_ne hG dX9_takesOath_91 (tgt := 96) (by decide) (fun q4 => ?_) (fun q4 => ?_)
  · refine s_iconst hG dX9_takesOath_94 ic_0 ?_
    exact s_zret hG hT (by decide) dX9_takesOath_95
  · refine s_aload_n hG dX9_takesOath_96 0 rfl rfl ?_
    refine s_dup hG dX9_takesOath_97 rfl ?_
    refine s_getI hG hE dX9_takesOath_98 fl_X9_38 rfl kM_1 ?_
    refine s_iconst hG dX9_takesOath_101 ic_1 ?_
    refine s_iadd hG dX9_takesOath_102 ?_
    refine s_putI hG hE dX9_takesOath_103 fl_X9_38 rfl rfl kM_1 (fun h5 => ?_)
    refine s_aload_n hG dX9_takesOath_106 0 rfl rfl ?_
    refine s_bipush hG dX9_takesOath_107 bc_32 ?_
    refine s_callV (a := 1) (c := 9) (inj := inI) (As := [.int 32]) (st := []) rfl hG hE dX9_takesOath_109 hR (by decide) vv_X9_174 (by decide) rfl kM_1 rfl (Nat.le_of_ble_eq_true rfl) rfl (fun zv zh zq => c_X9_takes w (xl x) 32 h5 zv zh zq) (fun v6 h7 => ?_)
    refine s_if_eq hG dX9_takesOath_112 (tgt := 127) (by decide) (fun q8 => ?_) (fun q8 => ?_)
    · refine s_iconst hG dX9_takesOath_127 ic_0 ?_
      exact s_zret hG hT (by decide) dX9_takesOath_128
    · refine s_aload_n hG dX9_takesOath_115 0 rfl rfl ?_
      refine s_iload_n hG dX9_takesOath_116 1 rfl rfl ?_
      refine s_callV (a := 1) (c := 9) (inj := inI) (As := [.int a1]) (st := []) rfl hG hE dX9_takesOath_117 hR (by decide) vv_X9_206 (by decide) rfl kM_1 rfl (Nat.le_of_ble_eq_true rfl) rfl (fun zv zh zq => c_X9_takesE w (xl x) a1 h7 zv zh zq) (fun v9 h10 => ?_)
      refine s_if_eq hG dX9_takesOath_120 (tgt := 127) (by decide) (fun q11 => ?_) (fun q11 => ?_)
      · refine s_iconst hG dX9_takesOath_127 ic_0 ?_
        exact s_zret hG hT (by decide) dX9_takesOath_128
      · refine s_iconst hG dX9_takesOath_123 ic_1 ?_
        refine s_goto (tgt := 128) hG dX9_takesOath_124 (by decide) ?_
        exact s_zret hG hT (by decide) dX9_takesOath_128

def m_X9_takesOath (a1 : Int32) (h : Hp) : Option (Int32 × Hp) := cb (m_X9_takesWord 493192 4 h) fun v1 h2 => if v1 = 0 then some (0, h2) else cb (m_X9_next h2) fun v4 h5 => if v4 = 112 then m_X9_takesOath_L84 a1 1 a1 10 h5 else if v4 = 111 then m_X9_takesOath_L84 a1 2 a1 10 h5 else if v4 = 103 then m_X9_takesOath_L84 a1 3 a1 10 h5 else if v4 = 104 then m_X9_takesOath_L84 a1 4 a1 10 h5 else if v4 = 99 then m_X9_takesOath_L84 a1 5 a1 10 h5 else if v4 = 116 then m_X9_takesOath_L84 a1 6 a1 10 h5 else m_X9_takesOath_L84 a1 0 a1 10 h5
set_option maxRecDepth 20000 in
set_option maxHeartbeats 4000000 in
theorem s_X9_takesOath (w : WT) {x : CT} {l : Launch} (hx : xl x = l) (hG : Gd x cX9_takesOath 3 RX9) (hE : Ge x (GM w)) (hR : Rm x 6) (hT : Rt x (some .boolean)) (a1 : Int32) (h : Hp) : Sn x 3 (gA (GM w)) (0, 0) (ζM x (GM w) inI) (gW (GM w) h) 0 [(0, .ref (gB (GM w) + 1)), (1, .int a1)] [] (m_X9_takesOath a1 h) := by
  unfold m_X9_takesOath
  refine s_aload_n hG dX9_takesOath_0 0 rfl rfl ?_
  refine s_ldc hG dX9_takesOath_1 wd_1327 ?_
  refine s_iconst hG dX9_takesOath_3 ic_4 ?_
  refine s_callV (a := 1) (c := 9) (inj := inI) (As := [.int 493192, .int 4]) (st := []) rfl hG hE dX9_takesOath_4 hR (by decide) vv_X9_202 (by decide) rfl kM_1 rfl (Nat.le_of_ble_eq_true rfl) rfl (fun zv zh zq => c_X9_takesWord w (xl x) 493192 4 h zv zh zq) (fun v1 h2 => ?_)
  refine s_if_ne hG dX9_takesOath_7 (tgt := 12) (by decide) (fun q3 => ?_) (fun q3 => ?_)
  · refine s_iconst hG dX9_takesOath_10 ic_0 ?_
    exact s_zret hG hT (by decide) dX9_takesOath_11
  · refine s_aload_n hG dX9_takesOath_12 0 rfl rfl ?_
    refine s_callV (a := 1) (c := 9) (inj := inI) (As := []) (st := []) rfl hG hE dX9_takesOath_13 hR (by decide) vv_X9_170 (by decide) rfl kM_1 rfl (Nat.le_of_ble_eq_true rfl) rfl (fun zv zh zq => c_X9_next w (xl x) h2 zv zh zq) (fun v4 h5 => ?_)
    refine s_istore_n (lv' := [(2, .int v4), (0, .ref (gB (GM w) + 1)), (1, .int a1)]) hG dX9_takesOath_16 rfl (by decide) rfl ?_
    refine s_aload_n hG dX9_takesOath_17 1 rfl rfl ?_
    refine s_getS hG hE dX9_takesOath_18 fl_X9_50 rfl kM_1 fM_9_13 (nzM kM_10) ?_
    refine s_iload_n hG dX9_takesOath_21 2 rfl rfl ?_
    refine s_iload_n hG dX9_takesOath_22 0 rfl rfl ?_
    refine s_bipush hG dX9_takesOath_23 bc_112 ?_
    refine s_icmp_ne hG dX9_takesOath_25 (tgt := 32) (by decide) (fun q6 => ?_) (fun q6 => ?_)
    · refine s_iconst hG dX9_takesOath_28 ic_1 ?_
      refine s_goto (tgt := 84) hG dX9_takesOath_29 (by decide) ?_
      refine s_lv [1, 2] rfl ?_
      exact s_X9_takesOath_L84 w hx hG hE hR hT a1 1 a1 10 kM_10 h5
    · refine s_iload_n hG dX9_takesOath_32 0 rfl rfl ?_
      refine s_bipush hG dX9_takesOath_33 bc_111 ?_
      refine s_icmp_ne hG dX9_takesOath_35 (tgt := 42) (by decide) (fun q7 => ?_) (fun q7 => ?_)
      · refine s_iconst hG dX9_takesOath_38 ic_2 ?_
        refine s_goto (tgt := 84) hG dX9_takesOath_39 (by decide) ?_
        refine s_lv [1, 2] rfl ?_
        exact s_X9_takesOath_L84 w hx hG hE hR hT a1 2 a1 10 kM_10 h5
      · refine s_iload_n hG dX9_takesOath_42 0 rfl rfl ?_
        refine s_bipush hG dX9_takesOath_43 bc_103 ?_
        refine s_icmp_ne hG dX9_takesOath_45 (tgt := 52) (by decide) (fun q8 => ?_) (fun q8 => ?_)
        · refine s_iconst hG dX9_takesOath_48 ic_3 ?_
          refine s_goto (tgt := 84) hG dX9_takesOath_49 (by decide) ?_
          refine s_lv [1, 2] rfl ?_
          exact s_X9_takesOath_L84 w hx hG hE hR hT a1 3 a1 10 kM_10 h5
        · refine s_iload_n hG dX9_takesOath_52 0 rfl rfl ?_
          refine s_bipush hG dX9_takesOath_53 bc_104 ?_
          refine s_icmp_ne hG dX9_takesOath_55 (tgt := 62) (by decide) (fun q9 => ?_) (fun q9 => ?_)
          · refine s_iconst hG dX9_takesOath_58 ic_4 ?_
            refine s_goto (tgt := 84) hG dX9_takesOath_59 (by decide) ?_
            refine s_lv [1, 2] rfl ?_
            exact s_X9_takesOath_L84 w hx hG hE hR hT a1 4 a1 10 kM_10 h5
          · refine s_iload_n hG dX9_takesOath_62 0 rfl rfl ?_
            refine s_bipush hG dX9_takesOath_63 bc_99 ?_
            refine s_icmp_ne hG dX9_takesOath_65 (tgt := 72) (by decide) (fun q10 => ?_) (fun q10 => ?_)
            · refine s_iconst hG dX9_takesOath_68 ic_5 ?_
              refine s_goto (tgt := 84) hG dX9_takesOath_69 (by decide) ?_
              refine s_lv [1, 2] rfl ?_
              exact s_X9_takesOath_L84 w hx hG hE hR hT a1 5 a1 10 kM_10 h5
            · refine s_iload_n hG dX9_takesOath_72 0 rfl rfl ?_
              refine s_bipush hG dX9_takesOath_73 bc_116 ?_
              refine s_icmp_ne hG dX9_takesOath_75 (tgt := 83) (by decide) (fun q11 => ?_) (fun q11 => ?_)
              · refine s_bipush hG dX9_takesOath_78 bc_6 ?_
                refine s_goto (tgt := 84) hG dX9_takesOath_80 (by decide) ?_
                refine s_lv [1, 2] rfl ?_
                exact s_X9_takesOath_L84 w hx hG hE hR hT a1 6 a1 10 kM_10 h5
              · refine s_iconst hG dX9_takesOath_83 ic_0 ?_
                refine s_lv [1, 2] rfl ?_
                exact s_X9_takesOath_L84 w hx hG hE hR hT a1 0 a1 10 kM_10 h5

theorem c_X9_takesOath (w : WT) (l : Launch) (a1 : Int32) (h : Hp) : ∀ v h', m_X9_takesOath a1 h = some (v, h') → MetM l (GM w) yX9_takesOath cX9_takesOath 3 (some .boolean) 6 [.ref (gB (GM w) + 1), .int a1] h (inI v) h' :=
  met_of (by decide) (lokM w) (Nat.le_of_ble_eq_true rfl) (fun x hx hG hE hR hT => s_X9_takesOath w hx hG hE hR hT a1 h)
theorem fl_X9_59 : FL RX9 59 9 16 := ⟨by decide, by decide, gw_at 1083 (by decide +kernel) (by decide +kernel), rfl⟩
theorem fM_9_16 : SM 1 16 = some 13 := rfl
theorem kM_13 : LM 13 = (20, 6) := rfl
theorem fl_X9_62 : FL RX9 62 9 17 := ⟨by decide, by decide, gw_at 1084 (by decide +kernel) (by decide +kernel), rfl⟩
theorem fM_9_17 : SM 1 17 = some 14 := rfl
theorem kM_14 : LM 14 = (20, 6) := rfl
theorem fl_X9_65 : FL RX9 65 9 18 := ⟨by decide, by decide, gw_at 1085 (by decide +kernel) (by decide +kernel), rfl⟩
theorem fM_9_18 : SM 1 18 = some 15 := rfl
theorem kM_15 : LM 15 = (20, 6) := rfl
theorem fl_X9_68 : FL RX9 68 9 19 := ⟨by decide, by decide, gw_at 1086 (by decide +kernel) (by decide +kernel), rfl⟩
theorem fM_9_19 : SM 1 19 = some 16 := rfl
theorem kM_16 : LM 16 = (20, 6) := rfl
theorem wd_1320 : Jvm.Cond.constant RX9 210 409189 ∈ GW := gw_at 1320 (by decide +kernel) (by decide +kernel)
theorem wd_1319 : Jvm.Cond.constant RX9 209 81544 ∈ GW := gw_at 1319 (by decide +kernel) (by decide +kernel)
def m_X9_takesLose_L27 (a1 : Int32) (a2 : Int32) (h : Hp) : Option (Int32 × Hp) := cb (m_X9_takesNumber 0 h) fun v1 h2 => if v1 = 0 then some (0, h2) else vb (gi h2 1 23) fun v4 => cb (m_X9_takes 32 h2) fun v5 h6 => if v5 = 0 then some (0, h6) else cb (m_X9_takesNumber 1 h6) fun v8 h9 => if v8 = 0 then some (0, h9) else if a2 = 0 then ck (inb a1 6) (hb (si h9 13 a1.toNatClampNeg v4) fun h13 => hb (si h13 14 a1.toNatClampNeg (gi h13 1 23)) fun h14 => some (1, h14)) else ck (inb a1 6) (hb (si h9 15 a1.toNatClampNeg v4) fun h16 => hb (si h16 16 a1.toNatClampNeg (gi h16 1 23)) fun h17 => some (1, h17))
set_option maxRecDepth 20000 in
set_option maxHeartbeats 4000000 in
theorem s_X9_takesLose_L27 (w : WT) {x : CT} {l : Launch} (hx : xl x = l) (hG : Gd x cX9_takesLose 4 RX9) (hE : Ge x (GM w)) (hR : Rm x 4) (hT : Rt x (some .boolean)) (a1 : Int32) (a2 : Int32) (h : Hp) : Sn x 4 (gA (GM w)) (0, 0) (ζM x (GM w) inI) (gW (GM w) h) 27 [(0, .ref (gB (GM w) + 1)), (1, .int a1), (2, .int a2)] [] (m_X9_takesLose_L27 a1 a2 h) := by
  unfold m_X9_takesLose_L27
  refine s_aload_n hG dX9_takesLose_27 0 rfl rfl ?_
  refine s_iconst hG dX9_takesLose_28 ic_0 ?_
  refine s_callV (a := 1) (c := 9) (inj := inI) (As := [.int 0]) (st := []) rfl hG hE dX9_takesLose_29 hR (by decide) vv_X9_188 (by decide) rfl kM_1 rfl (Nat.le_of_ble_eq_true rfl) rfl (fun zv zh zq => c_X9_takesNumber w (xl x) 0 h zv zh zq) (fun v1 h2 => ?_)
  refine s_if_ne hG dX9_takesLose_32 (tgt := 37) (by decide) (fun q3 => ?_) (fun q3 => ?_)
  · refine s_iconst hG dX9_takesLose_35 ic_0 ?_
    exact s_zret hG hT (by decide) dX9_takesLose_36
  · refine s_aload_n hG dX9_takesLose_37 0 rfl rfl ?_
    refine s_getI hG hE dX9_takesLose_38 fl_X9_80 rfl kM_1 ?_
    refine s_vI (fun v4 => ?_)
    refine s_istore_n (lv' := [(3, .int v4), (0, .ref (gB (GM w) + 1)), (1, .int a1), (2, .int a2)]) hG dX9_takesLose_41 rfl (by decide) rfl ?_
    refine s_aload_n hG dX9_takesLose_42 1 rfl rfl ?_
    refine s_bipush hG dX9_takesLose_43 bc_32 ?_
    refine s_callV (a := 1) (c := 9) (inj := inI) (As := [.int 32]) (st := []) rfl hG hE dX9_takesLose_45 hR (by decide) vv_X9_174 (by decide) rfl kM_1 rfl (Nat.le_of_ble_eq_true rfl) rfl (fun zv zh zq => c_X9_takes w (xl x) 32 h2 zv zh zq) (fun v5 h6 => ?_)
    refine s_if_eq hG dX9_takesLose_48 (tgt := 59) (by decide) (fun q7 => ?_) (fun q7 => ?_)
    · refine s_iconst hG dX9_takesLose_59 ic_0 ?_
      exact s_zret hG hT (by decide) dX9_takesLose_60
    · refine s_aload_n hG dX9_takesLose_51 1 rfl rfl ?_
      refine s_iconst hG dX9_takesLose_52 ic_1 ?_
      refine s_callV (a := 1) (c := 9) (inj := inI) (As := [.int 1]) (st := []) rfl hG hE dX9_takesLose_53 hR (by decide) vv_X9_188 (by decide) rfl kM_1 rfl (Nat.le_of_ble_eq_true rfl) rfl (fun zv zh zq => c_X9_takesNumber w (xl x) 1 h6 zv zh zq) (fun v8 h9 => ?_)
      refine s_if_ne hG dX9_takesLose_56 (tgt := 61) (by decide) (fun q10 => ?_) (fun q10 => ?_)
      · refine s_iconst hG dX9_takesLose_59 ic_0 ?_
        exact s_zret hG hT (by decide) dX9_takesLose_60
      · refine s_iload_n hG dX9_takesLose_61 3 rfl rfl ?_
        refine s_if_eq hG dX9_takesLose_62 (tgt := 85) (by decide) (fun q11 => ?_) (fun q11 => ?_)
        · refine s_aload_n hG dX9_takesLose_85 1 rfl rfl ?_
          refine s_getS hG hE dX9_takesLose_86 fl_X9_59 rfl kM_1 fM_9_16 (nzM kM_13) ?_
          refine s_iload_n hG dX9_takesLose_89 2 rfl rfl ?_
          refine s_iload_n hG dX9_takesLose_90 0 rfl rfl ?_
          refine s_ck (fun q12 => ?_)
          refine s_iast hG hE dX9_takesLose_91 kM_13 q12 (fun h13 => ?_)
          refine s_aload_n hG dX9_takesLose_92 1 rfl rfl ?_
          refine s_getS hG hE dX9_takesLose_93 fl_X9_62 rfl kM_1 fM_9_17 (nzM kM_14) ?_
          refine s_iload_n hG dX9_takesLose_96 2 rfl rfl ?_
          refine s_aload_n hG dX9_takesLose_97 1 rfl rfl ?_
          refine s_getI hG hE dX9_takesLose_98 fl_X9_80 rfl kM_1 ?_
          refine s_iast hG hE dX9_takesLose_101 kM_14 q12 (fun h14 => ?_)
          refine s_iconst hG dX9_takesLose_102 ic_1 ?_
          exact s_zret hG hT (by decide) dX9_takesLose_103
        · refine s_aload_n hG dX9_takesLose_65 1 rfl rfl ?_
          refine s_getS hG hE dX9_takesLose_66 fl_X9_65 rfl kM_1 fM_9_18 (nzM kM_15) ?_
          refine s_iload_n hG dX9_takesLose_69 2 rfl rfl ?_
          refine s_iload_n hG dX9_takesLose_70 0 rfl rfl ?_
          refine s_ck (fun q15 => ?_)
          refine s_iast hG hE dX9_takesLose_71 kM_15 q15 (fun h16 => ?_)
          refine s_aload_n hG dX9_takesLose_72 1 rfl rfl ?_
          refine s_getS hG hE dX9_takesLose_73 fl_X9_68 rfl kM_1 fM_9_19 (nzM kM_16) ?_
          refine s_iload_n hG dX9_takesLose_76 2 rfl rfl ?_
          refine s_aload_n hG dX9_takesLose_77 1 rfl rfl ?_
          refine s_getI hG hE dX9_takesLose_78 fl_X9_80 rfl kM_1 ?_
          refine s_iast hG hE dX9_takesLose_81 kM_16 q15 (fun h17 => ?_)
          refine s_goto (tgt := 102) hG dX9_takesLose_82 (by decide) ?_
          refine s_iconst hG dX9_takesLose_102 ic_1 ?_
          exact s_zret hG hT (by decide) dX9_takesLose_103

def m_X9_takesLose (a1 : Int32) (a2 : Int32) (h : Hp) : Option (Int32 × Hp) := if a2 = 0 then cb (m_X9_takesWord 409189 4 h) fun v2 h3 => if v2 = 0 then some (0, h3) else m_X9_takesLose_L27 a1 a2 h3 else cb (m_X9_takesWord 81544 4 h) fun v5 h6 => if v5 = 0 then some (0, h6) else m_X9_takesLose_L27 a1 a2 h6
set_option maxRecDepth 20000 in
set_option maxHeartbeats 4000000 in
theorem s_X9_takesLose (w : WT) {x : CT} {l : Launch} (hx : xl x = l) (hG : Gd x cX9_takesLose 4 RX9) (hE : Ge x (GM w)) (hR : Rm x 4) (hT : Rt x (some .boolean)) (a1 : Int32) (a2 : Int32) (h : Hp) : Sn x 4 (gA (GM w)) (0, 0) (ζM x (GM w) inI) (gW (GM w) h) 0 [(0, .ref (gB (GM w) + 1)), (1, .int a1), (2, .int a2)] [] (m_X9_takesLose a1 a2 h) := by
  unfold m_X9_takesLose
  refine s_iload_n hG dX9_takesLose_0 2 rfl rfl ?_
  refine s_if_eq hG dX9_takesLose_1 (tgt := 17) (by decide) (fun q1 => ?_) (fun q1 => ?_)
  · refine s_aload_n hG dX9_takesLose_17 0 rfl rfl ?_
    refine s_ldc hG dX9_takesLose_18 wd_1320 ?_
    refine s_iconst hG dX9_takesLose_20 ic_4 ?_
    refine s_callV (a := 1) (c := 9) (inj := inI) (As := [.int 409189, .int 4]) (st := []) rfl hG hE dX9_takesLose_21 hR (by decide) vv_X9_202 (by decide) rfl kM_1 rfl (Nat.le_of_ble_eq_true rfl) rfl (fun zv zh zq => c_X9_takesWord w (xl x) 409189 4 h zv zh zq) (fun v2 h3 => ?_)
    refine s_if_eq hG dX9_takesLose_24 (tgt := 35) (by decide) (fun q4 => ?_) (fun q4 => ?_)
    · refine s_iconst hG dX9_takesLose_35 ic_0 ?_
      exact s_zret hG hT (by decide) dX9_takesLose_36
    · exact s_X9_takesLose_L27 w hx hG hE hR hT a1 a2 h3
  · refine s_aload_n hG dX9_takesLose_4 0 rfl rfl ?_
    refine s_ldc hG dX9_takesLose_5 wd_1319 ?_
    refine s_iconst hG dX9_takesLose_7 ic_4 ?_
    refine s_callV (a := 1) (c := 9) (inj := inI) (As := [.int 81544, .int 4]) (st := []) rfl hG hE dX9_takesLose_8 hR (by decide) vv_X9_202 (by decide) rfl kM_1 rfl (Nat.le_of_ble_eq_true rfl) rfl (fun zv zh zq => c_X9_takesWord w (xl x) 81544 4 h zv zh zq) (fun v5 h6 => ?_)
    refine s_if_eq hG dX9_takesLose_11 (tgt := 35) (by decide) (fun q7 => ?_) (fun q7 => ?_)
    · refine s_iconst hG dX9_takesLose_35 ic_0 ?_
      exact s_zret hG hT (by decide) dX9_takesLose_36
    · refine s_goto (tgt := 27) hG dX9_takesLose_14 (by decide) ?_
      exact s_X9_takesLose_L27 w hx hG hE hR hT a1 a2 h6

theorem c_X9_takesLose (w : WT) (l : Launch) (a1 : Int32) (a2 : Int32) (h : Hp) : ∀ v h', m_X9_takesLose a1 a2 h = some (v, h') → MetM l (GM w) yX9_takesLose cX9_takesLose 4 (some .boolean) 4 [.ref (gB (GM w) + 1), .int a1, .int a2] h (inI v) h' :=
  met_of (by decide) (lokM w) (Nat.le_of_ble_eq_true rfl) (fun x hx hG hE hR hT => s_X9_takesLose w hx hG hE hR hT a1 a2 h)
theorem wd_1332 : Jvm.Cond.constant RX9 211 12748404 ∈ GW := gw_at 1332 (by decide +kernel) (by decide +kernel)
theorem fl_X9_71 : FL RX9 71 9 20 := ⟨by decide, by decide, gw_at 1087 (by decide +kernel) (by decide +kernel), rfl⟩
theorem fM_9_20 : SM 1 20 = some 17 := rfl
theorem kM_17 : LM 17 = (20, 6) := rfl
def m_X9_takesLeast (a1 : Int32) (h : Hp) : Option (Int32 × Hp) := cb (m_X9_takesWord 12748404 5 h) fun v1 h2 => if v1 = 0 then some (0, h2) else cb (m_X9_takesNumber 0 h2) fun v4 h5 => if v4 = 0 then some (0, h5) else ck (inb a1 6) (hb (si h5 17 a1.toNatClampNeg (gi h5 1 23)) fun h8 => some (1, h8))
set_option maxRecDepth 20000 in
set_option maxHeartbeats 4000000 in
theorem s_X9_takesLeast (w : WT) {x : CT} {l : Launch} (hx : xl x = l) (hG : Gd x cX9_takesLeast 2 RX9) (hE : Ge x (GM w)) (hR : Rm x 4) (hT : Rt x (some .boolean)) (a1 : Int32) (h : Hp) : Sn x 2 (gA (GM w)) (0, 0) (ζM x (GM w) inI) (gW (GM w) h) 0 [(0, .ref (gB (GM w) + 1)), (1, .int a1)] [] (m_X9_takesLeast a1 h) := by
  unfold m_X9_takesLeast
  refine s_aload_n hG dX9_takesLeast_0 0 rfl rfl ?_
  refine s_ldc hG dX9_takesLeast_1 wd_1332 ?_
  refine s_iconst hG dX9_takesLeast_3 ic_5 ?_
  refine s_callV (a := 1) (c := 9) (inj := inI) (As := [.int 12748404, .int 5]) (st := []) rfl hG hE dX9_takesLeast_4 hR (by decide) vv_X9_202 (by decide) rfl kM_1 rfl (Nat.le_of_ble_eq_true rfl) rfl (fun zv zh zq => c_X9_takesWord w (xl x) 12748404 5 h zv zh zq) (fun v1 h2 => ?_)
  refine s_if_eq hG dX9_takesLeast_7 (tgt := 18) (by decide) (fun q3 => ?_) (fun q3 => ?_)
  · refine s_iconst hG dX9_takesLeast_18 ic_0 ?_
    exact s_zret hG hT (by decide) dX9_takesLeast_19
  · refine s_aload_n hG dX9_takesLeast_10 0 rfl rfl ?_
    refine s_iconst hG dX9_takesLeast_11 ic_0 ?_
    refine s_callV (a := 1) (c := 9) (inj := inI) (As := [.int 0]) (st := []) rfl hG hE dX9_takesLeast_12 hR (by decide) vv_X9_188 (by decide) rfl kM_1 rfl (Nat.le_of_ble_eq_true rfl) rfl (fun zv zh zq => c_X9_takesNumber w (xl x) 0 h2 zv zh zq) (fun v4 h5 => ?_)
    refine s_if_ne hG dX9_takesLeast_15 (tgt := 20) (by decide) (fun q6 => ?_) (fun q6 => ?_)
    · refine s_iconst hG dX9_takesLeast_18 ic_0 ?_
      exact s_zret hG hT (by decide) dX9_takesLeast_19
    · refine s_aload_n hG dX9_takesLeast_20 0 rfl rfl ?_
      refine s_getS hG hE dX9_takesLeast_21 fl_X9_71 rfl kM_1 fM_9_20 (nzM kM_17) ?_
      refine s_iload_n hG dX9_takesLeast_24 1 rfl rfl ?_
      refine s_aload_n hG dX9_takesLeast_25 0 rfl rfl ?_
      refine s_getI hG hE dX9_takesLeast_26 fl_X9_80 rfl kM_1 ?_
      refine s_ck (fun q7 => ?_)
      refine s_iast hG hE dX9_takesLeast_29 kM_17 q7 (fun h8 => ?_)
      refine s_iconst hG dX9_takesLeast_30 ic_1 ?_
      exact s_zret hG hT (by decide) dX9_takesLeast_31

theorem c_X9_takesLeast (w : WT) (l : Launch) (a1 : Int32) (h : Hp) : ∀ v h', m_X9_takesLeast a1 h = some (v, h') → MetM l (GM w) yX9_takesLeast cX9_takesLeast 2 (some .boolean) 4 [.ref (gB (GM w) + 1), .int a1] h (inI v) h' :=
  met_of (by decide) (lokM w) (Nat.le_of_ble_eq_true rfl) (fun x hx hG hE hR hT => s_X9_takesLeast w hx hG hE hR hT a1 h)
theorem bc_105 : (Int8.ofInt 105).toInt32 = 105 := by decide
theorem sc_2098 : (Int16.ofInt 2098).toInt32 = 2098 := by decide
theorem wd_1321 : Jvm.Cond.constant RX9 217 75204 ∈ GW := gw_at 1321 (by decide +kernel) (by decide +kernel)
theorem fl_X9_47 : FL RX9 47 9 12 := ⟨by decide, by decide, gw_at 1079 (by decide +kernel) (by decide +kernel), rfl⟩
theorem fM_9_12 : SM 1 12 = some 9 := rfl
theorem kM_9 : LM 9 = (20, 48) := rfl
theorem bc_118 : (Int8.ofInt 118).toInt32 = 118 := by decide
theorem vv_X9_219 : VV RX9 219 yX9_takesOath cX9_takesOath 3 (some .boolean) 1 := ⟨⟨gw_at 1323 (by decide +kernel) (by decide +kernel), gw_at 1326 (by decide +kernel) (by decide +kernel), gw_at 96 (by decide +kernel) (by decide +kernel), by decide +kernel, by decide⟩, gw_at 1325 (by decide +kernel) (by decide +kernel), gw_at 48 (by decide +kernel) (by decide +kernel)⟩
theorem wd_1322 : Jvm.Cond.constant RX9 218 514226 ∈ GW := gw_at 1322 (by decide +kernel) (by decide +kernel)
theorem bc_97 : (Int8.ofInt 97).toInt32 = 97 := by decide
theorem vv_X9_213 : VV RX9 213 yX9_takesLose cX9_takesLose 4 (some .boolean) 2 := ⟨⟨gw_at 1315 (by decide +kernel) (by decide +kernel), gw_at 1318 (by decide +kernel) (by decide +kernel), gw_at 96 (by decide +kernel) (by decide +kernel), by decide +kernel, by decide⟩, gw_at 1317 (by decide +kernel) (by decide +kernel), gw_at 47 (by decide +kernel) (by decide +kernel)⟩
theorem wd_1274 : Jvm.Cond.constant RX9 212 215205 ∈ GW := gw_at 1274 (by decide +kernel) (by decide +kernel)
theorem bc_101 : (Int8.ofInt 101).toInt32 = 101 := by decide
theorem vv_X9_222 : VV RX9 222 yX9_takesLeast cX9_takesLeast 2 (some .boolean) 1 := ⟨⟨gw_at 1328 (by decide +kernel) (by decide +kernel), gw_at 1331 (by decide +kernel) (by decide +kernel), gw_at 96 (by decide +kernel) (by decide +kernel), by decide +kernel, by decide⟩, gw_at 1330 (by decide +kernel) (by decide +kernel), gw_at 49 (by decide +kernel) (by decide +kernel)⟩
theorem wd_1333 : Jvm.Cond.constant RX9 225 605580 ∈ GW := gw_at 1333 (by decide +kernel) (by decide +kernel)
def m_X9_takesClause_L181 (a2 : Int32) (h : Hp) : Option (Int32 × Hp) := cb (m_X9_takesE a2 h) fun v1 h2 => if v1 = 0 then some (0, h2) else some (1, h2)
set_option maxRecDepth 20000 in
set_option maxHeartbeats 4000000 in
theorem s_X9_takesClause_L181 (w : WT) {x : CT} {l : Launch} (hx : xl x = l) (hG : Gd x cX9_takesClause 4 RX9) (hE : Ge x (GM w)) (hR : Rm x 7) (hT : Rt x (some .boolean)) (a2 : Int32) (h : Hp) : Sn x 4 (gA (GM w)) (0, 0) (ζM x (GM w) inI) (gW (GM w) h) 181 [(0, .ref (gB (GM w) + 1)), (2, .int a2)] [] (m_X9_takesClause_L181 a2 h) := by
  unfold m_X9_takesClause_L181
  refine s_aload_n hG dX9_takesClause_181 0 rfl rfl ?_
  refine s_iload_n hG dX9_takesClause_182 1 rfl rfl ?_
  refine s_callV (a := 1) (c := 9) (inj := inI) (As := [.int a2]) (st := []) rfl hG hE dX9_takesClause_183 hR (by decide) vv_X9_206 (by decide) rfl kM_1 rfl (Nat.le_of_ble_eq_true rfl) rfl (fun zv zh zq => c_X9_takesE w (xl x) a2 h zv zh zq) (fun v1 h2 => ?_)
  refine s_if_eq hG dX9_takesClause_186 (tgt := 193) (by decide) (fun q3 => ?_) (fun q3 => ?_)
  · refine s_iconst hG dX9_takesClause_193 ic_0 ?_
    exact s_zret hG hT (by decide) dX9_takesClause_194
  · refine s_iconst hG dX9_takesClause_189 ic_1 ?_
    refine s_goto (tgt := 194) hG dX9_takesClause_190 (by decide) ?_
    exact s_zret hG hT (by decide) dX9_takesClause_194

def m_X9_takesClause_L150 (a2 : Int32) (a3 : Int32) (t0 : Int32) (t1 : Int32) (t2 : Nat) (h : Hp) : Option (Int32 × Hp) := ck (inb t1 48) (hb (si h t2 t1.toNatClampNeg t0) fun h2 => if a3 = 105 then cb (m_X9_takesWord 75204 4 h2) fun v7 h8 => if v7 = 0 then some (0, h8) else m_X9_takesClause_L181 a2 h8 else cb (m_X9_takesWord 2098 3 h2) fun v4 h5 => if v4 = 0 then some (0, h5) else m_X9_takesClause_L181 a2 h5)
set_option maxRecDepth 20000 in
set_option maxHeartbeats 4000000 in
theorem s_X9_takesClause_L150 (w : WT) {x : CT} {l : Launch} (hx : xl x = l) (hG : Gd x cX9_takesClause 4 RX9) (hE : Ge x (GM w)) (hR : Rm x 7) (hT : Rt x (some .boolean)) (a2 : Int32) (a3 : Int32) (t0 : Int32) (t1 : Int32) (t2 : Nat) (q2 : LM t2 = (20, 48)) (h : Hp) : Sn x 4 (gA (GM w)) (0, 0) (ζM x (GM w) inI) (gW (GM w) h) 150 [(0, .ref (gB (GM w) + 1)), (2, .int a2), (3, .int a3)] [.int t0, .int t1, .ref (gB (GM w) + t2)] (m_X9_takesClause_L150 a2 a3 t0 t1 t2 h) := by
  unfold m_X9_takesClause_L150
  refine s_ck (fun q1 => ?_)
  refine s_iast hG hE dX9_takesClause_150 q2 q1 (fun h2 => ?_)
  refine s_iload_n hG dX9_takesClause_151 2 rfl rfl ?_
  refine s_bipush hG dX9_takesClause_152 bc_105 ?_
  refine s_icmp_ne hG dX9_takesClause_154 (tgt := 170) (by decide) (fun q3 => ?_) (fun q3 => ?_)
  · refine s_aload_n hG dX9_takesClause_157 0 rfl rfl ?_
    refine s_ldc hG dX9_takesClause_158 wd_1321 ?_
    refine s_iconst hG dX9_takesClause_160 ic_4 ?_
    refine s_callV (a := 1) (c := 9) (inj := inI) (As := [.int 75204, .int 4]) (st := []) rfl hG hE dX9_takesClause_161 hR (by decide) vv_X9_202 (by decide) rfl kM_1 rfl (Nat.le_of_ble_eq_true rfl) rfl (fun zv zh zq => c_X9_takesWord w (xl x) 75204 4 h2 zv zh zq) (fun v7 h8 => ?_)
    refine s_if_eq hG dX9_takesClause_164 (tgt := 193) (by decide) (fun q9 => ?_) (fun q9 => ?_)
    · refine s_iconst hG dX9_takesClause_193 ic_0 ?_
      exact s_zret hG hT (by decide) dX9_takesClause_194
    · refine s_goto (tgt := 181) hG dX9_takesClause_167 (by decide) ?_
      refine s_lv [0, 1] rfl ?_
      exact s_X9_takesClause_L181 w hx hG hE hR hT a2 h8
  · refine s_aload_n hG dX9_takesClause_170 0 rfl rfl ?_
    refine s_sipush hG dX9_takesClause_171 sc_2098 ?_
    refine s_iconst hG dX9_takesClause_174 ic_3 ?_
    refine s_callV (a := 1) (c := 9) (inj := inI) (As := [.int 2098, .int 3]) (st := []) rfl hG hE dX9_takesClause_175 hR (by decide) vv_X9_202 (by decide) rfl kM_1 rfl (Nat.le_of_ble_eq_true rfl) rfl (fun zv zh zq => c_X9_takesWord w (xl x) 2098 3 h2 zv zh zq) (fun v4 h5 => ?_)
    refine s_if_eq hG dX9_takesClause_178 (tgt := 193) (by decide) (fun q6 => ?_) (fun q6 => ?_)
    · refine s_iconst hG dX9_takesClause_193 ic_0 ?_
      exact s_zret hG hT (by decide) dX9_takesClause_194
    · refine s_lv [0, 1] rfl ?_
      exact s_X9_takesClause_L181 w hx hG hE hR hT a2 h5

def m_X9_takesClause_L134 (a2 : Int32) (a3 : Int32) (h : Hp) : Option (Int32 × Hp) := if a3 = 105 then m_X9_takesClause_L150 a2 a3 1 a2 9 h else m_X9_takesClause_L150 a2 a3 3 a2 9 h
set_option maxRecDepth 20000 in
set_option maxHeartbeats 4000000 in
theorem s_X9_takesClause_L134 (w : WT) {x : CT} {l : Launch} (hx : xl x = l) (hG : Gd x cX9_takesClause 4 RX9) (hE : Ge x (GM w)) (hR : Rm x 7) (hT : Rt x (some .boolean)) (a2 : Int32) (a3 : Int32) (h : Hp) : Sn x 4 (gA (GM w)) (0, 0) (ζM x (GM w) inI) (gW (GM w) h) 134 [(0, .ref (gB (GM w) + 1)), (2, .int a2), (3, .int a3)] [] (m_X9_takesClause_L134 a2 a3 h) := by
  unfold m_X9_takesClause_L134
  refine s_aload_n hG dX9_takesClause_134 0 rfl rfl ?_
  refine s_getS hG hE dX9_takesClause_135 fl_X9_47 rfl kM_1 fM_9_12 (nzM kM_9) ?_
  refine s_iload_n hG dX9_takesClause_138 1 rfl rfl ?_
  refine s_iload_n hG dX9_takesClause_139 2 rfl rfl ?_
  refine s_bipush hG dX9_takesClause_140 bc_105 ?_
  refine s_icmp_ne hG dX9_takesClause_142 (tgt := 149) (by decide) (fun q1 => ?_) (fun q1 => ?_)
  · refine s_iconst hG dX9_takesClause_145 ic_1 ?_
    refine s_goto (tgt := 150) hG dX9_takesClause_146 (by decide) ?_
    exact s_X9_takesClause_L150 w hx hG hE hR hT a2 a3 1 a2 9 kM_9 h
  · refine s_iconst hG dX9_takesClause_149 ic_3 ?_
    exact s_X9_takesClause_L150 w hx hG hE hR hT a2 a3 3 a2 9 kM_9 h

def m_X9_takesClause_L211 (a2 : Int32) (a3 : Int32) (t0 : Int32) (t1 : Int32) (t2 : Nat) (h : Hp) : Option (Int32 × Hp) := ck (inb t1 48) (hb (si h t2 t1.toNatClampNeg t0) fun h2 => if a3 = 118 then cb (m_X9_takesWord 514226 4 h2) fun v7 h8 => if v7 = 0 then some (0, h8) else cb (m_X9_takesE a2 h8) fun v10 h11 => if v10 = 0 then some (0, h11) else some (1, h11) else cb (m_X9_takesOath a2 h2) fun v4 h5 => ck (isb v4) (some (v4, h5)))
set_option maxRecDepth 20000 in
set_option maxHeartbeats 4000000 in
theorem s_X9_takesClause_L211 (w : WT) {x : CT} {l : Launch} (hx : xl x = l) (hG : Gd x cX9_takesClause 4 RX9) (hE : Ge x (GM w)) (hR : Rm x 7) (hT : Rt x (some .boolean)) (a2 : Int32) (a3 : Int32) (t0 : Int32) (t1 : Int32) (t2 : Nat) (q2 : LM t2 = (20, 48)) (h : Hp) : Sn x 4 (gA (GM w)) (0, 0) (ζM x (GM w) inI) (gW (GM w) h) 211 [(0, .ref (gB (GM w) + 1)), (2, .int a2), (3, .int a3)] [.int t0, .int t1, .ref (gB (GM w) + t2)] (m_X9_takesClause_L211 a2 a3 t0 t1 t2 h) := by
  unfold m_X9_takesClause_L211
  refine s_ck (fun q1 => ?_)
  refine s_iast hG hE dX9_takesClause_211 q2 q1 (fun h2 => ?_)
  refine s_iload_n hG dX9_takesClause_212 2 rfl rfl ?_
  refine s_bipush hG dX9_takesClause_213 bc_118 ?_
  refine s_icmp_ne hG dX9_takesClause_215 (tgt := 244) (by decide) (fun q3 => ?_) (fun q3 => ?_)
  · refine s_aload_n hG dX9_takesClause_218 0 rfl rfl ?_
    refine s_ldc hG dX9_takesClause_219 wd_1322 ?_
    refine s_iconst hG dX9_takesClause_221 ic_4 ?_
    refine s_callV (a := 1) (c := 9) (inj := inI) (As := [.int 514226, .int 4]) (st := []) rfl hG hE dX9_takesClause_222 hR (by decide) vv_X9_202 (by decide) rfl kM_1 rfl (Nat.le_of_ble_eq_true rfl) rfl (fun zv zh zq => c_X9_takesWord w (xl x) 514226 4 h2 zv zh zq) (fun v7 h8 => ?_)
    refine s_if_eq hG dX9_takesClause_225 (tgt := 240) (by decide) (fun q9 => ?_) (fun q9 => ?_)
    · refine s_iconst hG dX9_takesClause_240 ic_0 ?_
      refine s_goto (tgt := 249) hG dX9_takesClause_241 (by decide) ?_
      exact s_zret hG hT (by decide) dX9_takesClause_249
    · refine s_aload_n hG dX9_takesClause_228 0 rfl rfl ?_
      refine s_iload_n hG dX9_takesClause_229 1 rfl rfl ?_
      refine s_callV (a := 1) (c := 9) (inj := inI) (As := [.int a2]) (st := []) rfl hG hE dX9_takesClause_230 hR (by decide) vv_X9_206 (by decide) rfl kM_1 rfl (Nat.le_of_ble_eq_true rfl) rfl (fun zv zh zq => c_X9_takesE w (xl x) a2 h8 zv zh zq) (fun v10 h11 => ?_)
      refine s_if_eq hG dX9_takesClause_233 (tgt := 240) (by decide) (fun q12 => ?_) (fun q12 => ?_)
      · refine s_iconst hG dX9_takesClause_240 ic_0 ?_
        refine s_goto (tgt := 249) hG dX9_takesClause_241 (by decide) ?_
        exact s_zret hG hT (by decide) dX9_takesClause_249
      · refine s_iconst hG dX9_takesClause_236 ic_1 ?_
        refine s_goto (tgt := 249) hG dX9_takesClause_237 (by decide) ?_
        exact s_zret hG hT (by decide) dX9_takesClause_249
  · refine s_aload_n hG dX9_takesClause_244 0 rfl rfl ?_
    refine s_iload_n hG dX9_takesClause_245 1 rfl rfl ?_
    refine s_callV (a := 1) (c := 9) (inj := inI) (As := [.int a2]) (st := []) rfl hG hE dX9_takesClause_246 hR (by decide) vv_X9_219 (by decide) rfl kM_1 rfl (Nat.le_of_ble_eq_true rfl) rfl (fun zv zh zq => c_X9_takesOath w (xl x) a2 h2 zv zh zq) (fun v4 h5 => ?_)
    refine s_ck (fun q6 => ?_)
    exact s_zret hG hT (isb_cases q6) dX9_takesClause_249

def m_X9_takesClause_L28 (a1 : Int32) (a2 : Int32) (t0 : Int32) (h : Hp) : Option (Int32 × Hp) := ck (inb a2 48) (hb (si h 9 a2.toNatClampNeg 6) fun h2 => cb (m_X9_next h2) fun v3 h4 => if v3 = 98 then if t0 = 105 then m_X9_takesClause_L134 a2 t0 h4 else if t0 = 97 then m_X9_takesClause_L134 a2 t0 h4 else cb (m_X9_takesLose a1 1 h4) fun v8 h9 => ck (isb v8) (some (v8, h9)) else if v3 = 102 then hb (si h4 9 a2.toNatClampNeg 0) fun h12 => cb (m_X9_takesWord 215205 4 h12) fun v13 h14 => if v13 = 0 then some (0, h14) else cb (m_X9_takesE a2 h14) fun v16 h17 => if v16 = 0 then some (0, h17) else some (1, h17) else if v3 = 108 then if t0 = 101 then cb (m_X9_takesLeast a1 h4) fun v24 h25 => ck (isb v24) (some (v24, h25)) else cb (m_X9_takesLose a1 0 h4) fun v21 h22 => ck (isb v21) (some (v21, h22)) else if v3 = 111 then if t0 = 118 then m_X9_takesClause_L211 a2 t0 4 a2 9 h4 else m_X9_takesClause_L211 a2 t0 2 a2 9 h4 else hb (si h4 9 a2.toNatClampNeg 5) fun h29 => cb (m_X9_takesWord 605580 4 h29) fun v30 h31 => if v30 = 0 then some (0, h31) else cb (m_X9_takesE a2 h31) fun v33 h34 => if v33 = 0 then some (0, h34) else some (1, h34))
set_option maxRecDepth 20000 in
set_option maxHeartbeats 4000000 in
theorem s_X9_takesClause_L28 (w : WT) {x : CT} {l : Launch} (hx : xl x = l) (hG : Gd x cX9_takesClause 4 RX9) (hE : Ge x (GM w)) (hR : Rm x 7) (hT : Rt x (some .boolean)) (a1 : Int32) (a2 : Int32) (t0 : Int32) (h : Hp) : Sn x 4 (gA (GM w)) (0, 0) (ζM x (GM w) inI) (gW (GM w) h) 28 [(0, .ref (gB (GM w) + 1)), (1, .int a1), (2, .int a2)] [.int t0] (m_X9_takesClause_L28 a1 a2 t0 h) := by
  unfold m_X9_takesClause_L28
  refine s_istore_n (lv' := [(3, .int t0), (0, .ref (gB (GM w) + 1)), (1, .int a1), (2, .int a2)]) hG dX9_takesClause_28 rfl (by decide) rfl ?_
  refine s_aload_n hG dX9_takesClause_29 1 rfl rfl ?_
  refine s_getS hG hE dX9_takesClause_30 fl_X9_47 rfl kM_1 fM_9_12 (nzM kM_9) ?_
  refine s_iload_n hG dX9_takesClause_33 3 rfl rfl ?_
  refine s_bipush hG dX9_takesClause_34 bc_6 ?_
  refine s_ck (fun q1 => ?_)
  refine s_iast hG hE dX9_takesClause_36 kM_9 q1 (fun h2 => ?_)
  refine s_aload_n hG dX9_takesClause_37 1 rfl rfl ?_
  refine s_callV (a := 1) (c := 9) (inj := inI) (As := []) (st := []) rfl hG hE dX9_takesClause_38 hR (by decide) vv_X9_170 (by decide) rfl kM_1 rfl (Nat.le_of_ble_eq_true rfl) rfl (fun zv zh zq => c_X9_next w (xl x) h2 zv zh zq) (fun v3 h4 => ?_)
  refine s_if (fun q5 => ?_) (fun q5 => ?_)
  · refine s_lsw (tgt := 115) (off := 74) hG dX9_takesClause_41 (by decide) (by rw [q5]; decide) (by decide) ?_
    refine s_iload_n hG dX9_takesClause_115 0 rfl rfl ?_
    refine s_bipush hG dX9_takesClause_116 bc_105 ?_
    refine s_icmp_eq hG dX9_takesClause_118 (tgt := 134) (by decide) (fun q6 => ?_) (fun q6 => ?_)
    · refine s_lv [1, 3, 0] rfl ?_
      exact s_X9_takesClause_L134 w hx hG hE hR hT a2 t0 h4
    · refine s_iload_n hG dX9_takesClause_121 0 rfl rfl ?_
      refine s_bipush hG dX9_takesClause_122 bc_97 ?_
      refine s_icmp_eq hG dX9_takesClause_124 (tgt := 134) (by decide) (fun q7 => ?_) (fun q7 => ?_)
      · refine s_lv [1, 3, 0] rfl ?_
        exact s_X9_takesClause_L134 w hx hG hE hR hT a2 t0 h4
      · refine s_aload_n hG dX9_takesClause_127 1 rfl rfl ?_
        refine s_iload_n hG dX9_takesClause_128 2 rfl rfl ?_
        refine s_iconst hG dX9_takesClause_129 ic_1 ?_
        refine s_callV (a := 1) (c := 9) (inj := inI) (As := [.int a1, .int 1]) (st := []) rfl hG hE dX9_takesClause_130 hR (by decide) vv_X9_213 (by decide) rfl kM_1 rfl (Nat.le_of_ble_eq_true rfl) rfl (fun zv zh zq => c_X9_takesLose w (xl x) a1 1 h4 zv zh zq) (fun v8 h9 => ?_)
        refine s_ck (fun q10 => ?_)
        exact s_zret hG hT (isb_cases q10) dX9_takesClause_133
  · refine s_if (fun q11 => ?_) (fun q11 => ?_)
    · refine s_lsw (tgt := 84) (off := 43) hG dX9_takesClause_41 (by decide) (by rw [q11]; decide) (by decide) ?_
      refine s_aload_n hG dX9_takesClause_84 1 rfl rfl ?_
      refine s_getS hG hE dX9_takesClause_85 fl_X9_47 rfl kM_1 fM_9_12 (nzM kM_9) ?_
      refine s_iload_n hG dX9_takesClause_88 3 rfl rfl ?_
      refine s_iconst hG dX9_takesClause_89 ic_0 ?_
      refine s_iast hG hE dX9_takesClause_90 kM_9 q1 (fun h12 => ?_)
      refine s_aload_n hG dX9_takesClause_91 1 rfl rfl ?_
      refine s_ldc hG dX9_takesClause_92 wd_1274 ?_
      refine s_iconst hG dX9_takesClause_94 ic_4 ?_
      refine s_callV (a := 1) (c := 9) (inj := inI) (As := [.int 215205, .int 4]) (st := []) rfl hG hE dX9_takesClause_95 hR (by decide) vv_X9_202 (by decide) rfl kM_1 rfl (Nat.le_of_ble_eq_true rfl) rfl (fun zv zh zq => c_X9_takesWord w (xl x) 215205 4 h12 zv zh zq) (fun v13 h14 => ?_)
      refine s_if_eq hG dX9_takesClause_98 (tgt := 113) (by decide) (fun q15 => ?_) (fun q15 => ?_)
      · refine s_iconst hG dX9_takesClause_113 ic_0 ?_
        exact s_zret hG hT (by decide) dX9_takesClause_114
      · refine s_aload_n hG dX9_takesClause_101 1 rfl rfl ?_
        refine s_iload_n hG dX9_takesClause_102 3 rfl rfl ?_
        refine s_callV (a := 1) (c := 9) (inj := inI) (As := [.int a2]) (st := []) rfl hG hE dX9_takesClause_103 hR (by decide) vv_X9_206 (by decide) rfl kM_1 rfl (Nat.le_of_ble_eq_true rfl) rfl (fun zv zh zq => c_X9_takesE w (xl x) a2 h14 zv zh zq) (fun v16 h17 => ?_)
        refine s_if_eq hG dX9_takesClause_106 (tgt := 113) (by decide) (fun q18 => ?_) (fun q18 => ?_)
        · refine s_iconst hG dX9_takesClause_113 ic_0 ?_
          exact s_zret hG hT (by decide) dX9_takesClause_114
        · refine s_iconst hG dX9_takesClause_109 ic_1 ?_
          refine s_goto (tgt := 114) hG dX9_takesClause_110 (by decide) ?_
          exact s_zret hG hT (by decide) dX9_takesClause_114
    · refine s_if (fun q19 => ?_) (fun q19 => ?_)
      · refine s_lsw (tgt := 250) (off := 209) hG dX9_takesClause_41 (by decide) (by rw [q19]; decide) (by decide) ?_
        refine s_iload_n hG dX9_takesClause_250 0 rfl rfl ?_
        refine s_bipush hG dX9_takesClause_251 bc_101 ?_
        refine s_icmp_ne hG dX9_takesClause_253 (tgt := 264) (by decide) (fun q20 => ?_) (fun q20 => ?_)
        · refine s_aload_n hG dX9_takesClause_256 1 rfl rfl ?_
          refine s_iload_n hG dX9_takesClause_257 2 rfl rfl ?_
          refine s_callV (a := 1) (c := 9) (inj := inI) (As := [.int a1]) (st := []) rfl hG hE dX9_takesClause_258 hR (by decide) vv_X9_222 (by decide) rfl kM_1 rfl (Nat.le_of_ble_eq_true rfl) rfl (fun zv zh zq => c_X9_takesLeast w (xl x) a1 h4 zv zh zq) (fun v24 h25 => ?_)
          refine s_goto (tgt := 270) hG dX9_takesClause_261 (by decide) ?_
          refine s_ck (fun q26 => ?_)
          exact s_zret hG hT (isb_cases q26) dX9_takesClause_270
        · refine s_aload_n hG dX9_takesClause_264 1 rfl rfl ?_
          refine s_iload_n hG dX9_takesClause_265 2 rfl rfl ?_
          refine s_iconst hG dX9_takesClause_266 ic_0 ?_
          refine s_callV (a := 1) (c := 9) (inj := inI) (As := [.int a1, .int 0]) (st := []) rfl hG hE dX9_takesClause_267 hR (by decide) vv_X9_213 (by decide) rfl kM_1 rfl (Nat.le_of_ble_eq_true rfl) rfl (fun zv zh zq => c_X9_takesLose w (xl x) a1 0 h4 zv zh zq) (fun v21 h22 => ?_)
          refine s_ck (fun q23 => ?_)
          exact s_zret hG hT (isb_cases q23) dX9_takesClause_270
      · refine s_if (fun q27 => ?_) (fun q27 => ?_)
        · refine s_lsw (tgt := 195) (off := 154) hG dX9_takesClause_41 (by decide) (by rw [q27]; decide) (by decide) ?_
          refine s_aload_n hG dX9_takesClause_195 1 rfl rfl ?_
          refine s_getS hG hE dX9_takesClause_196 fl_X9_47 rfl kM_1 fM_9_12 (nzM kM_9) ?_
          refine s_iload_n hG dX9_takesClause_199 3 rfl rfl ?_
          refine s_iload_n hG dX9_takesClause_200 0 rfl rfl ?_
          refine s_bipush hG dX9_takesClause_201 bc_118 ?_
          refine s_icmp_ne hG dX9_takesClause_203 (tgt := 210) (by decide) (fun q28 => ?_) (fun q28 => ?_)
          · refine s_iconst hG dX9_takesClause_206 ic_4 ?_
            refine s_goto (tgt := 211) hG dX9_takesClause_207 (by decide) ?_
            refine s_lv [1, 3, 0] rfl ?_
            exact s_X9_takesClause_L211 w hx hG hE hR hT a2 t0 4 a2 9 kM_9 h4
          · refine s_iconst hG dX9_takesClause_210 ic_2 ?_
            refine s_lv [1, 3, 0] rfl ?_
            exact s_X9_takesClause_L211 w hx hG hE hR hT a2 t0 2 a2 9 kM_9 h4
        · refine s_lsw (tgt := 271) (off := 230) hG dX9_takesClause_41 (by decide) (by show Op.lookupswitch.offset [(98, 74), (102, 43), (108, 209), (111, 154)] _ _ = _; rw [lv_osw q5 (show (98 : Int32).toInt = 98 by decide), lv_osw q11 (show (102 : Int32).toInt = 102 by decide), lv_osw q19 (show (108 : Int32).toInt = 108 by decide), lv_osw q27 (show (111 : Int32).toInt = 111 by decide)]; rfl) (by decide) ?_
          refine s_aload_n hG dX9_takesClause_271 1 rfl rfl ?_
          refine s_getS hG hE dX9_takesClause_272 fl_X9_47 rfl kM_1 fM_9_12 (nzM kM_9) ?_
          refine s_iload_n hG dX9_takesClause_275 3 rfl rfl ?_
          refine s_iconst hG dX9_takesClause_276 ic_5 ?_
          refine s_iast hG hE dX9_takesClause_277 kM_9 q1 (fun h29 => ?_)
          refine s_aload_n hG dX9_takesClause_278 1 rfl rfl ?_
          refine s_ldc hG dX9_takesClause_279 wd_1333 ?_
          refine s_iconst hG dX9_takesClause_281 ic_4 ?_
          refine s_callV (a := 1) (c := 9) (inj := inI) (As := [.int 605580, .int 4]) (st := []) rfl hG hE dX9_takesClause_282 hR (by decide) vv_X9_202 (by decide) rfl kM_1 rfl (Nat.le_of_ble_eq_true rfl) rfl (fun zv zh zq => c_X9_takesWord w (xl x) 605580 4 h29 zv zh zq) (fun v30 h31 => ?_)
          refine s_if_eq hG dX9_takesClause_285 (tgt := 300) (by decide) (fun q32 => ?_) (fun q32 => ?_)
          · refine s_iconst hG dX9_takesClause_300 ic_0 ?_
            exact s_zret hG hT (by decide) dX9_takesClause_301
          · refine s_aload_n hG dX9_takesClause_288 1 rfl rfl ?_
            refine s_iload_n hG dX9_takesClause_289 3 rfl rfl ?_
            refine s_callV (a := 1) (c := 9) (inj := inI) (As := [.int a2]) (st := []) rfl hG hE dX9_takesClause_290 hR (by decide) vv_X9_206 (by decide) rfl kM_1 rfl (Nat.le_of_ble_eq_true rfl) rfl (fun zv zh zq => c_X9_takesE w (xl x) a2 h31 zv zh zq) (fun v33 h34 => ?_)
            refine s_if_eq hG dX9_takesClause_293 (tgt := 300) (by decide) (fun q35 => ?_) (fun q35 => ?_)
            · refine s_iconst hG dX9_takesClause_300 ic_0 ?_
              exact s_zret hG hT (by decide) dX9_takesClause_301
            · refine s_iconst hG dX9_takesClause_296 ic_1 ?_
              refine s_goto (tgt := 301) hG dX9_takesClause_297 (by decide) ?_
              exact s_zret hG hT (by decide) dX9_takesClause_301

def m_X9_takesClause (a1 : Int32) (a2 : Int32) (h : Hp) : Option (Int32 × Hp) := if (gi h 1 8) ≤ ((gi h 1 9) + 1) then m_X9_takesClause_L28 a1 a2 (-1) h else ck (inb ((gi h 1 9) + 1) 100) (m_X9_takesClause_L28 a1 a2 (gi h 7 ((gi h 1 9) + 1).toNatClampNeg) h)
set_option maxRecDepth 20000 in
set_option maxHeartbeats 4000000 in
theorem s_X9_takesClause (w : WT) {x : CT} {l : Launch} (hx : xl x = l) (hG : Gd x cX9_takesClause 4 RX9) (hE : Ge x (GM w)) (hR : Rm x 7) (hT : Rt x (some .boolean)) (a1 : Int32) (a2 : Int32) (h : Hp) : Sn x 4 (gA (GM w)) (0, 0) (ζM x (GM w) inI) (gW (GM w) h) 0 [(0, .ref (gB (GM w) + 1)), (1, .int a1), (2, .int a2)] [] (m_X9_takesClause a1 a2 h) := by
  unfold m_X9_takesClause
  refine s_aload_n hG dX9_takesClause_0 0 rfl rfl ?_
  refine s_getI hG hE dX9_takesClause_1 fl_X9_38 rfl kM_1 ?_
  refine s_iconst hG dX9_takesClause_4 ic_1 ?_
  refine s_iadd hG dX9_takesClause_5 ?_
  refine s_aload_n hG dX9_takesClause_6 0 rfl rfl ?_
  refine s_getI hG hE dX9_takesClause_7 fl_X9_35 rfl kM_1 ?_
  refine s_icmp_ge hG dX9_takesClause_10 (tgt := 27) (by decide) (fun q1 => ?_) (fun q1 => ?_)
  · refine s_iconst hG dX9_takesClause_27 ic_m1 ?_
    exact s_X9_takesClause_L28 w hx hG hE hR hT a1 a2 (-1) h
  · refine s_aload_n hG dX9_takesClause_13 0 rfl rfl ?_
    refine s_getS hG hE dX9_takesClause_14 fl_X9_41 rfl kM_1 fM_9_10 (nzM kM_7) ?_
    refine s_aload_n hG dX9_takesClause_17 0 rfl rfl ?_
    refine s_getI hG hE dX9_takesClause_18 fl_X9_38 rfl kM_1 ?_
    refine s_iconst hG dX9_takesClause_21 ic_1 ?_
    refine s_iadd hG dX9_takesClause_22 ?_
    refine s_ck (fun q2 => ?_)
    refine s_iald hG hE dX9_takesClause_23 kM_7 q2 ?_
    refine s_goto (tgt := 28) hG dX9_takesClause_24 (by decide) ?_
    exact s_X9_takesClause_L28 w hx hG hE hR hT a1 a2 (gi h 7 ((gi h 1 9) + 1).toNatClampNeg) h

theorem c_X9_takesClause (w : WT) (l : Launch) (a1 : Int32) (a2 : Int32) (h : Hp) : ∀ v h', m_X9_takesClause a1 a2 h = some (v, h') → MetM l (GM w) yX9_takesClause cX9_takesClause 4 (some .boolean) 7 [.ref (gB (GM w) + 1), .int a1, .int a2] h (inI v) h' :=
  met_of (by decide) (lokM w) (Nat.le_of_ble_eq_true rfl) (fun x hx hG hE hR hT => s_X9_takesClause w hx hG hE hR hT a1 a2 h)
theorem vv_X9_226 : VV RX9 226 yX9_takesClause cX9_takesClause 4 (some .boolean) 2 := ⟨⟨gw_at 1266 (by decide +kernel) (by decide +kernel), gw_at 1269 (by decide +kernel) (by decide +kernel), gw_at 96 (by decide +kernel) (by decide +kernel), by decide +kernel, by decide⟩, gw_at 1268 (by decide +kernel) (by decide +kernel), gw_at 35 (by decide +kernel) (by decide +kernel)⟩
theorem fl_X9_44 : FL RX9 44 9 11 := ⟨by decide, by decide, gw_at 1078 (by decide +kernel) (by decide +kernel), rfl⟩
theorem fM_9_11 : SM 1 11 = some 8 := rfl
theorem kM_8 : LM 8 = (20, 6) := rfl
def m_X9_goes_L50 : Nat → Int32 → Int32 → Hp → Option (Int32 × Hp)
  | 0, _, _, _ => none
  | n + 1, a1, a2, h => cb (m_X9_takesClause a1 ((8 * a1) + a2) h) fun v1 h2 => if v1 = 0 then some (0, h2) else vb (a2 + 1) fun v4 => ck (inb a1 6) (hb (si h2 8 a1.toNatClampNeg v4) fun h6 => if (gi h6 1 9) = (gi h6 1 8) then some (1, h6) else if v4 = 8 then some (0, h6) else cb (m_X9_takes 59 h6) fun v9 h10 => if v9 = 0 then some (0, h10) else m_X9_goes_L50 n a1 v4 h10)
set_option maxRecDepth 20000 in
set_option maxHeartbeats 4000000 in
theorem s_X9_goes_L50 (w : WT) {x : CT} {l : Launch} (hx : xl x = l) (hG : Gd x cX9_goes 3 RX9) (hE : Ge x (GM w)) (hR : Rm x 8) (hT : Rt x (some .boolean)) : ∀ (n : Nat) (a1 : Int32) (a2 : Int32) (h : Hp), Sn x 3 (gA (GM w)) (0, 0) (ζM x (GM w) inI) (gW (GM w) h) 50 [(0, .ref (gB (GM w) + 1)), (1, .int a1), (2, .int a2)] [] (m_X9_goes_L50 n a1 a2 h) := by
  intro n
  induction n with
  | zero => intro a1 a2 h; exact s_none
  | succ n ih =>
    intro a1 a2 h
    rw [m_X9_goes_L50]
    refine s_aload_n hG dX9_goes_50 0 rfl rfl ?_
    refine s_iload_n hG dX9_goes_51 1 rfl rfl ?_
    refine s_bipush hG dX9_goes_52 bc_8 ?_
    refine s_iload_n hG dX9_goes_54 1 rfl rfl ?_
    refine s_imul hG dX9_goes_55 ?_
    refine s_iload_n hG dX9_goes_56 2 rfl rfl ?_
    refine s_iadd hG dX9_goes_57 ?_
    refine s_callV (a := 1) (c := 9) (inj := inI) (As := [.int a1, .int ((8 * a1) + a2)]) (st := []) rfl hG hE dX9_goes_58 hR (by decide) vv_X9_226 (by decide) rfl kM_1 rfl (Nat.le_of_ble_eq_true rfl) rfl (fun zv zh zq => c_X9_takesClause w (xl x) a1 ((8 * a1) + a2) h zv zh zq) (fun v1 h2 => ?_)
    refine s_if_ne hG dX9_goes_61 (tgt := 66) (by decide) (fun q3 => ?_) (fun q3 => ?_)
    · refine s_iconst hG dX9_goes_64 ic_0 ?_
      exact s_zret hG hT (by decide) dX9_goes_65
    · refine s_iinc hG dX9_goes_66 2 rfl ic_1 (by decide) (fun v4 => [(2, .int v4), (0, .ref (gB (GM w) + 1)), (1, .int a1)]) (fun _ => rfl) (fun v4 => ?_)
      refine s_aload_n hG dX9_goes_69 1 rfl rfl ?_
      refine s_getS hG hE dX9_goes_70 fl_X9_44 rfl kM_1 fM_9_11 (nzM kM_8) ?_
      refine s_iload_n hG dX9_goes_73 2 rfl rfl ?_
      refine s_iload_n hG dX9_goes_74 0 rfl rfl ?_
      refine s_ck (fun q5 => ?_)
      refine s_iast hG hE dX9_goes_75 kM_8 q5 (fun h6 => ?_)
      refine s_aload_n hG dX9_goes_76 1 rfl rfl ?_
      refine s_getI hG hE dX9_goes_77 fl_X9_38 rfl kM_1 ?_
      refine s_aload_n hG dX9_goes_80 1 rfl rfl ?_
      refine s_getI hG hE dX9_goes_81 fl_X9_35 rfl kM_1 ?_
      refine s_icmp_ne hG dX9_goes_84 (tgt := 89) (by decide) (fun q7 => ?_) (fun q7 => ?_)
      · refine s_iconst hG dX9_goes_87 ic_1 ?_
        exact s_zret hG hT (by decide) dX9_goes_88
      · refine s_iload_n hG dX9_goes_89 0 rfl rfl ?_
        refine s_bipush hG dX9_goes_90 bc_8 ?_
        refine s_icmp_eq hG dX9_goes_92 (tgt := 104) (by decide) (fun q8 => ?_) (fun q8 => ?_)
        · refine s_iconst hG dX9_goes_104 ic_0 ?_
          exact s_zret hG hT (by decide) dX9_goes_105
        · refine s_aload_n hG dX9_goes_95 1 rfl rfl ?_
          refine s_bipush hG dX9_goes_96 bc_59 ?_
          refine s_callV (a := 1) (c := 9) (inj := inI) (As := [.int 59]) (st := []) rfl hG hE dX9_goes_98 hR (by decide) vv_X9_174 (by decide) rfl kM_1 rfl (Nat.le_of_ble_eq_true rfl) rfl (fun zv zh zq => c_X9_takes w (xl x) 59 h6 zv zh zq) (fun v9 h10 => ?_)
          refine s_if_ne hG dX9_goes_101 (tgt := 50) (by decide) (fun q11 => ?_) (fun q11 => ?_)
          · refine s_iconst hG dX9_goes_104 ic_0 ?_
            exact s_zret hG hT (by decide) dX9_goes_105
          · refine s_lv [1, 2, 0] rfl ?_
            exact ih a1 v4 h10

def m_X9_goes (a1 : Int32) (h : Hp) : Option (Int32 × Hp) := hb (si h 1 9 0) fun h1 => hb (si h1 1 22 (100 * a1)) fun h2 => ck (inb a1 6) (hb (si h2 13 a1.toNatClampNeg 1) fun h4 => hb (si h4 14 a1.toNatClampNeg 1) fun h5 => hb (si h5 15 a1.toNatClampNeg 0) fun h6 => hb (si h6 16 a1.toNatClampNeg 1) fun h7 => hb (si h7 17 a1.toNatClampNeg 0) fun h8 => m_X9_goes_L50 FU a1 0 h8)
set_option maxRecDepth 20000 in
set_option maxHeartbeats 4000000 in
theorem s_X9_goes (w : WT) {x : CT} {l : Launch} (hx : xl x = l) (hG : Gd x cX9_goes 3 RX9) (hE : Ge x (GM w)) (hR : Rm x 8) (hT : Rt x (some .boolean)) (a1 : Int32) (h : Hp) : Sn x 3 (gA (GM w)) (0, 0) (ζM x (GM w) inI) (gW (GM w) h) 0 [(0, .ref (gB (GM w) + 1)), (1, .int a1)] [] (m_X9_goes a1 h) := by
  unfold m_X9_goes
  refine s_aload_n hG dX9_goes_0 0 rfl rfl ?_
  refine s_iconst hG dX9_goes_1 ic_0 ?_
  refine s_putI hG hE dX9_goes_2 fl_X9_38 rfl rfl kM_1 (fun h1 => ?_)
  refine s_aload_n hG dX9_goes_5 0 rfl rfl ?_
  refine s_bipush hG dX9_goes_6 bc_100 ?_
  refine s_iload_n hG dX9_goes_8 1 rfl rfl ?_
  refine s_imul hG dX9_goes_9 ?_
  refine s_putI hG hE dX9_goes_10 fl_X9_77 rfl rfl kM_1 (fun h2 => ?_)
  refine s_aload_n hG dX9_goes_13 0 rfl rfl ?_
  refine s_getS hG hE dX9_goes_14 fl_X9_59 rfl kM_1 fM_9_16 (nzM kM_13) ?_
  refine s_iload_n hG dX9_goes_17 1 rfl rfl ?_
  refine s_iconst hG dX9_goes_18 ic_1 ?_
  refine s_ck (fun q3 => ?_)
  refine s_iast hG hE dX9_goes_19 kM_13 q3 (fun h4 => ?_)
  refine s_aload_n hG dX9_goes_20 0 rfl rfl ?_
  refine s_getS hG hE dX9_goes_21 fl_X9_62 rfl kM_1 fM_9_17 (nzM kM_14) ?_
  refine s_iload_n hG dX9_goes_24 1 rfl rfl ?_
  refine s_iconst hG dX9_goes_25 ic_1 ?_
  refine s_iast hG hE dX9_goes_26 kM_14 q3 (fun h5 => ?_)
  refine s_aload_n hG dX9_goes_27 0 rfl rfl ?_
  refine s_getS hG hE dX9_goes_28 fl_X9_65 rfl kM_1 fM_9_18 (nzM kM_15) ?_
  refine s_iload_n hG dX9_goes_31 1 rfl rfl ?_
  refine s_iconst hG dX9_goes_32 ic_0 ?_
  refine s_iast hG hE dX9_goes_33 kM_15 q3 (fun h6 => ?_)
  refine s_aload_n hG dX9_goes_34 0 rfl rfl ?_
  refine s_getS hG hE dX9_goes_35 fl_X9_68 rfl kM_1 fM_9_19 (nzM kM_16) ?_
  refine s_iload_n hG dX9_goes_38 1 rfl rfl ?_
  refine s_iconst hG dX9_goes_39 ic_1 ?_
  refine s_iast hG hE dX9_goes_40 kM_16 q3 (fun h7 => ?_)
  refine s_aload_n hG dX9_goes_41 0 rfl rfl ?_
  refine s_getS hG hE dX9_goes_42 fl_X9_71 rfl kM_1 fM_9_20 (nzM kM_17) ?_
  refine s_iload_n hG dX9_goes_45 1 rfl rfl ?_
  refine s_iconst hG dX9_goes_46 ic_0 ?_
  refine s_iast hG hE dX9_goes_47 kM_17 q3 (fun h8 => ?_)
  refine s_iconst hG dX9_goes_48 ic_0 ?_
  refine s_istore_n (lv' := [(2, .int 0), (0, .ref (gB (GM w) + 1)), (1, .int a1)]) hG dX9_goes_49 rfl (by decide) rfl ?_
  refine s_lv [1, 2, 0] rfl ?_
  exact s_X9_goes_L50 w hx hG hE hR hT FU a1 0 h8

theorem c_X9_goes (w : WT) (l : Launch) (a1 : Int32) (h : Hp) : ∀ v h', m_X9_goes a1 h = some (v, h') → MetM l (GM w) yX9_goes cX9_goes 3 (some .boolean) 8 [.ref (gB (GM w) + 1), .int a1] h (inI v) h' :=
  met_of (by decide) (lokM w) (Nat.le_of_ble_eq_true rfl) (fun x hx hG hE hR hT => s_X9_goes w hx hG hE hR hT a1 h)
theorem vv_X9_229 : VV RX9 229 yX9_goes cX9_goes 3 (some .boolean) 1 := ⟨⟨gw_at 1262 (by decide +kernel) (by decide +kernel), gw_at 1265 (by decide +kernel) (by decide +kernel), gw_at 96 (by decide +kernel) (by decide +kernel), by decide +kernel, by decide⟩, gw_at 1264 (by decide +kernel) (by decide +kernel), gw_at 34 (by decide +kernel) (by decide +kernel)⟩
def m_X9_law (h : Hp) : Option (Int32 × Hp) := if (gi h 1 7) = 6 then some ((-4), h) else cb (m_X9_goes (gi h 1 7) h) fun v2 h3 => hb (si h3 1 8 0) fun h4 => if v2 = 0 then some ((-10) - (gi h4 1 9), h4) else hb (si h4 1 7 ((gi h4 1 7) + 1)) fun h6 => some ((gi h6 1 7) - 1, h6)
set_option maxRecDepth 20000 in
set_option maxHeartbeats 4000000 in
theorem s_X9_law (w : WT) {x : CT} {l : Launch} (hx : xl x = l) (hG : Gd x cX9_law 2 RX9) (hE : Ge x (GM w)) (hR : Rm x 9) (hT : Rt x (some .int)) (h : Hp) : Sn x 2 (gA (GM w)) (0, 0) (ζM x (GM w) inI) (gW (GM w) h) 0 [(0, .ref (gB (GM w) + 1))] [] (m_X9_law h) := by
  unfold m_X9_law
  refine s_aload_n hG dX9_law_0 0 rfl rfl ?_
  refine s_getI hG hE dX9_law_1 fl_X9_32 rfl kM_1 ?_
  refine s_bipush hG dX9_law_4 bc_6 ?_
  refine s_icmp_ne hG dX9_law_6 (tgt := 12) (by decide) (fun q1 => ?_) (fun q1 => ?_)
  · refine s_bipush hG dX9_law_9 bc_m4 ?_
    exact s_iret hG hT dX9_law_11
  · refine s_aload_n hG dX9_law_12 0 rfl rfl ?_
    refine s_aload_n hG dX9_law_13 0 rfl rfl ?_
    refine s_getI hG hE dX9_law_14 fl_X9_32 rfl kM_1 ?_
    refine s_callV (a := 1) (c := 9) (inj := inI) (As := [.int (gi h 1 7)]) (st := []) rfl hG hE dX9_law_17 hR (by decide) vv_X9_229 (by decide) rfl kM_1 rfl (Nat.le_of_ble_eq_true rfl) rfl (fun zv zh zq => c_X9_goes w (xl x) (gi h 1 7) h zv zh zq) (fun v2 h3 => ?_)
    refine s_istore_n (lv' := [(1, .int v2), (0, .ref (gB (GM w) + 1))]) hG dX9_law_20 rfl (by decide) rfl ?_
    refine s_aload_n hG dX9_law_21 1 rfl rfl ?_
    refine s_iconst hG dX9_law_22 ic_0 ?_
    refine s_putI hG hE dX9_law_23 fl_X9_35 rfl rfl kM_1 (fun h4 => ?_)
    refine s_iload_n hG dX9_law_26 0 rfl rfl ?_
    refine s_if_ne hG dX9_law_27 (tgt := 38) (by decide) (fun q5 => ?_) (fun q5 => ?_)
    · refine s_bipush hG dX9_law_30 bc_m10 ?_
      refine s_aload_n hG dX9_law_32 1 rfl rfl ?_
      refine s_getI hG hE dX9_law_33 fl_X9_38 rfl kM_1 ?_
      refine s_isub hG dX9_law_36 ?_
      exact s_iret hG hT dX9_law_37
    · refine s_aload_n hG dX9_law_38 1 rfl rfl ?_
      refine s_dup hG dX9_law_39 rfl ?_
      refine s_getI hG hE dX9_law_40 fl_X9_32 rfl kM_1 ?_
      refine s_iconst hG dX9_law_43 ic_1 ?_
      refine s_iadd hG dX9_law_44 ?_
      refine s_putI hG hE dX9_law_45 fl_X9_32 rfl rfl kM_1 (fun h6 => ?_)
      refine s_aload_n hG dX9_law_48 1 rfl rfl ?_
      refine s_getI hG hE dX9_law_49 fl_X9_32 rfl kM_1 ?_
      refine s_iconst hG dX9_law_52 ic_1 ?_
      refine s_isub hG dX9_law_53 ?_
      exact s_iret hG hT dX9_law_54

theorem c_X9_law (w : WT) (l : Launch) (h : Hp) : ∀ v h', m_X9_law h = some (v, h') → MetM l (GM w) yX9_law cX9_law 2 (some .int) 9 [.ref (gB (GM w) + 1)] h (inI v) h' :=
  met_of (by decide) (lokM w) (Nat.le_of_ble_eq_true rfl) (fun x hx hG hE hR hT => s_X9_law w hx hG hE hR hT h)
