theorem wd_156 : Cond.methodLink RX0 3 Lib.objectInit ∈ GW := gw_at 156 (by decide +kernel) (by decide +kernel)
theorem wd_111 : Cond.instanceMethod Lib.objectInit ∈ GW := gw_at 111 (by decide +kernel) (by decide +kernel)
theorem wd_112 : Cond.code Lib.objectInit ⟨#[0xb1]⟩ 1 none ∈ GW := gw_at 112 (by decide +kernel) (by decide +kernel)
def m_X0_init (a0 : Nat) (n : Nat) (h : Hp) : Option (Nat × Hp) := ck (rk 0 0 0 0 0 0) (some (n, h))
set_option maxRecDepth 20000 in
set_option maxHeartbeats 4000000 in
theorem s_X0_init (w : WT) {x : CT} {l : Launch} (hx : xl x = l) (hG : Gd x cX0_init 1 RX0) (hE : Ge x (GC w)) (hR : Rm x 1) (hB : Rb x 0 0) (hT : Rt x none) (hN : (xt x).name = "<init>") (a0 : Nat) (n : Nat) (h : Hp) : Sn x 1 (gA (GC w)) (0, 0) (ζB x (GC w) 0 0) (bW (GC w) n h) 0 [(0, .ref (gB (GC w) + a0))] [] (m_X0_init a0 n h) := by
  unfold m_X0_init
  refine s_aload_n hG dX0_init_0 0 rfl rfl ?_
  refine b_obj hG (Nat.le_trans (by decide) hR.1) (Nat.le_trans (by decide) hR.2) dX0_init_1 wd_156 wd_111 wd_112 (Nat.le_of_ble_eq_true rfl) ?_
  refine s_ck (fun q1 => ?_)
  exact b_vret hG hT (rk_of q1).2.1 (rk_of q1).2.2 dX0_init_4

theorem c_X0_init (w : WT) (l : Launch) (a0 n : Nat) (h : Hp) : ∀ n' h', m_X0_init a0 n h = some (n', h') → MetB l (GC w) yX0_init cX0_init 1 1 0 0 a0 n h n' h' :=
  met_ofB (by decide) rfl (lokC w) (by decide) (fun x hx hG hE hR hB hT hN => s_X0_init w hx hG hE hR hB hT hN a0 n h)
theorem wd_200 : Cond.methodLink RX5 3 Lib.objectInit ∈ GW := gw_at 200 (by decide +kernel) (by decide +kernel)
def m_X5_init (a0 : Nat) (n : Nat) (h : Hp) : Option (Nat × Hp) := ck (rk 0 0 0 0 0 0) (some (n, h))
set_option maxRecDepth 20000 in
set_option maxHeartbeats 4000000 in
theorem s_X5_init (w : WT) {x : CT} {l : Launch} (hx : xl x = l) (hG : Gd x cX5_init 1 RX5) (hE : Ge x (GC w)) (hR : Rm x 1) (hB : Rb x 0 0) (hT : Rt x none) (hN : (xt x).name = "<init>") (a0 : Nat) (n : Nat) (h : Hp) : Sn x 1 (gA (GC w)) (0, 0) (ζB x (GC w) 0 0) (bW (GC w) n h) 0 [(0, .ref (gB (GC w) + a0))] [] (m_X5_init a0 n h) := by
  unfold m_X5_init
  refine s_aload_n hG dX5_init_0 0 rfl rfl ?_
  refine b_obj hG (Nat.le_trans (by decide) hR.1) (Nat.le_trans (by decide) hR.2) dX5_init_1 wd_200 wd_111 wd_112 (Nat.le_of_ble_eq_true rfl) ?_
  refine s_ck (fun q1 => ?_)
  exact b_vret hG hT (rk_of q1).2.1 (rk_of q1).2.2 dX5_init_4

theorem c_X5_init (w : WT) (l : Launch) (a0 n : Nat) (h : Hp) : ∀ n' h', m_X5_init a0 n h = some (n', h') → MetB l (GC w) yX5_init cX5_init 1 1 0 0 a0 n h n' h' :=
  met_ofB (by decide) rfl (lokC w) (by decide) (fun x hx hG hE hR hB hT hN => s_X5_init w hx hG hE hR hB hT hN a0 n h)
theorem wd_328 : Cond.methodLink RX6 1 Lib.objectInit ∈ GW := gw_at 328 (by decide +kernel) (by decide +kernel)
def m_X6_init (a0 : Nat) (n : Nat) (h : Hp) : Option (Nat × Hp) := ck (rk 0 0 0 0 0 0) (some (n, h))
set_option maxRecDepth 20000 in
set_option maxHeartbeats 4000000 in
theorem s_X6_init (w : WT) {x : CT} {l : Launch} (hx : xl x = l) (hG : Gd x cX6_init 1 RX6) (hE : Ge x (GC w)) (hR : Rm x 1) (hB : Rb x 0 0) (hT : Rt x none) (hN : (xt x).name = "<init>") (a0 : Nat) (n : Nat) (h : Hp) : Sn x 1 (gA (GC w)) (0, 0) (ζB x (GC w) 0 0) (bW (GC w) n h) 0 [(0, .ref (gB (GC w) + a0))] [] (m_X6_init a0 n h) := by
  unfold m_X6_init
  refine s_aload_n hG dX6_init_0 0 rfl rfl ?_
  refine b_obj hG (Nat.le_trans (by decide) hR.1) (Nat.le_trans (by decide) hR.2) dX6_init_1 wd_328 wd_111 wd_112 (Nat.le_of_ble_eq_true rfl) ?_
  refine s_ck (fun q1 => ?_)
  exact b_vret hG hT (rk_of q1).2.1 (rk_of q1).2.2 dX6_init_4

theorem c_X6_init (w : WT) (l : Launch) (a0 n : Nat) (h : Hp) : ∀ n' h', m_X6_init a0 n h = some (n', h') → MetB l (GC w) yX6_init cX6_init 1 1 0 0 a0 n h n' h' :=
  met_ofB (by decide) rfl (lokC w) (by decide) (fun x hx hG hE hR hB hT hN => s_X6_init w hx hG hE hR hB hT hN a0 n h)
theorem wd_397 : Cond.methodLink RX7 3 Lib.objectInit ∈ GW := gw_at 397 (by decide +kernel) (by decide +kernel)
theorem wac_1 : Cond.arrayClass .long ∈ GW := gw_at 410 (by decide +kernel) (by decide +kernel)
def m_X7_init (a0 : Nat) (n : Nat) (h : Hp) : Option (Nat × Hp) := ck (rk (n + 1) 191 (1) 1 (60) 60) (ck (decide (LC (n + 1) = (21, 60))) (hb (zr h (n + 1)) fun h3 => ck (lk (LC a0) 8 0 a0 (n + 1)) (ck (decide (n + 1 ≤ 191)) (ck (decide (n + 1 ≠ 0)) (hb (sr h3 a0 0 (n + 1)) fun h6 => hb (si h6 a0 1 (-1)) fun h8 => ck (rk 0 0 1 1 60 60) (some (n + 1, h8)))))))
set_option maxRecDepth 20000 in
set_option maxHeartbeats 4000000 in
theorem s_X7_init (w : WT) {x : CT} {l : Launch} (hx : xl x = l) (hG : Gd x cX7_init 1 RX7) (hE : Ge x (GC w)) (hR : Rm x 1) (hB : Rb x 1 60) (hT : Rt x none) (hN : (xt x).name = "<init>") (a0 : Nat) (n : Nat) (h : Hp) : Sn x 1 (gA (GC w)) (0, 0) (ζB x (GC w) 1 60) (bW (GC w) n h) 0 [(0, .ref (gB (GC w) + a0))] [] (m_X7_init a0 n h) := by
  unfold m_X7_init
  refine s_aload_n hG dX7_init_0 0 rfl rfl ?_
  refine b_obj hG (Nat.le_trans (by decide) hR.1) (Nat.le_trans (by decide) hR.2) dX7_init_1 wd_397 wd_111 wd_112 (Nat.le_of_ble_eq_true rfl) ?_
  refine s_aload_n hG dX7_init_4 0 rfl rfl ?_
  refine s_bipush hG dX7_init_5 bc_60 ?_
  refine s_ck (fun q1 => ?_)
  refine s_ck (fun q2 => ?_)
  refine b_newa (t := 1) (len := 60) hG hE hB dX7_init_7 wac_1 (by decide) rfl (by decide) (by decide) (Nat.le_of_ble_eq_true rfl) q1 (of_decide_eq_true q2) ?_
  refine b_nh (fun h3 => ?_)
  refine s_ck (fun q4 => ?_)
  refine s_ck (fun q5 => ?_)
  refine s_ck (fun q7 => ?_)
  refine b_putR hG hE dX7_init_9 fl_X7_9 hN rfl q4 (of_decide_eq_true q5) rfl (fun _ => rfl) (fun _ => rfl) rfl (of_decide_eq_true q7) (fun h6 => ?_)
  refine s_aload_n hG dX7_init_12 0 rfl rfl ?_
  refine s_iconst hG dX7_init_13 ic_m1 ?_
  refine b_putI hG hE dX7_init_14 fl_X7_15 hN rfl q4 (of_decide_eq_true q5) rfl rfl rfl rfl (fun h8 => ?_)
  refine s_ck (fun q9 => ?_)
  exact b_vret hG hT (rk_of q9).2.1 (rk_of q9).2.2 dX7_init_17

theorem c_X7_init (w : WT) (l : Launch) (a0 n : Nat) (h : Hp) : ∀ n' h', m_X7_init a0 n h = some (n', h') → MetB l (GC w) yX7_init cX7_init 1 1 1 60 a0 n h n' h' :=
  met_ofB (by decide) rfl (lokC w) (by decide) (fun x hx hG hE hR hB hT hN => s_X7_init w hx hG hE hR hB hT hN a0 n h)
theorem wd_344 : Cond.methodLink RX3 3 Lib.objectInit ∈ GW := gw_at 344 (by decide +kernel) (by decide +kernel)
theorem wac_0 : Cond.arrayClass .int ∈ GW := gw_at 142 (by decide +kernel) (by decide +kernel)
def m_X3_init (a0 : Nat) (n : Nat) (h : Hp) : Option (Nat × Hp) := ck (rk (n + 1) 191 (1) 5 (8) 132) (ck (decide (LC (n + 1) = (20, 8))) (hb (zr h (n + 1)) fun h3 => ck (lk (LC a0) 4 0 a0 (n + 1)) (ck (decide (n + 1 ≤ 191)) (ck (decide (n + 1 ≠ 0)) (hb (sr h3 a0 0 (n + 1)) fun h6 => ck (rk (n + 2) 191 (2) 5 (16) 132) (ck (decide (LC (n + 2) = (20, 8))) (hb (zr h6 (n + 2)) fun h10 => ck (lk (LC a0) 4 0 a0 (n + 2)) (ck (decide (n + 2 ≤ 191)) (ck (decide (n + 2 ≠ 0)) (hb (sr h10 a0 1 (n + 2)) fun h13 => ck (rk (n + 3) 191 (3) 5 (24) 132) (ck (decide (LC (n + 3) = (20, 8))) (hb (zr h13 (n + 3)) fun h17 => ck (lk (LC a0) 4 0 a0 (n + 3)) (ck (decide (n + 3 ≤ 191)) (ck (decide (n + 3 ≠ 0)) (hb (sr h17 a0 2 (n + 3)) fun h20 => ck (rk (n + 4) 191 (4) 5 (32) 132) (ck (decide (LC (n + 4) = (20, 8))) (hb (zr h20 (n + 4)) fun h24 => ck (lk (LC a0) 4 0 a0 (n + 4)) (ck (decide (n + 4 ≤ 191)) (ck (decide (n + 4 ≠ 0)) (hb (sr h24 a0 3 (n + 4)) fun h27 => ck (rk (n + 5) 191 (5) 5 (132) 132) (ck (decide (LC (n + 5) = (20, 100))) (hb (zr h27 (n + 5)) fun h31 => ck (lk (LC a0) 4 0 a0 (n + 5)) (ck (decide (n + 5 ≤ 191)) (ck (decide (n + 5 ≠ 0)) (hb (sr h31 a0 4 (n + 5)) fun h34 => ck (rk 0 0 5 5 132 132) (some (n + 5, h34)))))))))))))))))))))))))))
set_option maxRecDepth 20000 in
set_option maxHeartbeats 4000000 in
theorem s_X3_init (w : WT) {x : CT} {l : Launch} (hx : xl x = l) (hG : Gd x cX3_init 1 RX3) (hE : Ge x (GC w)) (hR : Rm x 1) (hB : Rb x 5 132) (hT : Rt x none) (hN : (xt x).name = "<init>") (a0 : Nat) (n : Nat) (h : Hp) : Sn x 1 (gA (GC w)) (0, 0) (ζB x (GC w) 5 132) (bW (GC w) n h) 0 [(0, .ref (gB (GC w) + a0))] [] (m_X3_init a0 n h) := by
  unfold m_X3_init
  refine s_aload_n hG dX3_init_0 0 rfl rfl ?_
  refine b_obj hG (Nat.le_trans (by decide) hR.1) (Nat.le_trans (by decide) hR.2) dX3_init_1 wd_344 wd_111 wd_112 (Nat.le_of_ble_eq_true rfl) ?_
  refine s_aload_n hG dX3_init_4 0 rfl rfl ?_
  refine s_bipush hG dX3_init_5 bc_8 ?_
  refine s_ck (fun q1 => ?_)
  refine s_ck (fun q2 => ?_)
  refine b_newa (t := 0) (len := 8) hG hE hB dX3_init_7 wac_0 (by decide) rfl (by decide) (by decide) (Nat.le_of_ble_eq_true rfl) q1 (of_decide_eq_true q2) ?_
  refine b_nh (fun h3 => ?_)
  refine s_ck (fun q4 => ?_)
  refine s_ck (fun q5 => ?_)
  refine s_ck (fun q7 => ?_)
  refine b_putR hG hE dX3_init_9 fl_X3_9 hN rfl q4 (of_decide_eq_true q5) rfl (fun _ => rfl) (fun _ => rfl) rfl (of_decide_eq_true q7) (fun h6 => ?_)
  refine s_aload_n hG dX3_init_12 0 rfl rfl ?_
  refine s_bipush hG dX3_init_13 bc_8 ?_
  refine s_ck (fun q8 => ?_)
  refine s_ck (fun q9 => ?_)
  refine b_newa (t := 0) (len := 8) hG hE hB dX3_init_15 wac_0 (by decide) rfl (by decide) (by decide) (Nat.le_of_ble_eq_true rfl) q8 (of_decide_eq_true q9) ?_
  refine b_nh (fun h10 => ?_)
  refine s_ck (fun q11 => ?_)
  refine s_ck (fun q12 => ?_)
  refine s_ck (fun q14 => ?_)
  refine b_putR hG hE dX3_init_17 fl_X3_15 hN rfl q11 (of_decide_eq_true q12) rfl (fun _ => rfl) (fun _ => rfl) rfl (of_decide_eq_true q14) (fun h13 => ?_)
  refine s_aload_n hG dX3_init_20 0 rfl rfl ?_
  refine s_bipush hG dX3_init_21 bc_8 ?_
  refine s_ck (fun q15 => ?_)
  refine s_ck (fun q16 => ?_)
  refine b_newa (t := 0) (len := 8) hG hE hB dX3_init_23 wac_0 (by decide) rfl (by decide) (by decide) (Nat.le_of_ble_eq_true rfl) q15 (of_decide_eq_true q16) ?_
  refine b_nh (fun h17 => ?_)
  refine s_ck (fun q18 => ?_)
  refine s_ck (fun q19 => ?_)
  refine s_ck (fun q21 => ?_)
  refine b_putR hG hE dX3_init_25 fl_X3_18 hN rfl q18 (of_decide_eq_true q19) rfl (fun _ => rfl) (fun _ => rfl) rfl (of_decide_eq_true q21) (fun h20 => ?_)
  refine s_aload_n hG dX3_init_28 0 rfl rfl ?_
  refine s_bipush hG dX3_init_29 bc_8 ?_
  refine s_ck (fun q22 => ?_)
  refine s_ck (fun q23 => ?_)
  refine b_newa (t := 0) (len := 8) hG hE hB dX3_init_31 wac_0 (by decide) rfl (by decide) (by decide) (Nat.le_of_ble_eq_true rfl) q22 (of_decide_eq_true q23) ?_
  refine b_nh (fun h24 => ?_)
  refine s_ck (fun q25 => ?_)
  refine s_ck (fun q26 => ?_)
  refine s_ck (fun q28 => ?_)
  refine b_putR hG hE dX3_init_33 fl_X3_21 hN rfl q25 (of_decide_eq_true q26) rfl (fun _ => rfl) (fun _ => rfl) rfl (of_decide_eq_true q28) (fun h27 => ?_)
  refine s_aload_n hG dX3_init_36 0 rfl rfl ?_
  refine s_bipush hG dX3_init_37 bc_100 ?_
  refine s_ck (fun q29 => ?_)
  refine s_ck (fun q30 => ?_)
  refine b_newa (t := 0) (len := 100) hG hE hB dX3_init_39 wac_0 (by decide) rfl (by decide) (by decide) (Nat.le_of_ble_eq_true rfl) q29 (of_decide_eq_true q30) ?_
  refine b_nh (fun h31 => ?_)
  refine s_ck (fun q32 => ?_)
  refine s_ck (fun q33 => ?_)
  refine s_ck (fun q35 => ?_)
  refine b_putR hG hE dX3_init_41 fl_X3_24 hN rfl q32 (of_decide_eq_true q33) rfl (fun _ => rfl) (fun _ => rfl) rfl (of_decide_eq_true q35) (fun h34 => ?_)
  refine s_ck (fun q36 => ?_)
  exact b_vret hG hT (rk_of q36).2.1 (rk_of q36).2.2 dX3_init_44

theorem c_X3_init (w : WT) (l : Launch) (a0 n : Nat) (h : Hp) : ∀ n' h', m_X3_init a0 n h = some (n', h') → MetB l (GC w) yX3_init cX3_init 1 1 5 132 a0 n h n' h' :=
  met_ofB (by decide) rfl (lokC w) (by decide) (fun x hx hG hE hR hB hT hN => s_X3_init w hx hG hE hR hB hT hN a0 n h)
theorem wd_126 : Cond.methodLink RX4 3 Lib.objectInit ∈ GW := gw_at 126 (by decide +kernel) (by decide +kernel)
def m_X4_init (a0 : Nat) (n : Nat) (h : Hp) : Option (Nat × Hp) := ck (rk (n + 1) 191 (1) 1 (100) 100) (ck (decide (LC (n + 1) = (20, 100))) (hb (zr h (n + 1)) fun h3 => ck (lk (LC a0) 5 0 a0 (n + 1)) (ck (decide (n + 1 ≤ 191)) (ck (decide (n + 1 ≠ 0)) (hb (sr h3 a0 0 (n + 1)) fun h6 => ck (rk 0 0 1 1 100 100) (some (n + 1, h6)))))))
set_option maxRecDepth 20000 in
set_option maxHeartbeats 4000000 in
theorem s_X4_init (w : WT) {x : CT} {l : Launch} (hx : xl x = l) (hG : Gd x cX4_init 1 RX4) (hE : Ge x (GC w)) (hR : Rm x 1) (hB : Rb x 1 100) (hT : Rt x none) (hN : (xt x).name = "<init>") (a0 : Nat) (n : Nat) (h : Hp) : Sn x 1 (gA (GC w)) (0, 0) (ζB x (GC w) 1 100) (bW (GC w) n h) 0 [(0, .ref (gB (GC w) + a0))] [] (m_X4_init a0 n h) := by
  unfold m_X4_init
  refine s_aload_n hG dX4_init_0 0 rfl rfl ?_
  refine b_obj hG (Nat.le_trans (by decide) hR.1) (Nat.le_trans (by decide) hR.2) dX4_init_1 wd_126 wd_111 wd_112 (Nat.le_of_ble_eq_true rfl) ?_
  refine s_aload_n hG dX4_init_4 0 rfl rfl ?_
  refine s_bipush hG dX4_init_5 bc_100 ?_
  refine s_ck (fun q1 => ?_)
  refine s_ck (fun q2 => ?_)
  refine b_newa (t := 0) (len := 100) hG hE hB dX4_init_7 wac_0 (by decide) rfl (by decide) (by decide) (Nat.le_of_ble_eq_true rfl) q1 (of_decide_eq_true q2) ?_
  refine b_nh (fun h3 => ?_)
  refine s_ck (fun q4 => ?_)
  refine s_ck (fun q5 => ?_)
  refine s_ck (fun q7 => ?_)
  refine b_putR hG hE dX4_init_9 fl_X4_9 hN rfl q4 (of_decide_eq_true q5) rfl (fun _ => rfl) (fun _ => rfl) rfl (of_decide_eq_true q7) (fun h6 => ?_)
  refine s_ck (fun q8 => ?_)
  exact b_vret hG hT (rk_of q8).2.1 (rk_of q8).2.2 dX4_init_12

theorem c_X4_init (w : WT) (l : Launch) (a0 n : Nat) (h : Hp) : ∀ n' h', m_X4_init a0 n h = some (n', h') → MetB l (GC w) yX4_init cX4_init 1 1 1 100 a0 n h n' h' :=
  met_ofB (by decide) rfl (lokC w) (by decide) (fun x hx hG hE hR hB hT hN => s_X4_init w hx hG hE hR hB hT hN a0 n h)
theorem wd_309 : Cond.methodLink RX1 3 Lib.objectInit ∈ GW := gw_at 309 (by decide +kernel) (by decide +kernel)
def m_X1_init (a0 : Nat) (n : Nat) (h : Hp) : Option (Nat × Hp) := ck (rk (n + 1) 191 (1) 1 (20) 20) (ck (decide (LC (n + 1) = (20, 20))) (hb (zr h (n + 1)) fun h3 => ck (lk (LC a0) 2 0 a0 (n + 1)) (ck (decide (n + 1 ≤ 191)) (ck (decide (n + 1 ≠ 0)) (hb (sr h3 a0 0 (n + 1)) fun h6 => ck (rk 0 0 1 1 20 20) (some (n + 1, h6)))))))
set_option maxRecDepth 20000 in
set_option maxHeartbeats 4000000 in
theorem s_X1_init (w : WT) {x : CT} {l : Launch} (hx : xl x = l) (hG : Gd x cX1_init 1 RX1) (hE : Ge x (GC w)) (hR : Rm x 1) (hB : Rb x 1 20) (hT : Rt x none) (hN : (xt x).name = "<init>") (a0 : Nat) (n : Nat) (h : Hp) : Sn x 1 (gA (GC w)) (0, 0) (ζB x (GC w) 1 20) (bW (GC w) n h) 0 [(0, .ref (gB (GC w) + a0))] [] (m_X1_init a0 n h) := by
  unfold m_X1_init
  refine s_aload_n hG dX1_init_0 0 rfl rfl ?_
  refine b_obj hG (Nat.le_trans (by decide) hR.1) (Nat.le_trans (by decide) hR.2) dX1_init_1 wd_309 wd_111 wd_112 (Nat.le_of_ble_eq_true rfl) ?_
  refine s_aload_n hG dX1_init_4 0 rfl rfl ?_
  refine s_bipush hG dX1_init_5 bc_20 ?_
  refine s_ck (fun q1 => ?_)
  refine s_ck (fun q2 => ?_)
  refine b_newa (t := 0) (len := 20) hG hE hB dX1_init_7 wac_0 (by decide) rfl (by decide) (by decide) (Nat.le_of_ble_eq_true rfl) q1 (of_decide_eq_true q2) ?_
  refine b_nh (fun h3 => ?_)
  refine s_ck (fun q4 => ?_)
  refine s_ck (fun q5 => ?_)
  refine s_ck (fun q7 => ?_)
  refine b_putR hG hE dX1_init_9 fl_X1_11 hN rfl q4 (of_decide_eq_true q5) rfl (fun _ => rfl) (fun _ => rfl) rfl (of_decide_eq_true q7) (fun h6 => ?_)
  refine s_ck (fun q8 => ?_)
  exact b_vret hG hT (rk_of q8).2.1 (rk_of q8).2.2 dX1_init_12

theorem c_X1_init (w : WT) (l : Launch) (a0 n : Nat) (h : Hp) : ∀ n' h', m_X1_init a0 n h = some (n', h') → MetB l (GC w) yX1_init cX1_init 1 1 1 20 a0 n h n' h' :=
  met_ofB (by decide) rfl (lokC w) (by decide) (fun x hx hG hE hR hB hT hN => s_X1_init w hx hG hE hR hB hT hN a0 n h)
theorem wd_149 : Cond.classLink RX2 9 RX5 ∈ GW := gw_at 149 (by decide +kernel) (by decide +kernel)
theorem wd_196 : Cond.instantiable RX5 14 ∈ GW := gw_at 196 (by decide +kernel) (by decide +kernel)
theorem wd_91 : Cond.initialized RX5 ∈ GW := gw_at 91 (by decide +kernel) (by decide +kernel)
theorem vi_X2_38 : VCb RX2 38 yX5_init cX5_init 1 none 0 := ⟨gw_at 197 (by decide +kernel) (by decide +kernel), gw_at 199 (by decide +kernel) (by decide +kernel), gw_at 91 (by decide +kernel) (by decide +kernel), by decide +kernel, by decide⟩
theorem wd_198 : Cond.instanceMethod yX5_init ∈ GW := gw_at 198 (by decide +kernel) (by decide +kernel)
theorem wd_151 : Cond.classLink RX2 23 RX0 ∈ GW := gw_at 151 (by decide +kernel) (by decide +kernel)
theorem wd_152 : Cond.instantiable RX0 10 ∈ GW := gw_at 152 (by decide +kernel) (by decide +kernel)
theorem wd_90 : Cond.initialized RX0 ∈ GW := gw_at 90 (by decide +kernel) (by decide +kernel)
theorem vi_X2_33 : VCb RX2 33 yX0_init cX0_init 1 none 0 := ⟨gw_at 153 (by decide +kernel) (by decide +kernel), gw_at 155 (by decide +kernel) (by decide +kernel), gw_at 90 (by decide +kernel) (by decide +kernel), by decide +kernel, by decide⟩
theorem wd_154 : Cond.instanceMethod yX0_init ∈ GW := gw_at 154 (by decide +kernel) (by decide +kernel)
theorem wd_148 : Cond.methodLink RX2 3 Lib.objectInit ∈ GW := gw_at 148 (by decide +kernel) (by decide +kernel)
def m_X2_init_L113 : Nat → Nat → Int32 → Nat → Nat → Nat → Hp → Option (Nat × Hp)
  | 0, _, _, _, _, _, _ => none
  | fu + 1, a0, a1, n, c, z, h => if 20 ≤ a1 then ck (rk 0 0 c 38 z 478) (some (n, h)) else ck (lk (LC a0) 3 0 a0 n) (ck (decide (gr h a0 2 ≠ 0)) (vb (gr h a0 2) fun r5 => ck (rk (n + 1) 191 (c + 1) 38 (z + 14) 478) (ck (decide (LC (n + 1) = (6, 0))) (hb (zr h (n + 1)) fun h8 => ck (rk 0 0 (c + 1) 38 (z + 14) 478) (bb (m_X5_init (n + 1) (n + 1) h8) fun n10 h11 => ck (inb a1 20) (ck (lk (LC r5) 25 20 r5 n10) (ck (lk (LC (n + 1)) 6 0 (n + 1) n10) (ck (decide (n10 ≤ 191)) (hb (sr h11 r5 a1.toNatClampNeg (n + 1)) fun h16 => vb (a1 + 1) fun v17 => m_X2_init_L113 fu a0 v17 n10 (c + 1) (z + 14) h16)))))))))
set_option maxRecDepth 20000 in
set_option maxHeartbeats 4000000 in
theorem s_X2_init_L113 (w : WT) {x : CT} {l : Launch} (hx : xl x = l) (hG : Gd x cX2_init 2 RX2) (hE : Ge x (GC w)) (hR : Rm x 2) (hB : Rb x 38 478) (hT : Rt x none) (hN : (xt x).name = "<init>") : ∀ (fu : Nat) (a0 : Nat) (a1 : Int32) (n c z : Nat) (h : Hp), Sn x 2 (gA (GC w)) (c, z) (ζB x (GC w) 38 478) (bW (GC w) n h) 113 [(0, .ref (gB (GC w) + a0)), (1, .int a1)] [] (m_X2_init_L113 fu a0 a1 n c z h) := by
  intro fu
  induction fu with
  | zero => intro a0 a1 n c z h; exact s_none
  | succ fu ih =>
    intro a0 a1 n c z h
    rw [m_X2_init_L113]
    refine s_iload_n hG dX2_init_113 1 rfl rfl ?_
    refine s_bipush hG dX2_init_114 bc_20 ?_
    refine s_icmp_ge hG dX2_init_116 (tgt := 138) (by decide) (fun q1 => ?_) (fun q1 => ?_)
    · refine s_ck (fun q2 => ?_)
      exact b_vret hG hT (rk_of q2).2.1 (rk_of q2).2.2 dX2_init_138
    · refine s_aload_n hG dX2_init_119 0 rfl rfl ?_
      refine s_ck (fun q3 => ?_)
      refine s_ck (fun q4 => ?_)
      refine b_getR hG hE dX2_init_120 fl_X2_20 rfl q3 (of_decide_eq_true q4) ?_
      refine s_vR (fun r5 => ?_)
      refine s_iload_n hG dX2_init_123 1 rfl rfl ?_
      refine s_ck (fun q6 => ?_)
      refine s_ck (fun q7 => ?_)
      refine b_new (ci := 5) hG hE hB dX2_init_124 (by decide) wd_149 wd_196 wd_91 q6 (of_decide_eq_true q7) ?_
      refine b_nh (fun h8 => ?_)
      refine s_dup hG dX2_init_127 rfl ?_
      refine s_ck (fun q9 => ?_)
      refine b_call hG hE hB dX2_init_128 hR (by decide) vi_X2_38 wd_198 rfl (Nat.le_of_ble_eq_true rfl) q9 (fun zn zh zq => c_X5_init w (xl x) (n + 1) (n + 1) h8 zn zh zq) (fun n10 h11 => ?_)
      refine s_ck (fun q12 => ?_)
      refine s_ck (fun q13 => ?_)
      refine s_ck (fun q14 => ?_)
      refine s_ck (fun q15 => ?_)
      refine b_aast (j := 2) hG hE dX2_init_131 (by decide) (of_decide_eq_true q15) q13 q12 q14 (fun h16 => ?_)
      refine s_iinc hG dX2_init_132 1 rfl ic_1 (by decide) (fun v17 => [(1, .int v17), (0, .ref (gB (GC w) + a0))]) (fun _ => rfl) (fun v17 => ?_)
      refine s_goto (tgt := 113) hG dX2_init_135 (by decide) ?_
      refine s_lv [1, 0] rfl ?_
      exact ih a0 v17 n10 (c + 1) (z + 14) h16

def m_X2_init_L61 : Nat → Nat → Int32 → Nat → Nat → Nat → Hp → Option (Nat × Hp)
  | 0, _, _, _, _, _, _ => none
  | fu + 1, a0, a1, n, c, z, h => if 6 ≤ a1 then m_X2_init_L113 FU a0 0 n c z h else ck (lk (LC a0) 3 0 a0 n) (ck (decide (gr h a0 1 ≠ 0)) (vb (gr h a0 1) fun r4 => ck (rk (n + 1) 191 (c + 1) 38 (z + 14) 478) (ck (decide (LC (n + 1) = (6, 0))) (hb (zr h (n + 1)) fun h7 => ck (rk 0 0 (c + 1) 38 (z + 14) 478) (bb (m_X5_init (n + 1) (n + 1) h7) fun n9 h10 => ck (inb a1 6) (ck (lk (LC r4) 25 6 r4 n9) (ck (lk (LC (n + 1)) 6 0 (n + 1) n9) (ck (decide (n9 ≤ 191)) (hb (sr h10 r4 a1.toNatClampNeg (n + 1)) fun h15 => ck (lk (LC a0) 3 0 a0 n9) (ck (decide (gr h15 a0 0 ≠ 0)) (vb (gr h15 a0 0) fun r18 => ck (decide (gr h15 a0 1 ≠ 0)) (vb (gr h15 a0 1) fun r20 => ck (lk (LC r20) 25 6 r20 n9) (ck (decide (gr h15 r20 a1.toNatClampNeg ≠ 0)) (vb (gr h15 r20 a1.toNatClampNeg) fun r23 => ck (lk (LC r18) 25 6 r18 n9) (ck (lk (LC r23) 6 0 r23 n9) (hb (sr h15 r18 a1.toNatClampNeg r23) fun h26 => ck (decide (gr h26 a0 3 ≠ 0)) (vb (gr h26 a0 3) fun r28 => ck (rk (n9 + 1) 191 (c + 2) 38 (z + 24) 478) (ck (decide (LC (n9 + 1) = (1, 0))) (hb (zr h26 (n9 + 1)) fun h31 => ck (rk 0 0 (c + 2) 38 (z + 24) 478) (bb (m_X0_init (n9 + 1) (n9 + 1) h31) fun n33 h34 => ck (lk (LC r28) 23 6 r28 n33) (ck (lk (LC (n9 + 1)) 1 0 (n9 + 1) n33) (ck (decide (n33 ≤ 191)) (hb (sr h34 r28 a1.toNatClampNeg (n9 + 1)) fun h38 => vb (a1 + 1) fun v39 => m_X2_init_L61 fu a0 v39 n33 (c + 2) (z + 24) h38)))))))))))))))))))))))
set_option maxRecDepth 20000 in
set_option maxHeartbeats 4000000 in
theorem s_X2_init_L61 (w : WT) {x : CT} {l : Launch} (hx : xl x = l) (hG : Gd x cX2_init 2 RX2) (hE : Ge x (GC w)) (hR : Rm x 2) (hB : Rb x 38 478) (hT : Rt x none) (hN : (xt x).name = "<init>") : ∀ (fu : Nat) (a0 : Nat) (a1 : Int32) (n c z : Nat) (h : Hp), Sn x 2 (gA (GC w)) (c, z) (ζB x (GC w) 38 478) (bW (GC w) n h) 61 [(0, .ref (gB (GC w) + a0)), (1, .int a1)] [] (m_X2_init_L61 fu a0 a1 n c z h) := by
  intro fu
  induction fu with
  | zero => intro a0 a1 n c z h; exact s_none
  | succ fu ih =>
    intro a0 a1 n c z h
    rw [m_X2_init_L61]
    refine s_iload_n hG dX2_init_61 1 rfl rfl ?_
    refine s_bipush hG dX2_init_62 bc_6 ?_
    refine s_icmp_ge hG dX2_init_64 (tgt := 111) (by decide) (fun q1 => ?_) (fun q1 => ?_)
    · refine s_iconst hG dX2_init_111 ic_0 ?_
      refine s_istore_n (lv' := [(1, .int 0), (0, .ref (gB (GC w) + a0))]) hG dX2_init_112 rfl (by decide) rfl ?_
      refine s_lv [1, 0] rfl ?_
      exact s_X2_init_L113 w hx hG hE hR hB hT hN FU a0 0 n c z h
    · refine s_aload_n hG dX2_init_67 0 rfl rfl ?_
      refine s_ck (fun q2 => ?_)
      refine s_ck (fun q3 => ?_)
      refine b_getR hG hE dX2_init_68 fl_X2_17 rfl q2 (of_decide_eq_true q3) ?_
      refine s_vR (fun r4 => ?_)
      refine s_iload_n hG dX2_init_71 1 rfl rfl ?_
      refine s_ck (fun q5 => ?_)
      refine s_ck (fun q6 => ?_)
      refine b_new (ci := 5) hG hE hB dX2_init_72 (by decide) wd_149 wd_196 wd_91 q5 (of_decide_eq_true q6) ?_
      refine b_nh (fun h7 => ?_)
      refine s_dup hG dX2_init_75 rfl ?_
      refine s_ck (fun q8 => ?_)
      refine b_call hG hE hB dX2_init_76 hR (by decide) vi_X2_38 wd_198 rfl (Nat.le_of_ble_eq_true rfl) q8 (fun zn zh zq => c_X5_init w (xl x) (n + 1) (n + 1) h7 zn zh zq) (fun n9 h10 => ?_)
      refine s_ck (fun q11 => ?_)
      refine s_ck (fun q12 => ?_)
      refine s_ck (fun q13 => ?_)
      refine s_ck (fun q14 => ?_)
      refine b_aast (j := 2) hG hE dX2_init_79 (by decide) (of_decide_eq_true q14) q12 q11 q13 (fun h15 => ?_)
      refine s_aload_n hG dX2_init_80 0 rfl rfl ?_
      refine s_ck (fun q16 => ?_)
      refine s_ck (fun q17 => ?_)
      refine b_getR hG hE dX2_init_81 fl_X2_11 rfl q16 (of_decide_eq_true q17) ?_
      refine s_vR (fun r18 => ?_)
      refine s_iload_n hG dX2_init_84 1 rfl rfl ?_
      refine s_aload_n hG dX2_init_85 0 rfl rfl ?_
      refine s_ck (fun q19 => ?_)
      refine b_getR hG hE dX2_init_86 fl_X2_17 rfl q16 (of_decide_eq_true q19) ?_
      refine s_vR (fun r20 => ?_)
      refine s_iload_n hG dX2_init_89 1 rfl rfl ?_
      refine s_ck (fun q21 => ?_)
      refine s_ck (fun q22 => ?_)
      refine b_aald (j := 2) hG hE dX2_init_90 (by decide) q21 q11 (of_decide_eq_true q22) ?_
      refine s_vR (fun r23 => ?_)
      refine s_ck (fun q24 => ?_)
      refine s_ck (fun q25 => ?_)
      refine b_aast (j := 2) hG hE dX2_init_91 (by decide) (of_decide_eq_true q14) q24 q11 q25 (fun h26 => ?_)
      refine s_aload_n hG dX2_init_92 0 rfl rfl ?_
      refine s_ck (fun q27 => ?_)
      refine b_getR hG hE dX2_init_93 fl_X2_25 rfl q16 (of_decide_eq_true q27) ?_
      refine s_vR (fun r28 => ?_)
      refine s_iload_n hG dX2_init_96 1 rfl rfl ?_
      refine s_ck (fun q29 => ?_)
      refine s_ck (fun q30 => ?_)
      refine b_new (ci := 0) hG hE hB dX2_init_97 (by decide) wd_151 wd_152 wd_90 q29 (of_decide_eq_true q30) ?_
      refine b_nh (fun h31 => ?_)
      refine s_dup hG dX2_init_100 rfl ?_
      refine s_ck (fun q32 => ?_)
      refine b_call hG hE hB dX2_init_101 hR (by decide) vi_X2_33 wd_154 rfl (Nat.le_of_ble_eq_true rfl) q32 (fun zn zh zq => c_X0_init w (xl x) (n9 + 1) (n9 + 1) h31 zn zh zq) (fun n33 h34 => ?_)
      refine s_ck (fun q35 => ?_)
      refine s_ck (fun q36 => ?_)
      refine s_ck (fun q37 => ?_)
      refine b_aast (j := 0) hG hE dX2_init_104 (by decide) (of_decide_eq_true q37) q35 q11 q36 (fun h38 => ?_)
      refine s_iinc hG dX2_init_105 1 rfl ic_1 (by decide) (fun v39 => [(1, .int v39), (0, .ref (gB (GC w) + a0))]) (fun _ => rfl) (fun v39 => ?_)
      refine s_goto (tgt := 61) hG dX2_init_108 (by decide) ?_
      refine s_lv [1, 0] rfl ?_
      exact ih a0 v39 n33 (c + 2) (z + 24) h38

def m_X2_init (a0 : Nat) (n : Nat) (h : Hp) : Option (Nat × Hp) := ck (rk (n + 1) 191 (1) 38 (6) 478) (ck (decide (LC (n + 1) = (25, 6))) (hb (zr h (n + 1)) fun h3 => ck (lk (LC a0) 3 0 a0 (n + 1)) (ck (decide (n + 1 ≤ 191)) (ck (decide (n + 1 ≠ 0)) (hb (sr h3 a0 0 (n + 1)) fun h6 => ck (rk (n + 2) 191 (2) 38 (12) 478) (ck (decide (LC (n + 2) = (25, 6))) (hb (zr h6 (n + 2)) fun h10 => ck (lk (LC a0) 3 0 a0 (n + 2)) (ck (decide (n + 2 ≤ 191)) (ck (decide (n + 2 ≠ 0)) (hb (sr h10 a0 1 (n + 2)) fun h13 => ck (rk (n + 3) 191 (3) 38 (32) 478) (ck (decide (LC (n + 3) = (25, 20))) (hb (zr h13 (n + 3)) fun h17 => ck (lk (LC a0) 3 0 a0 (n + 3)) (ck (decide (n + 3 ≤ 191)) (ck (decide (n + 3 ≠ 0)) (hb (sr h17 a0 2 (n + 3)) fun h20 => ck (rk (n + 4) 191 (4) 38 (38) 478) (ck (decide (LC (n + 4) = (23, 6))) (hb (zr h20 (n + 4)) fun h24 => ck (lk (LC a0) 3 0 a0 (n + 4)) (ck (decide (n + 4 ≤ 191)) (ck (decide (n + 4 ≠ 0)) (hb (sr h24 a0 3 (n + 4)) fun h27 => ck (rk (n + 5) 191 (5) 38 (44) 478) (ck (decide (LC (n + 5) = (20, 6))) (hb (zr h27 (n + 5)) fun h31 => ck (lk (LC a0) 3 0 a0 (n + 5)) (ck (decide (n + 5 ≤ 191)) (ck (decide (n + 5 ≠ 0)) (hb (sr h31 a0 4 (n + 5)) fun h34 => ck (rk (n + 6) 191 (6) 38 (54) 478) (ck (decide (LC (n + 6) = (1, 0))) (hb (zr h34 (n + 6)) fun h38 => ck (rk 0 0 (6) 38 (54) 478) (bb (m_X0_init (n + 6) (n + 6) h38) fun n40 h41 => ck (lk (LC a0) 3 0 a0 n40) (ck (decide (n40 ≤ 191)) (ck (decide (n + 6 ≠ 0)) (hb (sr h41 a0 5 (n + 6)) fun h44 => m_X2_init_L61 FU a0 0 n40 6 54 h44)))))))))))))))))))))))))))))))
set_option maxRecDepth 20000 in
set_option maxHeartbeats 4000000 in
theorem s_X2_init (w : WT) {x : CT} {l : Launch} (hx : xl x = l) (hG : Gd x cX2_init 2 RX2) (hE : Ge x (GC w)) (hR : Rm x 2) (hB : Rb x 38 478) (hT : Rt x none) (hN : (xt x).name = "<init>") (a0 : Nat) (n : Nat) (h : Hp) : Sn x 2 (gA (GC w)) (0, 0) (ζB x (GC w) 38 478) (bW (GC w) n h) 0 [(0, .ref (gB (GC w) + a0))] [] (m_X2_init a0 n h) := by
  unfold m_X2_init
  refine s_aload_n hG dX2_init_0 0 rfl rfl ?_
  refine b_obj hG (Nat.le_trans (by decide) hR.1) (Nat.le_trans (by decide) hR.2) dX2_init_1 wd_148 wd_111 wd_112 (Nat.le_of_ble_eq_true rfl) ?_
  refine s_aload_n hG dX2_init_4 0 rfl rfl ?_
  refine s_bipush hG dX2_init_5 bc_6 ?_
  refine s_ck (fun q1 => ?_)
  refine s_ck (fun q2 => ?_)
  refine b_newq (j := 2) (len := 6) hG hE hB dX2_init_7 (by decide) wd_149 (by decide) (by decide) (Nat.le_of_ble_eq_true rfl) q1 (of_decide_eq_true q2) ?_
  refine b_nh (fun h3 => ?_)
  refine s_ck (fun q4 => ?_)
  refine s_ck (fun q5 => ?_)
  refine s_ck (fun q7 => ?_)
  refine b_putR hG hE dX2_init_10 fl_X2_11 hN rfl q4 (of_decide_eq_true q5) rfl (fun _ => rfl) (fun _ => rfl) rfl (of_decide_eq_true q7) (fun h6 => ?_)
  refine s_aload_n hG dX2_init_13 0 rfl rfl ?_
  refine s_bipush hG dX2_init_14 bc_6 ?_
  refine s_ck (fun q8 => ?_)
  refine s_ck (fun q9 => ?_)
  refine b_newq (j := 2) (len := 6) hG hE hB dX2_init_16 (by decide) wd_149 (by decide) (by decide) (Nat.le_of_ble_eq_true rfl) q8 (of_decide_eq_true q9) ?_
  refine b_nh (fun h10 => ?_)
  refine s_ck (fun q11 => ?_)
  refine s_ck (fun q12 => ?_)
  refine s_ck (fun q14 => ?_)
  refine b_putR hG hE dX2_init_19 fl_X2_17 hN rfl q11 (of_decide_eq_true q12) rfl (fun _ => rfl) (fun _ => rfl) rfl (of_decide_eq_true q14) (fun h13 => ?_)
  refine s_aload_n hG dX2_init_22 0 rfl rfl ?_
  refine s_bipush hG dX2_init_23 bc_20 ?_
  refine s_ck (fun q15 => ?_)
  refine s_ck (fun q16 => ?_)
  refine b_newq (j := 2) (len := 20) hG hE hB dX2_init_25 (by decide) wd_149 (by decide) (by decide) (Nat.le_of_ble_eq_true rfl) q15 (of_decide_eq_true q16) ?_
  refine b_nh (fun h17 => ?_)
  refine s_ck (fun q18 => ?_)
  refine s_ck (fun q19 => ?_)
  refine s_ck (fun q21 => ?_)
  refine b_putR hG hE dX2_init_28 fl_X2_20 hN rfl q18 (of_decide_eq_true q19) rfl (fun _ => rfl) (fun _ => rfl) rfl (of_decide_eq_true q21) (fun h20 => ?_)
  refine s_aload_n hG dX2_init_31 0 rfl rfl ?_
  refine s_bipush hG dX2_init_32 bc_6 ?_
  refine s_ck (fun q22 => ?_)
  refine s_ck (fun q23 => ?_)
  refine b_newq (j := 0) (len := 6) hG hE hB dX2_init_34 (by decide) wd_151 (by decide) (by decide) (Nat.le_of_ble_eq_true rfl) q22 (of_decide_eq_true q23) ?_
  refine b_nh (fun h24 => ?_)
  refine s_ck (fun q25 => ?_)
  refine s_ck (fun q26 => ?_)
  refine s_ck (fun q28 => ?_)
  refine b_putR hG hE dX2_init_37 fl_X2_25 hN rfl q25 (of_decide_eq_true q26) rfl (fun _ => rfl) (fun _ => rfl) rfl (of_decide_eq_true q28) (fun h27 => ?_)
  refine s_aload_n hG dX2_init_40 0 rfl rfl ?_
  refine s_bipush hG dX2_init_41 bc_6 ?_
  refine s_ck (fun q29 => ?_)
  refine s_ck (fun q30 => ?_)
  refine b_newa (t := 0) (len := 6) hG hE hB dX2_init_43 wac_0 (by decide) rfl (by decide) (by decide) (Nat.le_of_ble_eq_true rfl) q29 (of_decide_eq_true q30) ?_
  refine b_nh (fun h31 => ?_)
  refine s_ck (fun q32 => ?_)
  refine s_ck (fun q33 => ?_)
  refine s_ck (fun q35 => ?_)
  refine b_putR hG hE dX2_init_45 fl_X2_29 hN rfl q32 (of_decide_eq_true q33) rfl (fun _ => rfl) (fun _ => rfl) rfl (of_decide_eq_true q35) (fun h34 => ?_)
  refine s_aload_n hG dX2_init_48 0 rfl rfl ?_
  refine s_ck (fun q36 => ?_)
  refine s_ck (fun q37 => ?_)
  refine b_new (ci := 0) hG hE hB dX2_init_49 (by decide) wd_151 wd_152 wd_90 q36 (of_decide_eq_true q37) ?_
  refine b_nh (fun h38 => ?_)
  refine s_dup hG dX2_init_52 rfl ?_
  refine s_ck (fun q39 => ?_)
  refine b_call hG hE hB dX2_init_53 hR (by decide) vi_X2_33 wd_154 rfl (Nat.le_of_ble_eq_true rfl) q39 (fun zn zh zq => c_X0_init w (xl x) (n + 6) (n + 6) h38 zn zh zq) (fun n40 h41 => ?_)
  refine s_ck (fun q42 => ?_)
  refine s_ck (fun q43 => ?_)
  refine s_ck (fun q45 => ?_)
  refine b_putR hG hE dX2_init_56 fl_X2_34 hN rfl q42 (of_decide_eq_true q43) rfl (fun _ => rfl) (fun _ => rfl) rfl (of_decide_eq_true q45) (fun h44 => ?_)
  refine s_iconst hG dX2_init_59 ic_0 ?_
  refine s_istore_n (lv' := [(1, .int 0), (0, .ref (gB (GC w) + a0))]) hG dX2_init_60 rfl (by decide) rfl ?_
  refine s_lv [1, 0] rfl ?_
  exact s_X2_init_L61 w hx hG hE hR hB hT hN FU a0 0 n40 6 54 h44

theorem c_X2_init (w : WT) (l : Launch) (a0 n : Nat) (h : Hp) : ∀ n' h', m_X2_init a0 n h = some (n', h') → MetB l (GC w) yX2_init cX2_init 2 2 38 478 a0 n h n' h' :=
  met_ofB (by decide) rfl (lokC w) (by decide) (fun x hx hG hE hR hB hT hN => s_X2_init w hx hG hE hR hB hT hN a0 n h)
theorem wd_119 : Cond.classLink RX8 39 RX7 ∈ GW := gw_at 119 (by decide +kernel) (by decide +kernel)
theorem wd_393 : Cond.instantiable RX7 3 ∈ GW := gw_at 393 (by decide +kernel) (by decide +kernel)
theorem wd_95 : Cond.initialized RX7 ∈ GW := gw_at 95 (by decide +kernel) (by decide +kernel)
theorem vi_X8_72 : VCb RX8 72 yX7_init cX7_init 1 none 0 := ⟨gw_at 394 (by decide +kernel) (by decide +kernel), gw_at 396 (by decide +kernel) (by decide +kernel), gw_at 95 (by decide +kernel) (by decide +kernel), by decide +kernel, by decide⟩
theorem wd_395 : Cond.instanceMethod yX7_init ∈ GW := gw_at 395 (by decide +kernel) (by decide +kernel)
theorem wd_117 : Cond.classLink RX8 33 RX3 ∈ GW := gw_at 117 (by decide +kernel) (by decide +kernel)
theorem wd_340 : Cond.instantiable RX3 12 ∈ GW := gw_at 340 (by decide +kernel) (by decide +kernel)
theorem wd_94 : Cond.initialized RX3 ∈ GW := gw_at 94 (by decide +kernel) (by decide +kernel)
theorem vi_X8_71 : VCb RX8 71 yX3_init cX3_init 1 none 0 := ⟨gw_at 341 (by decide +kernel) (by decide +kernel), gw_at 343 (by decide +kernel) (by decide +kernel), gw_at 94 (by decide +kernel) (by decide +kernel), by decide +kernel, by decide⟩
theorem wd_342 : Cond.instanceMethod yX3_init ∈ GW := gw_at 342 (by decide +kernel) (by decide +kernel)
theorem wd_115 : Cond.classLink RX8 24 RX0 ∈ GW := gw_at 115 (by decide +kernel) (by decide +kernel)
theorem vi_X8_70 : VCb RX8 70 yX0_init cX0_init 1 none 0 := ⟨gw_at 339 (by decide +kernel) (by decide +kernel), gw_at 155 (by decide +kernel) (by decide +kernel), gw_at 90 (by decide +kernel) (by decide +kernel), by decide +kernel, by decide⟩
theorem wd_113 : Cond.classLink RX8 18 RX6 ∈ GW := gw_at 113 (by decide +kernel) (by decide +kernel)
theorem wd_324 : Cond.instantiable RX6 3 ∈ GW := gw_at 324 (by decide +kernel) (by decide +kernel)
theorem wd_93 : Cond.initialized RX6 ∈ GW := gw_at 93 (by decide +kernel) (by decide +kernel)
theorem vi_X8_69 : VCb RX8 69 yX6_init cX6_init 1 none 0 := ⟨gw_at 325 (by decide +kernel) (by decide +kernel), gw_at 327 (by decide +kernel) (by decide +kernel), gw_at 93 (by decide +kernel) (by decide +kernel), by decide +kernel, by decide⟩
theorem wd_326 : Cond.instanceMethod yX6_init ∈ GW := gw_at 326 (by decide +kernel) (by decide +kernel)
theorem wd_110 : Cond.methodLink RX8 3 Lib.objectInit ∈ GW := gw_at 110 (by decide +kernel) (by decide +kernel)
theorem wd_121 : Cond.classLink RX8 45 RX4 ∈ GW := gw_at 121 (by decide +kernel) (by decide +kernel)
theorem wd_122 : Cond.instantiable RX4 4 ∈ GW := gw_at 122 (by decide +kernel) (by decide +kernel)
theorem wd_88 : Cond.initialized RX4 ∈ GW := gw_at 88 (by decide +kernel) (by decide +kernel)
theorem vi_X8_47 : VCb RX8 47 yX4_init cX4_init 1 none 0 := ⟨gw_at 123 (by decide +kernel) (by decide +kernel), gw_at 125 (by decide +kernel) (by decide +kernel), gw_at 88 (by decide +kernel) (by decide +kernel), by decide +kernel, by decide⟩
theorem wd_124 : Cond.instanceMethod yX4_init ∈ GW := gw_at 124 (by decide +kernel) (by decide +kernel)
theorem wd_143 : Cond.classLink RX8 52 RX2 ∈ GW := gw_at 143 (by decide +kernel) (by decide +kernel)
theorem wd_144 : Cond.instantiable RX2 14 ∈ GW := gw_at 144 (by decide +kernel) (by decide +kernel)
theorem wd_89 : Cond.initialized RX2 ∈ GW := gw_at 89 (by decide +kernel) (by decide +kernel)
theorem vi_X8_54 : VCb RX8 54 yX2_init cX2_init 2 none 0 := ⟨gw_at 145 (by decide +kernel) (by decide +kernel), gw_at 147 (by decide +kernel) (by decide +kernel), gw_at 89 (by decide +kernel) (by decide +kernel), by decide +kernel, by decide⟩
theorem wd_146 : Cond.instanceMethod yX2_init ∈ GW := gw_at 146 (by decide +kernel) (by decide +kernel)
theorem wd_304 : Cond.classLink RX8 62 RX1 ∈ GW := gw_at 304 (by decide +kernel) (by decide +kernel)
theorem wd_305 : Cond.instantiable RX1 4 ∈ GW := gw_at 305 (by decide +kernel) (by decide +kernel)
theorem wd_92 : Cond.initialized RX1 ∈ GW := gw_at 92 (by decide +kernel) (by decide +kernel)
theorem vi_X8_64 : VCb RX8 64 yX1_init cX1_init 1 none 0 := ⟨gw_at 306 (by decide +kernel) (by decide +kernel), gw_at 308 (by decide +kernel) (by decide +kernel), gw_at 92 (by decide +kernel) (by decide +kernel), by decide +kernel, by decide⟩
theorem wd_307 : Cond.instanceMethod yX1_init ∈ GW := gw_at 307 (by decide +kernel) (by decide +kernel)
def m_X8_init_L203 : Nat → Nat → Int32 → Nat → Nat → Nat → Hp → Option (Nat × Hp)
  | 0, _, _, _, _, _, _ => none
  | fu + 1, a0, a1, n, c, z, h => if 6 ≤ a1 then ck (rk 0 0 c 190 z 2930) (some (n, h)) else ck (lk (LC a0) 9 0 a0 n) (ck (decide (gr h a0 6 ≠ 0)) (vb (gr h a0 6) fun r5 => ck (rk (n + 1) 191 (c + 1) 190 (z + 3) 2930) (ck (decide (LC (n + 1) = (8, 0))) (hb (zr h (n + 1)) fun h8 => ck (rk 0 0 (c + 2) 190 (z + 63) 2930) (bb (m_X7_init (n + 1) (n + 1) h8) fun n10 h11 => ck (inb a1 6) (ck (lk (LC r5) 27 6 r5 n10) (ck (lk (LC (n + 1)) 8 0 (n + 1) n10) (ck (decide (n10 ≤ 191)) (hb (sr h11 r5 a1.toNatClampNeg (n + 1)) fun h16 => vb (a1 + 1) fun v17 => m_X8_init_L203 fu a0 v17 n10 (c + 2) (z + 63) h16)))))))))
set_option maxRecDepth 20000 in
set_option maxHeartbeats 4000000 in
theorem s_X8_init_L203 (w : WT) {x : CT} {l : Launch} (hx : xl x = l) (hG : Gd x cX8_init 2 RX8) (hE : Ge x (GC w)) (hR : Rm x 3) (hB : Rb x 190 2930) (hT : Rt x none) (hN : (xt x).name = "<init>") : ∀ (fu : Nat) (a0 : Nat) (a1 : Int32) (n c z : Nat) (h : Hp), Sn x 2 (gA (GC w)) (c, z) (ζB x (GC w) 190 2930) (bW (GC w) n h) 203 [(0, .ref (gB (GC w) + a0)), (1, .int a1)] [] (m_X8_init_L203 fu a0 a1 n c z h) := by
  intro fu
  induction fu with
  | zero => intro a0 a1 n c z h; exact s_none
  | succ fu ih =>
    intro a0 a1 n c z h
    rw [m_X8_init_L203]
    refine s_iload_n hG dX8_init_203 1 rfl rfl ?_
    refine s_bipush hG dX8_init_204 bc_6 ?_
    refine s_icmp_ge hG dX8_init_206 (tgt := 228) (by decide) (fun q1 => ?_) (fun q1 => ?_)
    · refine s_ck (fun q2 => ?_)
      exact b_vret hG hT (rk_of q2).2.1 (rk_of q2).2.2 dX8_init_228
    · refine s_aload_n hG dX8_init_209 0 rfl rfl ?_
      refine s_ck (fun q3 => ?_)
      refine s_ck (fun q4 => ?_)
      refine b_getR hG hE dX8_init_210 fl_X8_41 rfl q3 (of_decide_eq_true q4) ?_
      refine s_vR (fun r5 => ?_)
      refine s_iload_n hG dX8_init_213 1 rfl rfl ?_
      refine s_ck (fun q6 => ?_)
      refine s_ck (fun q7 => ?_)
      refine b_new (ci := 7) hG hE hB dX8_init_214 (by decide) wd_119 wd_393 wd_95 q6 (of_decide_eq_true q7) ?_
      refine b_nh (fun h8 => ?_)
      refine s_dup hG dX8_init_217 rfl ?_
      refine s_ck (fun q9 => ?_)
      refine b_call hG hE hB dX8_init_218 hR (by decide) vi_X8_72 wd_395 rfl (Nat.le_of_ble_eq_true rfl) q9 (fun zn zh zq => c_X7_init w (xl x) (n + 1) (n + 1) h8 zn zh zq) (fun n10 h11 => ?_)
      refine s_ck (fun q12 => ?_)
      refine s_ck (fun q13 => ?_)
      refine s_ck (fun q14 => ?_)
      refine s_ck (fun q15 => ?_)
      refine b_aast (j := 4) hG hE dX8_init_221 (by decide) (of_decide_eq_true q15) q13 q12 q14 (fun h16 => ?_)
      refine s_iinc hG dX8_init_222 1 rfl ic_1 (by decide) (fun v17 => [(1, .int v17), (0, .ref (gB (GC w) + a0))]) (fun _ => rfl) (fun v17 => ?_)
      refine s_goto (tgt := 203) hG dX8_init_225 (by decide) ?_
      refine s_lv [1, 0] rfl ?_
      exact ih a0 v17 n10 (c + 2) (z + 63) h16

def m_X8_init_L176 : Nat → Nat → Int32 → Nat → Nat → Nat → Hp → Option (Nat × Hp)
  | 0, _, _, _, _, _, _ => none
  | fu + 1, a0, a1, n, c, z, h => if 6 ≤ a1 then m_X8_init_L203 FU a0 0 n c z h else ck (lk (LC a0) 9 0 a0 n) (ck (decide (gr h a0 5 ≠ 0)) (vb (gr h a0 5) fun r4 => ck (rk (n + 1) 191 (c + 1) 190 (z + 12) 2930) (ck (decide (LC (n + 1) = (4, 0))) (hb (zr h (n + 1)) fun h7 => ck (rk 0 0 (c + 6) 190 (z + 144) 2930) (bb (m_X3_init (n + 1) (n + 1) h7) fun n9 h10 => ck (inb a1 6) (ck (lk (LC r4) 24 6 r4 n9) (ck (lk (LC (n + 1)) 4 0 (n + 1) n9) (ck (decide (n9 ≤ 191)) (hb (sr h10 r4 a1.toNatClampNeg (n + 1)) fun h15 => vb (a1 + 1) fun v16 => m_X8_init_L176 fu a0 v16 n9 (c + 6) (z + 144) h15)))))))))
set_option maxRecDepth 20000 in
set_option maxHeartbeats 4000000 in
theorem s_X8_init_L176 (w : WT) {x : CT} {l : Launch} (hx : xl x = l) (hG : Gd x cX8_init 2 RX8) (hE : Ge x (GC w)) (hR : Rm x 3) (hB : Rb x 190 2930) (hT : Rt x none) (hN : (xt x).name = "<init>") : ∀ (fu : Nat) (a0 : Nat) (a1 : Int32) (n c z : Nat) (h : Hp), Sn x 2 (gA (GC w)) (c, z) (ζB x (GC w) 190 2930) (bW (GC w) n h) 176 [(0, .ref (gB (GC w) + a0)), (1, .int a1)] [] (m_X8_init_L176 fu a0 a1 n c z h) := by
  intro fu
  induction fu with
  | zero => intro a0 a1 n c z h; exact s_none
  | succ fu ih =>
    intro a0 a1 n c z h
    rw [m_X8_init_L176]
    refine s_iload_n hG dX8_init_176 1 rfl rfl ?_
    refine s_bipush hG dX8_init_177 bc_6 ?_
    refine s_icmp_ge hG dX8_init_179 (tgt := 201) (by decide) (fun q1 => ?_) (fun q1 => ?_)
    · refine s_iconst hG dX8_init_201 ic_0 ?_
      refine s_istore_n (lv' := [(1, .int 0), (0, .ref (gB (GC w) + a0))]) hG dX8_init_202 rfl (by decide) rfl ?_
      refine s_lv [1, 0] rfl ?_
      exact s_X8_init_L203 w hx hG hE hR hB hT hN FU a0 0 n c z h
    · refine s_aload_n hG dX8_init_182 0 rfl rfl ?_
      refine s_ck (fun q2 => ?_)
      refine s_ck (fun q3 => ?_)
      refine b_getR hG hE dX8_init_183 fl_X8_35 rfl q2 (of_decide_eq_true q3) ?_
      refine s_vR (fun r4 => ?_)
      refine s_iload_n hG dX8_init_186 1 rfl rfl ?_
      refine s_ck (fun q5 => ?_)
      refine s_ck (fun q6 => ?_)
      refine b_new (ci := 3) hG hE hB dX8_init_187 (by decide) wd_117 wd_340 wd_94 q5 (of_decide_eq_true q6) ?_
      refine b_nh (fun h7 => ?_)
      refine s_dup hG dX8_init_190 rfl ?_
      refine s_ck (fun q8 => ?_)
      refine b_call hG hE hB dX8_init_191 hR (by decide) vi_X8_71 wd_342 rfl (Nat.le_of_ble_eq_true rfl) q8 (fun zn zh zq => c_X3_init w (xl x) (n + 1) (n + 1) h7 zn zh zq) (fun n9 h10 => ?_)
      refine s_ck (fun q11 => ?_)
      refine s_ck (fun q12 => ?_)
      refine s_ck (fun q13 => ?_)
      refine s_ck (fun q14 => ?_)
      refine b_aast (j := 1) hG hE dX8_init_194 (by decide) (of_decide_eq_true q14) q12 q11 q13 (fun h15 => ?_)
      refine s_iinc hG dX8_init_195 1 rfl ic_1 (by decide) (fun v16 => [(1, .int v16), (0, .ref (gB (GC w) + a0))]) (fun _ => rfl) (fun v16 => ?_)
      refine s_goto (tgt := 176) hG dX8_init_198 (by decide) ?_
      refine s_lv [1, 0] rfl ?_
      exact ih a0 v16 n9 (c + 6) (z + 144) h15

def m_X8_init_L136 : Nat → Nat → Int32 → Nat → Nat → Nat → Hp → Option (Nat × Hp)
  | 0, _, _, _, _, _, _ => none
  | fu + 1, a0, a1, n, c, z, h => if 24 ≤ a1 then m_X8_init_L176 FU a0 0 n c z h else ck (lk (LC a0) 9 0 a0 n) (ck (decide (gr h a0 3 ≠ 0)) (vb (gr h a0 3) fun r4 => ck (rk (n + 1) 191 (c + 1) 190 (z + 10) 2930) (ck (decide (LC (n + 1) = (1, 0))) (hb (zr h (n + 1)) fun h7 => ck (rk 0 0 (c + 1) 190 (z + 10) 2930) (bb (m_X0_init (n + 1) (n + 1) h7) fun n9 h10 => ck (inb a1 24) (ck (lk (LC r4) 23 24 r4 n9) (ck (lk (LC (n + 1)) 1 0 (n + 1) n9) (ck (decide (n9 ≤ 191)) (hb (sr h10 r4 a1.toNatClampNeg (n + 1)) fun h15 => ck (lk (LC a0) 9 0 a0 n9) (ck (decide (gr h15 a0 4 ≠ 0)) (vb (gr h15 a0 4) fun r18 => ck (rk (n9 + 1) 191 (c + 2) 190 (z + 20) 2930) (ck (decide (LC (n9 + 1) = (1, 0))) (hb (zr h15 (n9 + 1)) fun h21 => ck (rk 0 0 (c + 2) 190 (z + 20) 2930) (bb (m_X0_init (n9 + 1) (n9 + 1) h21) fun n23 h24 => ck (lk (LC r18) 23 24 r18 n23) (ck (lk (LC (n9 + 1)) 1 0 (n9 + 1) n23) (ck (decide (n23 ≤ 191)) (hb (sr h24 r18 a1.toNatClampNeg (n9 + 1)) fun h28 => vb (a1 + 1) fun v29 => m_X8_init_L136 fu a0 v29 n23 (c + 2) (z + 20) h28)))))))))))))))))
set_option maxRecDepth 20000 in
set_option maxHeartbeats 4000000 in
theorem s_X8_init_L136 (w : WT) {x : CT} {l : Launch} (hx : xl x = l) (hG : Gd x cX8_init 2 RX8) (hE : Ge x (GC w)) (hR : Rm x 3) (hB : Rb x 190 2930) (hT : Rt x none) (hN : (xt x).name = "<init>") : ∀ (fu : Nat) (a0 : Nat) (a1 : Int32) (n c z : Nat) (h : Hp), Sn x 2 (gA (GC w)) (c, z) (ζB x (GC w) 190 2930) (bW (GC w) n h) 136 [(0, .ref (gB (GC w) + a0)), (1, .int a1)] [] (m_X8_init_L136 fu a0 a1 n c z h) := by
  intro fu
  induction fu with
  | zero => intro a0 a1 n c z h; exact s_none
  | succ fu ih =>
    intro a0 a1 n c z h
    rw [m_X8_init_L136]
    refine s_iload_n hG dX8_init_136 1 rfl rfl ?_
    refine s_bipush hG dX8_init_137 bc_24 ?_
    refine s_icmp_ge hG dX8_init_139 (tgt := 174) (by decide) (fun q1 => ?_) (fun q1 => ?_)
    · refine s_iconst hG dX8_init_174 ic_0 ?_
      refine s_istore_n (lv' := [(1, .int 0), (0, .ref (gB (GC w) + a0))]) hG dX8_init_175 rfl (by decide) rfl ?_
      refine s_lv [1, 0] rfl ?_
      exact s_X8_init_L176 w hx hG hE hR hB hT hN FU a0 0 n c z h
    · refine s_aload_n hG dX8_init_142 0 rfl rfl ?_
      refine s_ck (fun q2 => ?_)
      refine s_ck (fun q3 => ?_)
      refine b_getR hG hE dX8_init_143 fl_X8_26 rfl q2 (of_decide_eq_true q3) ?_
      refine s_vR (fun r4 => ?_)
      refine s_iload_n hG dX8_init_146 1 rfl rfl ?_
      refine s_ck (fun q5 => ?_)
      refine s_ck (fun q6 => ?_)
      refine b_new (ci := 0) hG hE hB dX8_init_147 (by decide) wd_115 wd_152 wd_90 q5 (of_decide_eq_true q6) ?_
      refine b_nh (fun h7 => ?_)
      refine s_dup hG dX8_init_150 rfl ?_
      refine s_ck (fun q8 => ?_)
      refine b_call hG hE hB dX8_init_151 hR (by decide) vi_X8_70 wd_154 rfl (Nat.le_of_ble_eq_true rfl) q8 (fun zn zh zq => c_X0_init w (xl x) (n + 1) (n + 1) h7 zn zh zq) (fun n9 h10 => ?_)
      refine s_ck (fun q11 => ?_)
      refine s_ck (fun q12 => ?_)
      refine s_ck (fun q13 => ?_)
      refine s_ck (fun q14 => ?_)
      refine b_aast (j := 0) hG hE dX8_init_154 (by decide) (of_decide_eq_true q14) q12 q11 q13 (fun h15 => ?_)
      refine s_aload_n hG dX8_init_155 0 rfl rfl ?_
      refine s_ck (fun q16 => ?_)
      refine s_ck (fun q17 => ?_)
      refine b_getR hG hE dX8_init_156 fl_X8_30 rfl q16 (of_decide_eq_true q17) ?_
      refine s_vR (fun r18 => ?_)
      refine s_iload_n hG dX8_init_159 1 rfl rfl ?_
      refine s_ck (fun q19 => ?_)
      refine s_ck (fun q20 => ?_)
      refine b_new (ci := 0) hG hE hB dX8_init_160 (by decide) wd_115 wd_152 wd_90 q19 (of_decide_eq_true q20) ?_
      refine b_nh (fun h21 => ?_)
      refine s_dup hG dX8_init_163 rfl ?_
      refine s_ck (fun q22 => ?_)
      refine b_call hG hE hB dX8_init_164 hR (by decide) vi_X8_70 wd_154 rfl (Nat.le_of_ble_eq_true rfl) q22 (fun zn zh zq => c_X0_init w (xl x) (n9 + 1) (n9 + 1) h21 zn zh zq) (fun n23 h24 => ?_)
      refine s_ck (fun q25 => ?_)
      refine s_ck (fun q26 => ?_)
      refine s_ck (fun q27 => ?_)
      refine b_aast (j := 0) hG hE dX8_init_167 (by decide) (of_decide_eq_true q27) q25 q11 q26 (fun h28 => ?_)
      refine s_iinc hG dX8_init_168 1 rfl ic_1 (by decide) (fun v29 => [(1, .int v29), (0, .ref (gB (GC w) + a0))]) (fun _ => rfl) (fun v29 => ?_)
      refine s_goto (tgt := 136) hG dX8_init_171 (by decide) ?_
      refine s_lv [1, 0] rfl ?_
      exact ih a0 v29 n23 (c + 2) (z + 20) h28

def m_X8_init_L110 : Nat → Nat → Int32 → Nat → Nat → Nat → Hp → Option (Nat × Hp)
  | 0, _, _, _, _, _, _ => none
  | fu + 1, a0, a1, n, c, z, h => if 5 ≤ a1 then m_X8_init_L136 FU a0 0 n c z h else ck (lk (LC a0) 9 0 a0 n) (ck (decide (gr h a0 2 ≠ 0)) (vb (gr h a0 2) fun r4 => ck (rk (n + 1) 191 (c + 1) 190 (z + 3) 2930) (ck (decide (LC (n + 1) = (7, 0))) (hb (zr h (n + 1)) fun h7 => ck (rk 0 0 (c + 1) 190 (z + 3) 2930) (bb (m_X6_init (n + 1) (n + 1) h7) fun n9 h10 => ck (inb a1 5) (ck (lk (LC r4) 26 5 r4 n9) (ck (lk (LC (n + 1)) 7 0 (n + 1) n9) (ck (decide (n9 ≤ 191)) (hb (sr h10 r4 a1.toNatClampNeg (n + 1)) fun h15 => vb (a1 + 1) fun v16 => m_X8_init_L110 fu a0 v16 n9 (c + 1) (z + 3) h15)))))))))
set_option maxRecDepth 20000 in
set_option maxHeartbeats 4000000 in
theorem s_X8_init_L110 (w : WT) {x : CT} {l : Launch} (hx : xl x = l) (hG : Gd x cX8_init 2 RX8) (hE : Ge x (GC w)) (hR : Rm x 3) (hB : Rb x 190 2930) (hT : Rt x none) (hN : (xt x).name = "<init>") : ∀ (fu : Nat) (a0 : Nat) (a1 : Int32) (n c z : Nat) (h : Hp), Sn x 2 (gA (GC w)) (c, z) (ζB x (GC w) 190 2930) (bW (GC w) n h) 110 [(0, .ref (gB (GC w) + a0)), (1, .int a1)] [] (m_X8_init_L110 fu a0 a1 n c z h) := by
  intro fu
  induction fu with
  | zero => intro a0 a1 n c z h; exact s_none
  | succ fu ih =>
    intro a0 a1 n c z h
    rw [m_X8_init_L110]
    refine s_iload_n hG dX8_init_110 1 rfl rfl ?_
    refine s_iconst hG dX8_init_111 ic_5 ?_
    refine s_icmp_ge hG dX8_init_112 (tgt := 134) (by decide) (fun q1 => ?_) (fun q1 => ?_)
    · refine s_iconst hG dX8_init_134 ic_0 ?_
      refine s_istore_n (lv' := [(1, .int 0), (0, .ref (gB (GC w) + a0))]) hG dX8_init_135 rfl (by decide) rfl ?_
      refine s_lv [1, 0] rfl ?_
      exact s_X8_init_L136 w hx hG hE hR hB hT hN FU a0 0 n c z h
    · refine s_aload_n hG dX8_init_115 0 rfl rfl ?_
      refine s_ck (fun q2 => ?_)
      refine s_ck (fun q3 => ?_)
      refine b_getR hG hE dX8_init_116 fl_X8_20 rfl q2 (of_decide_eq_true q3) ?_
      refine s_vR (fun r4 => ?_)
      refine s_iload_n hG dX8_init_119 1 rfl rfl ?_
      refine s_ck (fun q5 => ?_)
      refine s_ck (fun q6 => ?_)
      refine b_new (ci := 6) hG hE hB dX8_init_120 (by decide) wd_113 wd_324 wd_93 q5 (of_decide_eq_true q6) ?_
      refine b_nh (fun h7 => ?_)
      refine s_dup hG dX8_init_123 rfl ?_
      refine s_ck (fun q8 => ?_)
      refine b_call hG hE hB dX8_init_124 hR (by decide) vi_X8_69 wd_326 rfl (Nat.le_of_ble_eq_true rfl) q8 (fun zn zh zq => c_X6_init w (xl x) (n + 1) (n + 1) h7 zn zh zq) (fun n9 h10 => ?_)
      refine s_ck (fun q11 => ?_)
      refine s_ck (fun q12 => ?_)
      refine s_ck (fun q13 => ?_)
      refine s_ck (fun q14 => ?_)
      refine b_aast (j := 3) hG hE dX8_init_127 (by decide) (of_decide_eq_true q14) q12 q11 q13 (fun h15 => ?_)
      refine s_iinc hG dX8_init_128 1 rfl ic_1 (by decide) (fun v16 => [(1, .int v16), (0, .ref (gB (GC w) + a0))]) (fun _ => rfl) (fun v16 => ?_)
      refine s_goto (tgt := 110) hG dX8_init_131 (by decide) ?_
      refine s_lv [1, 0] rfl ?_
      exact ih a0 v16 n9 (c + 1) (z + 3) h15

def m_X8_init (a0 : Nat) (n : Nat) (h : Hp) : Option (Nat × Hp) := ck (rk (n + 1) 191 (1) 190 (8) 2930) (ck (decide (LC (n + 1) = (20, 8))) (hb (zr h (n + 1)) fun h3 => ck (lk (LC a0) 9 0 a0 (n + 1)) (ck (decide (n + 1 ≤ 191)) (ck (decide (n + 1 ≠ 0)) (hb (sr h3 a0 0 (n + 1)) fun h6 => ck (rk (n + 2) 191 (2) 190 (16) 2930) (ck (decide (LC (n + 2) = (20, 8))) (hb (zr h6 (n + 2)) fun h10 => ck (lk (LC a0) 9 0 a0 (n + 2)) (ck (decide (n + 2 ≤ 191)) (ck (decide (n + 2 ≠ 0)) (hb (sr h10 a0 1 (n + 2)) fun h13 => ck (rk (n + 3) 191 (3) 190 (21) 2930) (ck (decide (LC (n + 3) = (26, 5))) (hb (zr h13 (n + 3)) fun h17 => ck (lk (LC a0) 9 0 a0 (n + 3)) (ck (decide (n + 3 ≤ 191)) (ck (decide (n + 3 ≠ 0)) (hb (sr h17 a0 2 (n + 3)) fun h20 => ck (rk (n + 4) 191 (4) 190 (45) 2930) (ck (decide (LC (n + 4) = (23, 24))) (hb (zr h20 (n + 4)) fun h24 => ck (lk (LC a0) 9 0 a0 (n + 4)) (ck (decide (n + 4 ≤ 191)) (ck (decide (n + 4 ≠ 0)) (hb (sr h24 a0 3 (n + 4)) fun h27 => ck (rk (n + 5) 191 (5) 190 (69) 2930) (ck (decide (LC (n + 5) = (23, 24))) (hb (zr h27 (n + 5)) fun h31 => ck (lk (LC a0) 9 0 a0 (n + 5)) (ck (decide (n + 5 ≤ 191)) (ck (decide (n + 5 ≠ 0)) (hb (sr h31 a0 4 (n + 5)) fun h34 => ck (rk (n + 6) 191 (6) 190 (75) 2930) (ck (decide (LC (n + 6) = (24, 6))) (hb (zr h34 (n + 6)) fun h38 => ck (lk (LC a0) 9 0 a0 (n + 6)) (ck (decide (n + 6 ≤ 191)) (ck (decide (n + 6 ≠ 0)) (hb (sr h38 a0 5 (n + 6)) fun h41 => ck (rk (n + 7) 191 (7) 190 (81) 2930) (ck (decide (LC (n + 7) = (27, 6))) (hb (zr h41 (n + 7)) fun h45 => ck (lk (LC a0) 9 0 a0 (n + 7)) (ck (decide (n + 7 ≤ 191)) (ck (decide (n + 7 ≠ 0)) (hb (sr h45 a0 6 (n + 7)) fun h48 => ck (rk (n + 8) 191 (8) 190 (85) 2930) (ck (decide (LC (n + 8) = (5, 0))) (hb (zr h48 (n + 8)) fun h52 => ck (rk 0 0 (9) 190 (185) 2930) (bb (m_X4_init (n + 8) (n + 8) h52) fun n54 h55 => ck (lk (LC a0) 9 0 a0 n54) (ck (decide (n54 ≤ 191)) (ck (decide (n + 8 ≠ 0)) (hb (sr h55 a0 7 (n + 8)) fun h58 => ck (rk (n54 + 1) 191 (10) 190 (199) 2930) (ck (decide (LC (n54 + 1) = (3, 0))) (hb (zr h58 (n54 + 1)) fun h62 => ck (rk 0 0 (48) 190 (677) 2930) (bb (m_X2_init (n54 + 1) (n54 + 1) h62) fun n64 h65 => ck (lk (LC a0) 9 0 a0 n64) (ck (decide (n64 ≤ 191)) (ck (decide (n54 + 1 ≠ 0)) (hb (sr h65 a0 8 (n54 + 1)) fun h68 => ck (rk (n64 + 1) 191 (49) 190 (691) 2930) (ck (decide (LC (n64 + 1) = (3, 0))) (hb (zr h68 (n64 + 1)) fun h72 => ck (rk 0 0 (87) 190 (1169) 2930) (bb (m_X2_init (n64 + 1) (n64 + 1) h72) fun n74 h75 => ck (lk (LC a0) 9 0 a0 n74) (ck (decide (n74 ≤ 191)) (ck (decide (n64 + 1 ≠ 0)) (hb (sr h75 a0 9 (n64 + 1)) fun h78 => ck (rk (n74 + 1) 191 (88) 190 (1173) 2930) (ck (decide (LC (n74 + 1) = (2, 0))) (hb (zr h78 (n74 + 1)) fun h82 => ck (rk 0 0 (89) 190 (1193) 2930) (bb (m_X1_init (n74 + 1) (n74 + 1) h82) fun n84 h85 => ck (lk (LC a0) 9 0 a0 n84) (ck (decide (n84 ≤ 191)) (ck (decide (n74 + 1 ≠ 0)) (hb (sr h85 a0 10 (n74 + 1)) fun h88 => m_X8_init_L110 FU a0 0 n84 89 1193 h88)))))))))))))))))))))))))))))))))))))))))))))))))))))))))))
set_option maxRecDepth 20000 in
set_option maxHeartbeats 4000000 in
theorem s_X8_init (w : WT) {x : CT} {l : Launch} (hx : xl x = l) (hG : Gd x cX8_init 2 RX8) (hE : Ge x (GC w)) (hR : Rm x 3) (hB : Rb x 190 2930) (hT : Rt x none) (hN : (xt x).name = "<init>") (a0 : Nat) (n : Nat) (h : Hp) : Sn x 2 (gA (GC w)) (0, 0) (ζB x (GC w) 190 2930) (bW (GC w) n h) 0 [(0, .ref (gB (GC w) + a0))] [] (m_X8_init a0 n h) := by
  unfold m_X8_init
  refine s_aload_n hG dX8_init_0 0 rfl rfl ?_
  refine b_obj hG (Nat.le_trans (by decide) hR.1) (Nat.le_trans (by decide) hR.2) dX8_init_1 wd_110 wd_111 wd_112 (Nat.le_of_ble_eq_true rfl) ?_
  refine s_aload_n hG dX8_init_4 0 rfl rfl ?_
  refine s_bipush hG dX8_init_5 bc_8 ?_
  refine s_ck (fun q1 => ?_)
  refine s_ck (fun q2 => ?_)
  refine b_newa (t := 0) (len := 8) hG hE hB dX8_init_7 wac_0 (by decide) rfl (by decide) (by decide) (Nat.le_of_ble_eq_true rfl) q1 (of_decide_eq_true q2) ?_
  refine b_nh (fun h3 => ?_)
  refine s_ck (fun q4 => ?_)
  refine s_ck (fun q5 => ?_)
  refine s_ck (fun q7 => ?_)
  refine b_putR hG hE dX8_init_9 fl_X8_11 hN rfl q4 (of_decide_eq_true q5) rfl (fun _ => rfl) (fun _ => rfl) rfl (of_decide_eq_true q7) (fun h6 => ?_)
  refine s_aload_n hG dX8_init_12 0 rfl rfl ?_
  refine s_bipush hG dX8_init_13 bc_8 ?_
  refine s_ck (fun q8 => ?_)
  refine s_ck (fun q9 => ?_)
  refine b_newa (t := 0) (len := 8) hG hE hB dX8_init_15 wac_0 (by decide) rfl (by decide) (by decide) (Nat.le_of_ble_eq_true rfl) q8 (of_decide_eq_true q9) ?_
  refine b_nh (fun h10 => ?_)
  refine s_ck (fun q11 => ?_)
  refine s_ck (fun q12 => ?_)
  refine s_ck (fun q14 => ?_)
  refine b_putR hG hE dX8_init_17 fl_X8_15 hN rfl q11 (of_decide_eq_true q12) rfl (fun _ => rfl) (fun _ => rfl) rfl (of_decide_eq_true q14) (fun h13 => ?_)
  refine s_aload_n hG dX8_init_20 0 rfl rfl ?_
  refine s_iconst hG dX8_init_21 ic_5 ?_
  refine s_ck (fun q15 => ?_)
  refine s_ck (fun q16 => ?_)
  refine b_newq (j := 3) (len := 5) hG hE hB dX8_init_22 (by decide) wd_113 (by decide) (by decide) (Nat.le_of_ble_eq_true rfl) q15 (of_decide_eq_true q16) ?_
  refine b_nh (fun h17 => ?_)
  refine s_ck (fun q18 => ?_)
  refine s_ck (fun q19 => ?_)
  refine s_ck (fun q21 => ?_)
  refine b_putR hG hE dX8_init_25 fl_X8_20 hN rfl q18 (of_decide_eq_true q19) rfl (fun _ => rfl) (fun _ => rfl) rfl (of_decide_eq_true q21) (fun h20 => ?_)
  refine s_aload_n hG dX8_init_28 0 rfl rfl ?_
  refine s_bipush hG dX8_init_29 bc_24 ?_
  refine s_ck (fun q22 => ?_)
  refine s_ck (fun q23 => ?_)
  refine b_newq (j := 0) (len := 24) hG hE hB dX8_init_31 (by decide) wd_115 (by decide) (by decide) (Nat.le_of_ble_eq_true rfl) q22 (of_decide_eq_true q23) ?_
  refine b_nh (fun h24 => ?_)
  refine s_ck (fun q25 => ?_)
  refine s_ck (fun q26 => ?_)
  refine s_ck (fun q28 => ?_)
  refine b_putR hG hE dX8_init_34 fl_X8_26 hN rfl q25 (of_decide_eq_true q26) rfl (fun _ => rfl) (fun _ => rfl) rfl (of_decide_eq_true q28) (fun h27 => ?_)
  refine s_aload_n hG dX8_init_37 0 rfl rfl ?_
  refine s_bipush hG dX8_init_38 bc_24 ?_
  refine s_ck (fun q29 => ?_)
  refine s_ck (fun q30 => ?_)
  refine b_newq (j := 0) (len := 24) hG hE hB dX8_init_40 (by decide) wd_115 (by decide) (by decide) (Nat.le_of_ble_eq_true rfl) q29 (of_decide_eq_true q30) ?_
  refine b_nh (fun h31 => ?_)
  refine s_ck (fun q32 => ?_)
  refine s_ck (fun q33 => ?_)
  refine s_ck (fun q35 => ?_)
  refine b_putR hG hE dX8_init_43 fl_X8_30 hN rfl q32 (of_decide_eq_true q33) rfl (fun _ => rfl) (fun _ => rfl) rfl (of_decide_eq_true q35) (fun h34 => ?_)
  refine s_aload_n hG dX8_init_46 0 rfl rfl ?_
  refine s_bipush hG dX8_init_47 bc_6 ?_
  refine s_ck (fun q36 => ?_)
  refine s_ck (fun q37 => ?_)
  refine b_newq (j := 1) (len := 6) hG hE hB dX8_init_49 (by decide) wd_117 (by decide) (by decide) (Nat.le_of_ble_eq_true rfl) q36 (of_decide_eq_true q37) ?_
  refine b_nh (fun h38 => ?_)
  refine s_ck (fun q39 => ?_)
  refine s_ck (fun q40 => ?_)
  refine s_ck (fun q42 => ?_)
  refine b_putR hG hE dX8_init_52 fl_X8_35 hN rfl q39 (of_decide_eq_true q40) rfl (fun _ => rfl) (fun _ => rfl) rfl (of_decide_eq_true q42) (fun h41 => ?_)
  refine s_aload_n hG dX8_init_55 0 rfl rfl ?_
  refine s_bipush hG dX8_init_56 bc_6 ?_
  refine s_ck (fun q43 => ?_)
  refine s_ck (fun q44 => ?_)
  refine b_newq (j := 4) (len := 6) hG hE hB dX8_init_58 (by decide) wd_119 (by decide) (by decide) (Nat.le_of_ble_eq_true rfl) q43 (of_decide_eq_true q44) ?_
  refine b_nh (fun h45 => ?_)
  refine s_ck (fun q46 => ?_)
  refine s_ck (fun q47 => ?_)
  refine s_ck (fun q49 => ?_)
  refine b_putR hG hE dX8_init_61 fl_X8_41 hN rfl q46 (of_decide_eq_true q47) rfl (fun _ => rfl) (fun _ => rfl) rfl (of_decide_eq_true q49) (fun h48 => ?_)
  refine s_aload_n hG dX8_init_64 0 rfl rfl ?_
  refine s_ck (fun q50 => ?_)
  refine s_ck (fun q51 => ?_)
  refine b_new (ci := 4) hG hE hB dX8_init_65 (by decide) wd_121 wd_122 wd_88 q50 (of_decide_eq_true q51) ?_
  refine b_nh (fun h52 => ?_)
  refine s_dup hG dX8_init_68 rfl ?_
  refine s_ck (fun q53 => ?_)
  refine b_call hG hE hB dX8_init_69 hR (by decide) vi_X8_47 wd_124 rfl (Nat.le_of_ble_eq_true rfl) q53 (fun zn zh zq => c_X4_init w (xl x) (n + 8) (n + 8) h52 zn zh zq) (fun n54 h55 => ?_)
  refine s_ck (fun q56 => ?_)
  refine s_ck (fun q57 => ?_)
  refine s_ck (fun q59 => ?_)
  refine b_putR hG hE dX8_init_72 fl_X8_48 hN rfl q56 (of_decide_eq_true q57) rfl (fun _ => rfl) (fun _ => rfl) rfl (of_decide_eq_true q59) (fun h58 => ?_)
  refine s_aload_n hG dX8_init_75 0 rfl rfl ?_
  refine s_ck (fun q60 => ?_)
  refine s_ck (fun q61 => ?_)
  refine b_new (ci := 2) hG hE hB dX8_init_76 (by decide) wd_143 wd_144 wd_89 q60 (of_decide_eq_true q61) ?_
  refine b_nh (fun h62 => ?_)
  refine s_dup hG dX8_init_79 rfl ?_
  refine s_ck (fun q63 => ?_)
  refine b_call hG hE hB dX8_init_80 hR (by decide) vi_X8_54 wd_146 rfl (Nat.le_of_ble_eq_true rfl) q63 (fun zn zh zq => c_X2_init w (xl x) (n54 + 1) (n54 + 1) h62 zn zh zq) (fun n64 h65 => ?_)
  refine s_ck (fun q66 => ?_)
  refine s_ck (fun q67 => ?_)
  refine s_ck (fun q69 => ?_)
  refine b_putR hG hE dX8_init_83 fl_X8_55 hN rfl q66 (of_decide_eq_true q67) rfl (fun _ => rfl) (fun _ => rfl) rfl (of_decide_eq_true q69) (fun h68 => ?_)
  refine s_aload_n hG dX8_init_86 0 rfl rfl ?_
  refine s_ck (fun q70 => ?_)
  refine s_ck (fun q71 => ?_)
  refine b_new (ci := 2) hG hE hB dX8_init_87 (by decide) wd_143 wd_144 wd_89 q70 (of_decide_eq_true q71) ?_
  refine b_nh (fun h72 => ?_)
  refine s_dup hG dX8_init_90 rfl ?_
  refine s_ck (fun q73 => ?_)
  refine b_call hG hE hB dX8_init_91 hR (by decide) vi_X8_54 wd_146 rfl (Nat.le_of_ble_eq_true rfl) q73 (fun zn zh zq => c_X2_init w (xl x) (n64 + 1) (n64 + 1) h72 zn zh zq) (fun n74 h75 => ?_)
  refine s_ck (fun q76 => ?_)
  refine s_ck (fun q77 => ?_)
  refine s_ck (fun q79 => ?_)
  refine b_putR hG hE dX8_init_94 fl_X8_59 hN rfl q76 (of_decide_eq_true q77) rfl (fun _ => rfl) (fun _ => rfl) rfl (of_decide_eq_true q79) (fun h78 => ?_)
  refine s_aload_n hG dX8_init_97 0 rfl rfl ?_
  refine s_ck (fun q80 => ?_)
  refine s_ck (fun q81 => ?_)
  refine b_new (ci := 1) hG hE hB dX8_init_98 (by decide) wd_304 wd_305 wd_92 q80 (of_decide_eq_true q81) ?_
  refine b_nh (fun h82 => ?_)
  refine s_dup hG dX8_init_101 rfl ?_
  refine s_ck (fun q83 => ?_)
  refine b_call hG hE hB dX8_init_102 hR (by decide) vi_X8_64 wd_307 rfl (Nat.le_of_ble_eq_true rfl) q83 (fun zn zh zq => c_X1_init w (xl x) (n74 + 1) (n74 + 1) h82 zn zh zq) (fun n84 h85 => ?_)
  refine s_ck (fun q86 => ?_)
  refine s_ck (fun q87 => ?_)
  refine s_ck (fun q89 => ?_)
  refine b_putR hG hE dX8_init_105 fl_X8_65 hN rfl q86 (of_decide_eq_true q87) rfl (fun _ => rfl) (fun _ => rfl) rfl (of_decide_eq_true q89) (fun h88 => ?_)
  refine s_iconst hG dX8_init_108 ic_0 ?_
  refine s_istore_n (lv' := [(1, .int 0), (0, .ref (gB (GC w) + a0))]) hG dX8_init_109 rfl (by decide) rfl ?_
  refine s_lv [1, 0] rfl ?_
  exact s_X8_init_L110 w hx hG hE hR hB hT hN FU a0 0 n84 89 1193 h88

theorem c_X8_init (w : WT) (l : Launch) (a0 n : Nat) (h : Hp) : ∀ n' h', m_X8_init a0 n h = some (n', h') → MetB l (GC w) yX8_init cX8_init 2 3 190 2930 a0 n h n' h' :=
  met_ofB (by decide) rfl (lokC w) (by decide) (fun x hx hG hE hR hB hT hN => s_X8_init w hx hG hE hR hB hT hN a0 n h)
theorem wd_1066 : Cond.methodLink RX9 1 Lib.objectInit ∈ GW := gw_at 1066 (by decide +kernel) (by decide +kernel)
theorem sc_600 : (Int16.ofInt 600).toInt32 = 600 := by decide
theorem wac_2 : Cond.arrayClass .boolean ∈ GW := gw_at 1197 (by decide +kernel) (by decide +kernel)
theorem sc_360 : (Int16.ofInt 360).toInt32 = 360 := by decide
def m_X9_init (a0 : Nat) (n : Nat) (h : Hp) : Option (Nat × Hp) := ck (lk (LM a0) 10 0 a0 n) (ck (decide (n ≤ 29)) (hb (si h a0 0 0) fun h3 => hb (si h3 a0 1 0) fun h4 => ck (rk (n + 1) 29 (1) 28 (8) 2140) (ck (decide (LM (n + 1) = (20, 8))) (hb (zr h4 (n + 1)) fun h7 => ck (lk (LM a0) 10 0 a0 (n + 1)) (ck (decide (n + 1 ≤ 29)) (ck (decide (n + 1 ≠ 0)) (hb (sr h7 a0 2 (n + 1)) fun h10 => ck (rk (n + 2) 29 (2) 28 (13) 2140) (ck (decide (LM (n + 2) = (20, 5))) (hb (zr h10 (n + 2)) fun h14 => ck (lk (LM a0) 10 0 a0 (n + 2)) (ck (decide (n + 2 ≤ 29)) (ck (decide (n + 2 ≠ 0)) (hb (sr h14 a0 3 (n + 2)) fun h17 => ck (rk (n + 3) 29 (3) 28 (18) 2140) (ck (decide (LM (n + 3) = (20, 5))) (hb (zr h17 (n + 3)) fun h21 => ck (lk (LM a0) 10 0 a0 (n + 3)) (ck (decide (n + 3 ≤ 29)) (ck (decide (n + 3 ≠ 0)) (hb (sr h21 a0 4 (n + 3)) fun h24 => ck (rk (n + 4) 29 (4) 28 (23) 2140) (ck (decide (LM (n + 4) = (20, 5))) (hb (zr h24 (n + 4)) fun h28 => ck (lk (LM a0) 10 0 a0 (n + 4)) (ck (decide (n + 4 ≤ 29)) (ck (decide (n + 4 ≠ 0)) (hb (sr h28 a0 5 (n + 4)) fun h31 => ck (rk (n + 5) 29 (5) 28 (263) 2140) (ck (decide (LM (n + 5) = (20, 240))) (hb (zr h31 (n + 5)) fun h35 => ck (lk (LM a0) 10 0 a0 (n + 5)) (ck (decide (n + 5 ≤ 29)) (ck (decide (n + 5 ≠ 0)) (hb (sr h35 a0 6 (n + 5)) fun h38 => hb (si h38 a0 7 0) fun h40 => hb (si h40 a0 8 0) fun h41 => hb (si h41 a0 9 0) fun h42 => ck (rk (n + 6) 29 (6) 28 (363) 2140) (ck (decide (LM (n + 6) = (20, 100))) (hb (zr h42 (n + 6)) fun h45 => ck (lk (LM a0) 10 0 a0 (n + 6)) (ck (decide (n + 6 ≤ 29)) (ck (decide (n + 6 ≠ 0)) (hb (sr h45 a0 10 (n + 6)) fun h48 => ck (rk (n + 7) 29 (7) 28 (369) 2140) (ck (decide (LM (n + 7) = (20, 6))) (hb (zr h48 (n + 7)) fun h52 => ck (lk (LM a0) 10 0 a0 (n + 7)) (ck (decide (n + 7 ≤ 29)) (ck (decide (n + 7 ≠ 0)) (hb (sr h52 a0 11 (n + 7)) fun h55 => ck (rk (n + 8) 29 (8) 28 (417) 2140) (ck (decide (LM (n + 8) = (20, 48))) (hb (zr h55 (n + 8)) fun h59 => ck (lk (LM a0) 10 0 a0 (n + 8)) (ck (decide (n + 8 ≤ 29)) (ck (decide (n + 8 ≠ 0)) (hb (sr h59 a0 12 (n + 8)) fun h62 => ck (rk (n + 9) 29 (9) 28 (465) 2140) (ck (decide (LM (n + 9) = (20, 48))) (hb (zr h62 (n + 9)) fun h66 => ck (lk (LM a0) 10 0 a0 (n + 9)) (ck (decide (n + 9 ≤ 29)) (ck (decide (n + 9 ≠ 0)) (hb (sr h66 a0 13 (n + 9)) fun h69 => ck (rk (n + 10) 29 (10) 28 (513) 2140) (ck (decide (LM (n + 10) = (20, 48))) (hb (zr h69 (n + 10)) fun h73 => ck (lk (LM a0) 10 0 a0 (n + 10)) (ck (decide (n + 10 ≤ 29)) (ck (decide (n + 10 ≠ 0)) (hb (sr h73 a0 14 (n + 10)) fun h76 => ck (rk (n + 11) 29 (11) 28 (561) 2140) (ck (decide (LM (n + 11) = (20, 48))) (hb (zr h76 (n + 11)) fun h80 => ck (lk (LM a0) 10 0 a0 (n + 11)) (ck (decide (n + 11 ≤ 29)) (ck (decide (n + 11 ≠ 0)) (hb (sr h80 a0 15 (n + 11)) fun h83 => ck (rk (n + 12) 29 (12) 28 (567) 2140) (ck (decide (LM (n + 12) = (20, 6))) (hb (zr h83 (n + 12)) fun h87 => ck (lk (LM a0) 10 0 a0 (n + 12)) (ck (decide (n + 12 ≤ 29)) (ck (decide (n + 12 ≠ 0)) (hb (sr h87 a0 16 (n + 12)) fun h90 => ck (rk (n + 13) 29 (13) 28 (573) 2140) (ck (decide (LM (n + 13) = (20, 6))) (hb (zr h90 (n + 13)) fun h94 => ck (lk (LM a0) 10 0 a0 (n + 13)) (ck (decide (n + 13 ≤ 29)) (ck (decide (n + 13 ≠ 0)) (hb (sr h94 a0 17 (n + 13)) fun h97 => ck (rk (n + 14) 29 (14) 28 (579) 2140) (ck (decide (LM (n + 14) = (20, 6))) (hb (zr h97 (n + 14)) fun h101 => ck (lk (LM a0) 10 0 a0 (n + 14)) (ck (decide (n + 14 ≤ 29)) (ck (decide (n + 14 ≠ 0)) (hb (sr h101 a0 18 (n + 14)) fun h104 => ck (rk (n + 15) 29 (15) 28 (585) 2140) (ck (decide (LM (n + 15) = (20, 6))) (hb (zr h104 (n + 15)) fun h108 => ck (lk (LM a0) 10 0 a0 (n + 15)) (ck (decide (n + 15 ≤ 29)) (ck (decide (n + 15 ≠ 0)) (hb (sr h108 a0 19 (n + 15)) fun h111 => ck (rk (n + 16) 29 (16) 28 (591) 2140) (ck (decide (LM (n + 16) = (20, 6))) (hb (zr h111 (n + 16)) fun h115 => ck (lk (LM a0) 10 0 a0 (n + 16)) (ck (decide (n + 16 ≤ 29)) (ck (decide (n + 16 ≠ 0)) (hb (sr h115 a0 20 (n + 16)) fun h118 => ck (rk (n + 17) 29 (17) 28 (1191) 2140) (ck (decide (LM (n + 17) = (20, 600))) (hb (zr h118 (n + 17)) fun h122 => ck (lk (LM a0) 10 0 a0 (n + 17)) (ck (decide (n + 17 ≤ 29)) (ck (decide (n + 17 ≠ 0)) (hb (sr h122 a0 21 (n + 17)) fun h125 => hb (si h125 a0 22 0) fun h127 => hb (si h127 a0 23 0) fun h128 => ck (rk (n + 18) 29 (18) 28 (1292) 2140) (ck (decide (LM (n + 18) = (20, 101))) (hb (zr h128 (n + 18)) fun h131 => ck (lk (LM a0) 10 0 a0 (n + 18)) (ck (decide (n + 18 ≤ 29)) (ck (decide (n + 18 ≠ 0)) (hb (sr h131 a0 24 (n + 18)) fun h134 => hb (si h134 a0 25 0) fun h136 => hb (si h136 a0 26 0) fun h137 => ck (rk (n + 19) 29 (19) 28 (1392) 2140) (ck (decide (LM (n + 19) = (22, 100))) (hb (zr h137 (n + 19)) fun h140 => ck (lk (LM a0) 10 0 a0 (n + 19)) (ck (decide (n + 19 ≤ 29)) (ck (decide (n + 19 ≠ 0)) (hb (sr h140 a0 27 (n + 19)) fun h143 => hb (si h143 a0 28 0) fun h145 => ck (rk (n + 20) 29 (20) 28 (1416) 2140) (ck (decide (LM (n + 20) = (20, 24))) (hb (zr h145 (n + 20)) fun h148 => ck (lk (LM a0) 10 0 a0 (n + 20)) (ck (decide (n + 20 ≤ 29)) (ck (decide (n + 20 ≠ 0)) (hb (sr h148 a0 29 (n + 20)) fun h151 => ck (rk (n + 21) 29 (21) 28 (1440) 2140) (ck (decide (LM (n + 21) = (20, 24))) (hb (zr h151 (n + 21)) fun h155 => ck (lk (LM a0) 10 0 a0 (n + 21)) (ck (decide (n + 21 ≤ 29)) (ck (decide (n + 21 ≠ 0)) (hb (sr h155 a0 30 (n + 21)) fun h158 => hb (si h158 a0 31 0) fun h160 => hb (si h160 a0 32 0) fun h161 => hb (sl h161 a0 33 0) fun h162 => ck (rk (n + 22) 29 (22) 28 (1680) 2140) (ck (decide (LM (n + 22) = (20, 240))) (hb (zr h162 (n + 22)) fun h165 => ck (lk (LM a0) 10 0 a0 (n + 22)) (ck (decide (n + 22 ≤ 29)) (ck (decide (n + 22 ≠ 0)) (hb (sr h165 a0 34 (n + 22)) fun h168 => ck (rk (n + 23) 29 (23) 28 (1688) 2140) (ck (decide (LM (n + 23) = (20, 8))) (hb (zr h168 (n + 23)) fun h172 => ck (lk (LM a0) 10 0 a0 (n + 23)) (ck (decide (n + 23 ≤ 29)) (ck (decide (n + 23 ≠ 0)) (hb (sr h172 a0 35 (n + 23)) fun h175 => hb (si h175 a0 36 (-1)) fun h177 => hb (si h177 a0 37 0) fun h178 => ck (rk (n + 24) 29 (24) 28 (1708) 2140) (ck (decide (LM (n + 24) = (20, 20))) (hb (zr h178 (n + 24)) fun h181 => ck (lk (LM a0) 10 0 a0 (n + 24)) (ck (decide (n + 24 ≤ 29)) (ck (decide (n + 24 ≠ 0)) (hb (sr h181 a0 38 (n + 24)) fun h184 => ck (rk (n + 25) 29 (25) 28 (1714) 2140) (ck (decide (LM (n + 25) = (20, 6))) (hb (zr h184 (n + 25)) fun h188 => ck (lk (LM (n + 25)) 20 6 (n + 25) (n + 25)) (ck (decide (n + 25 ≤ 29)) (hb (si h188 (n + 25) (0 : Int32).toNatClampNeg (-1)) fun h191 => hb (si h191 (n + 25) (1 : Int32).toNatClampNeg (-1)) fun h192 => hb (si h192 (n + 25) (2 : Int32).toNatClampNeg (-1)) fun h193 => hb (si h193 (n + 25) (3 : Int32).toNatClampNeg (-1)) fun h194 => hb (si h194 (n + 25) (4 : Int32).toNatClampNeg (-1)) fun h195 => hb (si h195 (n + 25) (5 : Int32).toNatClampNeg (-1)) fun h196 => ck (lk (LM a0) 10 0 a0 (n + 25)) (ck (decide (n + 25 ≠ 0)) (hb (sr h196 a0 39 (n + 25)) fun h198 => ck (rk (n + 26) 29 (26) 28 (1720) 2140) (ck (decide (LM (n + 26) = (20, 6))) (hb (zr h198 (n + 26)) fun h202 => ck (lk (LM a0) 10 0 a0 (n + 26)) (ck (decide (n + 26 ≤ 29)) (ck (decide (n + 26 ≠ 0)) (hb (sr h202 a0 40 (n + 26)) fun h205 => ck (rk (n + 27) 29 (27) 28 (2080) 2140) (ck (decide (LM (n + 27) = (21, 360))) (hb (zr h205 (n + 27)) fun h209 => ck (lk (LM a0) 10 0 a0 (n + 27)) (ck (decide (n + 27 ≤ 29)) (ck (decide (n + 27 ≠ 0)) (hb (sr h209 a0 41 (n + 27)) fun h212 => ck (rk (n + 28) 29 (28) 28 (2140) 2140) (ck (decide (LM (n + 28) = (21, 60))) (hb (zr h212 (n + 28)) fun h216 => ck (lk (LM a0) 10 0 a0 (n + 28)) (ck (decide (n + 28 ≤ 29)) (ck (decide (n + 28 ≠ 0)) (hb (sr h216 a0 42 (n + 28)) fun h219 => ck (rk 0 0 28 28 2140 2140) (some (n + 28, h219)))))))))))))))))))))))))))))))))))))))))))))))))))))))))))))))))))))))))))))))))))))))))))))))))))))))))))))))))))))))))))))))))))))))))))))))))
set_option maxRecDepth 20000 in
set_option maxHeartbeats 4000000 in
theorem s_X9_init (w : WT) {x : CT} {l : Launch} (hx : xl x = l) (hG : Gd x cX9_init 1 RX9) (hE : Ge x (GM w)) (hR : Rm x 1) (hB : Rb x 28 2140) (hT : Rt x none) (hN : (xt x).name = "<init>") (a0 : Nat) (n : Nat) (h : Hp) : Sn x 1 (gA (GM w)) (0, 0) (ζB x (GM w) 28 2140) (bW (GM w) n h) 0 [(0, .ref (gB (GM w) + a0))] [] (m_X9_init a0 n h) := by
  unfold m_X9_init
  refine s_aload_n hG dX9_init_0 0 rfl rfl ?_
  refine b_obj hG (Nat.le_trans (by decide) hR.1) (Nat.le_trans (by decide) hR.2) dX9_init_1 wd_1066 wd_111 wd_112 (Nat.le_of_ble_eq_true rfl) ?_
  refine s_aload_n hG dX9_init_4 0 rfl rfl ?_
  refine s_iconst hG dX9_init_5 ic_0 ?_
  refine s_ck (fun q1 => ?_)
  refine s_ck (fun q2 => ?_)
  refine b_putI hG hE dX9_init_6 fl_X9_7 hN rfl q1 (of_decide_eq_true q2) rfl rfl rfl rfl (fun h3 => ?_)
  refine s_aload_n hG dX9_init_9 0 rfl rfl ?_
  refine s_iconst hG dX9_init_10 ic_0 ?_
  refine b_putI hG hE dX9_init_11 fl_X9_13 hN rfl q1 (of_decide_eq_true q2) rfl rfl rfl rfl (fun h4 => ?_)
  refine s_aload_n hG dX9_init_14 0 rfl rfl ?_
  refine s_bipush hG dX9_init_15 bc_8 ?_
  refine s_ck (fun q5 => ?_)
  refine s_ck (fun q6 => ?_)
  refine b_newa (t := 0) (len := 8) hG hE hB dX9_init_17 wac_0 (by decide) rfl (by decide) (by decide) (Nat.le_of_ble_eq_true rfl) q5 (of_decide_eq_true q6) ?_
  refine b_nh (fun h7 => ?_)
  refine s_ck (fun q8 => ?_)
  refine s_ck (fun q9 => ?_)
  refine s_ck (fun q11 => ?_)
  refine b_putR hG hE dX9_init_19 fl_X9_16 hN rfl q8 (of_decide_eq_true q9) rfl (fun _ => rfl) (fun _ => rfl) rfl (of_decide_eq_true q11) (fun h10 => ?_)
  refine s_aload_n hG dX9_init_22 0 rfl rfl ?_
  refine s_iconst hG dX9_init_23 ic_5 ?_
  refine s_ck (fun q12 => ?_)
  refine s_ck (fun q13 => ?_)
  refine b_newa (t := 0) (len := 5) hG hE hB dX9_init_24 wac_0 (by decide) rfl (by decide) (by decide) (Nat.le_of_ble_eq_true rfl) q12 (of_decide_eq_true q13) ?_
  refine b_nh (fun h14 => ?_)
  refine s_ck (fun q15 => ?_)
  refine s_ck (fun q16 => ?_)
  refine s_ck (fun q18 => ?_)
  refine b_putR hG hE dX9_init_26 fl_X9_20 hN rfl q15 (of_decide_eq_true q16) rfl (fun _ => rfl) (fun _ => rfl) rfl (of_decide_eq_true q18) (fun h17 => ?_)
  refine s_aload_n hG dX9_init_29 0 rfl rfl ?_
  refine s_iconst hG dX9_init_30 ic_5 ?_
  refine s_ck (fun q19 => ?_)
  refine s_ck (fun q20 => ?_)
  refine b_newa (t := 0) (len := 5) hG hE hB dX9_init_31 wac_0 (by decide) rfl (by decide) (by decide) (Nat.le_of_ble_eq_true rfl) q19 (of_decide_eq_true q20) ?_
  refine b_nh (fun h21 => ?_)
  refine s_ck (fun q22 => ?_)
  refine s_ck (fun q23 => ?_)
  refine s_ck (fun q25 => ?_)
  refine b_putR hG hE dX9_init_33 fl_X9_23 hN rfl q22 (of_decide_eq_true q23) rfl (fun _ => rfl) (fun _ => rfl) rfl (of_decide_eq_true q25) (fun h24 => ?_)
  refine s_aload_n hG dX9_init_36 0 rfl rfl ?_
  refine s_iconst hG dX9_init_37 ic_5 ?_
  refine s_ck (fun q26 => ?_)
  refine s_ck (fun q27 => ?_)
  refine b_newa (t := 0) (len := 5) hG hE hB dX9_init_38 wac_0 (by decide) rfl (by decide) (by decide) (Nat.le_of_ble_eq_true rfl) q26 (of_decide_eq_true q27) ?_
  refine b_nh (fun h28 => ?_)
  refine s_ck (fun q29 => ?_)
  refine s_ck (fun q30 => ?_)
  refine s_ck (fun q32 => ?_)
  refine b_putR hG hE dX9_init_40 fl_X9_26 hN rfl q29 (of_decide_eq_true q30) rfl (fun _ => rfl) (fun _ => rfl) rfl (of_decide_eq_true q32) (fun h31 => ?_)
  refine s_aload_n hG dX9_init_43 0 rfl rfl ?_
  refine s_sipush hG dX9_init_44 sc_240 ?_
  refine s_ck (fun q33 => ?_)
  refine s_ck (fun q34 => ?_)
  refine b_newa (t := 0) (len := 240) hG hE hB dX9_init_47 wac_0 (by decide) rfl (by decide) (by decide) (Nat.le_of_ble_eq_true rfl) q33 (of_decide_eq_true q34) ?_
  refine b_nh (fun h35 => ?_)
  refine s_ck (fun q36 => ?_)
  refine s_ck (fun q37 => ?_)
  refine s_ck (fun q39 => ?_)
  refine b_putR hG hE dX9_init_49 fl_X9_29 hN rfl q36 (of_decide_eq_true q37) rfl (fun _ => rfl) (fun _ => rfl) rfl (of_decide_eq_true q39) (fun h38 => ?_)
  refine s_aload_n hG dX9_init_52 0 rfl rfl ?_
  refine s_iconst hG dX9_init_53 ic_0 ?_
  refine b_putI hG hE dX9_init_54 fl_X9_32 hN rfl q36 (of_decide_eq_true q37) rfl rfl rfl rfl (fun h40 => ?_)
  refine s_aload_n hG dX9_init_57 0 rfl rfl ?_
  refine s_iconst hG dX9_init_58 ic_0 ?_
  refine b_putI hG hE dX9_init_59 fl_X9_35 hN rfl q36 (of_decide_eq_true q37) rfl rfl rfl rfl (fun h41 => ?_)
  refine s_aload_n hG dX9_init_62 0 rfl rfl ?_
  refine s_iconst hG dX9_init_63 ic_0 ?_
  refine b_putI hG hE dX9_init_64 fl_X9_38 hN rfl q36 (of_decide_eq_true q37) rfl rfl rfl rfl (fun h42 => ?_)
  refine s_aload_n hG dX9_init_67 0 rfl rfl ?_
  refine s_bipush hG dX9_init_68 bc_100 ?_
  refine s_ck (fun q43 => ?_)
  refine s_ck (fun q44 => ?_)
  refine b_newa (t := 0) (len := 100) hG hE hB dX9_init_70 wac_0 (by decide) rfl (by decide) (by decide) (Nat.le_of_ble_eq_true rfl) q43 (of_decide_eq_true q44) ?_
  refine b_nh (fun h45 => ?_)
  refine s_ck (fun q46 => ?_)
  refine s_ck (fun q47 => ?_)
  refine s_ck (fun q49 => ?_)
  refine b_putR hG hE dX9_init_72 fl_X9_41 hN rfl q46 (of_decide_eq_true q47) rfl (fun _ => rfl) (fun _ => rfl) rfl (of_decide_eq_true q49) (fun h48 => ?_)
  refine s_aload_n hG dX9_init_75 0 rfl rfl ?_
  refine s_bipush hG dX9_init_76 bc_6 ?_
  refine s_ck (fun q50 => ?_)
  refine s_ck (fun q51 => ?_)
  refine b_newa (t := 0) (len := 6) hG hE hB dX9_init_78 wac_0 (by decide) rfl (by decide) (by decide) (Nat.le_of_ble_eq_true rfl) q50 (of_decide_eq_true q51) ?_
  refine b_nh (fun h52 => ?_)
  refine s_ck (fun q53 => ?_)
  refine s_ck (fun q54 => ?_)
  refine s_ck (fun q56 => ?_)
  refine b_putR hG hE dX9_init_80 fl_X9_44 hN rfl q53 (of_decide_eq_true q54) rfl (fun _ => rfl) (fun _ => rfl) rfl (of_decide_eq_true q56) (fun h55 => ?_)
  refine s_aload_n hG dX9_init_83 0 rfl rfl ?_
  refine s_bipush hG dX9_init_84 bc_48 ?_
  refine s_ck (fun q57 => ?_)
  refine s_ck (fun q58 => ?_)
  refine b_newa (t := 0) (len := 48) hG hE hB dX9_init_86 wac_0 (by decide) rfl (by decide) (by decide) (Nat.le_of_ble_eq_true rfl) q57 (of_decide_eq_true q58) ?_
  refine b_nh (fun h59 => ?_)
  refine s_ck (fun q60 => ?_)
  refine s_ck (fun q61 => ?_)
  refine s_ck (fun q63 => ?_)
  refine b_putR hG hE dX9_init_88 fl_X9_47 hN rfl q60 (of_decide_eq_true q61) rfl (fun _ => rfl) (fun _ => rfl) rfl (of_decide_eq_true q63) (fun h62 => ?_)
  refine s_aload_n hG dX9_init_91 0 rfl rfl ?_
  refine s_bipush hG dX9_init_92 bc_48 ?_
  refine s_ck (fun q64 => ?_)
  refine s_ck (fun q65 => ?_)
  refine b_newa (t := 0) (len := 48) hG hE hB dX9_init_94 wac_0 (by decide) rfl (by decide) (by decide) (Nat.le_of_ble_eq_true rfl) q64 (of_decide_eq_true q65) ?_
  refine b_nh (fun h66 => ?_)
  refine s_ck (fun q67 => ?_)
  refine s_ck (fun q68 => ?_)
  refine s_ck (fun q70 => ?_)
  refine b_putR hG hE dX9_init_96 fl_X9_50 hN rfl q67 (of_decide_eq_true q68) rfl (fun _ => rfl) (fun _ => rfl) rfl (of_decide_eq_true q70) (fun h69 => ?_)
  refine s_aload_n hG dX9_init_99 0 rfl rfl ?_
  refine s_bipush hG dX9_init_100 bc_48 ?_
  refine s_ck (fun q71 => ?_)
  refine s_ck (fun q72 => ?_)
  refine b_newa (t := 0) (len := 48) hG hE hB dX9_init_102 wac_0 (by decide) rfl (by decide) (by decide) (Nat.le_of_ble_eq_true rfl) q71 (of_decide_eq_true q72) ?_
  refine b_nh (fun h73 => ?_)
  refine s_ck (fun q74 => ?_)
  refine s_ck (fun q75 => ?_)
  refine s_ck (fun q77 => ?_)
  refine b_putR hG hE dX9_init_104 fl_X9_53 hN rfl q74 (of_decide_eq_true q75) rfl (fun _ => rfl) (fun _ => rfl) rfl (of_decide_eq_true q77) (fun h76 => ?_)
  refine s_aload_n hG dX9_init_107 0 rfl rfl ?_
  refine s_bipush hG dX9_init_108 bc_48 ?_
  refine s_ck (fun q78 => ?_)
  refine s_ck (fun q79 => ?_)
  refine b_newa (t := 0) (len := 48) hG hE hB dX9_init_110 wac_0 (by decide) rfl (by decide) (by decide) (Nat.le_of_ble_eq_true rfl) q78 (of_decide_eq_true q79) ?_
  refine b_nh (fun h80 => ?_)
  refine s_ck (fun q81 => ?_)
  refine s_ck (fun q82 => ?_)
  refine s_ck (fun q84 => ?_)
  refine b_putR hG hE dX9_init_112 fl_X9_56 hN rfl q81 (of_decide_eq_true q82) rfl (fun _ => rfl) (fun _ => rfl) rfl (of_decide_eq_true q84) (fun h83 => ?_)
  refine s_aload_n hG dX9_init_115 0 rfl rfl ?_
  refine s_bipush hG dX9_init_116 bc_6 ?_
  refine s_ck (fun q85 => ?_)
  refine s_ck (fun q86 => ?_)
  refine b_newa (t := 0) (len := 6) hG hE hB dX9_init_118 wac_0 (by decide) rfl (by decide) (by decide) (Nat.le_of_ble_eq_true rfl) q85 (of_decide_eq_true q86) ?_
  refine b_nh (fun h87 => ?_)
  refine s_ck (fun q88 => ?_)
  refine s_ck (fun q89 => ?_)
  refine s_ck (fun q91 => ?_)
  refine b_putR hG hE dX9_init_120 fl_X9_59 hN rfl q88 (of_decide_eq_true q89) rfl (fun _ => rfl) (fun _ => rfl) rfl (of_decide_eq_true q91) (fun h90 => ?_)
  refine s_aload_n hG dX9_init_123 0 rfl rfl ?_
  refine s_bipush hG dX9_init_124 bc_6 ?_
  refine s_ck (fun q92 => ?_)
  refine s_ck (fun q93 => ?_)
  refine b_newa (t := 0) (len := 6) hG hE hB dX9_init_126 wac_0 (by decide) rfl (by decide) (by decide) (Nat.le_of_ble_eq_true rfl) q92 (of_decide_eq_true q93) ?_
  refine b_nh (fun h94 => ?_)
  refine s_ck (fun q95 => ?_)
  refine s_ck (fun q96 => ?_)
  refine s_ck (fun q98 => ?_)
  refine b_putR hG hE dX9_init_128 fl_X9_62 hN rfl q95 (of_decide_eq_true q96) rfl (fun _ => rfl) (fun _ => rfl) rfl (of_decide_eq_true q98) (fun h97 => ?_)
  refine s_aload_n hG dX9_init_131 0 rfl rfl ?_
  refine s_bipush hG dX9_init_132 bc_6 ?_
  refine s_ck (fun q99 => ?_)
  refine s_ck (fun q100 => ?_)
  refine b_newa (t := 0) (len := 6) hG hE hB dX9_init_134 wac_0 (by decide) rfl (by decide) (by decide) (Nat.le_of_ble_eq_true rfl) q99 (of_decide_eq_true q100) ?_
  refine b_nh (fun h101 => ?_)
  refine s_ck (fun q102 => ?_)
  refine s_ck (fun q103 => ?_)
  refine s_ck (fun q105 => ?_)
  refine b_putR hG hE dX9_init_136 fl_X9_65 hN rfl q102 (of_decide_eq_true q103) rfl (fun _ => rfl) (fun _ => rfl) rfl (of_decide_eq_true q105) (fun h104 => ?_)
  refine s_aload_n hG dX9_init_139 0 rfl rfl ?_
  refine s_bipush hG dX9_init_140 bc_6 ?_
  refine s_ck (fun q106 => ?_)
  refine s_ck (fun q107 => ?_)
  refine b_newa (t := 0) (len := 6) hG hE hB dX9_init_142 wac_0 (by decide) rfl (by decide) (by decide) (Nat.le_of_ble_eq_true rfl) q106 (of_decide_eq_true q107) ?_
  refine b_nh (fun h108 => ?_)
  refine s_ck (fun q109 => ?_)
  refine s_ck (fun q110 => ?_)
  refine s_ck (fun q112 => ?_)
  refine b_putR hG hE dX9_init_144 fl_X9_68 hN rfl q109 (of_decide_eq_true q110) rfl (fun _ => rfl) (fun _ => rfl) rfl (of_decide_eq_true q112) (fun h111 => ?_)
  refine s_aload_n hG dX9_init_147 0 rfl rfl ?_
  refine s_bipush hG dX9_init_148 bc_6 ?_
  refine s_ck (fun q113 => ?_)
  refine s_ck (fun q114 => ?_)
  refine b_newa (t := 0) (len := 6) hG hE hB dX9_init_150 wac_0 (by decide) rfl (by decide) (by decide) (Nat.le_of_ble_eq_true rfl) q113 (of_decide_eq_true q114) ?_
  refine b_nh (fun h115 => ?_)
  refine s_ck (fun q116 => ?_)
  refine s_ck (fun q117 => ?_)
  refine s_ck (fun q119 => ?_)
  refine b_putR hG hE dX9_init_152 fl_X9_71 hN rfl q116 (of_decide_eq_true q117) rfl (fun _ => rfl) (fun _ => rfl) rfl (of_decide_eq_true q119) (fun h118 => ?_)
  refine s_aload_n hG dX9_init_155 0 rfl rfl ?_
  refine s_sipush hG dX9_init_156 sc_600 ?_
  refine s_ck (fun q120 => ?_)
  refine s_ck (fun q121 => ?_)
  refine b_newa (t := 0) (len := 600) hG hE hB dX9_init_159 wac_0 (by decide) rfl (by decide) (by decide) (Nat.le_of_ble_eq_true rfl) q120 (of_decide_eq_true q121) ?_
  refine b_nh (fun h122 => ?_)
  refine s_ck (fun q123 => ?_)
  refine s_ck (fun q124 => ?_)
  refine s_ck (fun q126 => ?_)
  refine b_putR hG hE dX9_init_161 fl_X9_74 hN rfl q123 (of_decide_eq_true q124) rfl (fun _ => rfl) (fun _ => rfl) rfl (of_decide_eq_true q126) (fun h125 => ?_)
  refine s_aload_n hG dX9_init_164 0 rfl rfl ?_
  refine s_iconst hG dX9_init_165 ic_0 ?_
  refine b_putI hG hE dX9_init_166 fl_X9_77 hN rfl q123 (of_decide_eq_true q124) rfl rfl rfl rfl (fun h127 => ?_)
  refine s_aload_n hG dX9_init_169 0 rfl rfl ?_
  refine s_iconst hG dX9_init_170 ic_0 ?_
  refine b_putI hG hE dX9_init_171 fl_X9_80 hN rfl q123 (of_decide_eq_true q124) rfl rfl rfl rfl (fun h128 => ?_)
  refine s_aload_n hG dX9_init_174 0 rfl rfl ?_
  refine s_bipush hG dX9_init_175 bc_101 ?_
  refine s_ck (fun q129 => ?_)
  refine s_ck (fun q130 => ?_)
  refine b_newa (t := 0) (len := 101) hG hE hB dX9_init_177 wac_0 (by decide) rfl (by decide) (by decide) (Nat.le_of_ble_eq_true rfl) q129 (of_decide_eq_true q130) ?_
  refine b_nh (fun h131 => ?_)
  refine s_ck (fun q132 => ?_)
  refine s_ck (fun q133 => ?_)
  refine s_ck (fun q135 => ?_)
  refine b_putR hG hE dX9_init_179 fl_X9_83 hN rfl q132 (of_decide_eq_true q133) rfl (fun _ => rfl) (fun _ => rfl) rfl (of_decide_eq_true q135) (fun h134 => ?_)
  refine s_aload_n hG dX9_init_182 0 rfl rfl ?_
  refine s_iconst hG dX9_init_183 ic_0 ?_
  refine b_putI hG hE dX9_init_184 fl_X9_86 hN rfl q132 (of_decide_eq_true q133) rfl rfl rfl rfl (fun h136 => ?_)
  refine s_aload_n hG dX9_init_187 0 rfl rfl ?_
  refine s_iconst hG dX9_init_188 ic_0 ?_
  refine b_putI hG hE dX9_init_189 fl_X9_89 hN rfl q132 (of_decide_eq_true q133) rfl rfl rfl rfl (fun h137 => ?_)
  refine s_aload_n hG dX9_init_192 0 rfl rfl ?_
  refine s_bipush hG dX9_init_193 bc_100 ?_
  refine s_ck (fun q138 => ?_)
  refine s_ck (fun q139 => ?_)
  refine b_newa (t := 2) (len := 100) hG hE hB dX9_init_195 wac_2 (by decide) rfl (by decide) (by decide) (Nat.le_of_ble_eq_true rfl) q138 (of_decide_eq_true q139) ?_
  refine b_nh (fun h140 => ?_)
  refine s_ck (fun q141 => ?_)
  refine s_ck (fun q142 => ?_)
  refine s_ck (fun q144 => ?_)
  refine b_putR hG hE dX9_init_197 fl_X9_92 hN rfl q141 (of_decide_eq_true q142) rfl (fun _ => rfl) (fun _ => rfl) rfl (of_decide_eq_true q144) (fun h143 => ?_)
  refine s_aload_n hG dX9_init_200 0 rfl rfl ?_
  refine s_iconst hG dX9_init_201 ic_0 ?_
  refine b_putI hG hE dX9_init_202 fl_X9_96 hN rfl q141 (of_decide_eq_true q142) rfl rfl (nar_b (by decide)).1 (nar_b (by decide)).2 (fun h145 => ?_)
  refine s_aload_n hG dX9_init_205 0 rfl rfl ?_
  refine s_bipush hG dX9_init_206 bc_24 ?_
  refine s_ck (fun q146 => ?_)
  refine s_ck (fun q147 => ?_)
  refine b_newa (t := 0) (len := 24) hG hE hB dX9_init_208 wac_0 (by decide) rfl (by decide) (by decide) (Nat.le_of_ble_eq_true rfl) q146 (of_decide_eq_true q147) ?_
  refine b_nh (fun h148 => ?_)
  refine s_ck (fun q149 => ?_)
  refine s_ck (fun q150 => ?_)
  refine s_ck (fun q152 => ?_)
  refine b_putR hG hE dX9_init_210 fl_X9_100 hN rfl q149 (of_decide_eq_true q150) rfl (fun _ => rfl) (fun _ => rfl) rfl (of_decide_eq_true q152) (fun h151 => ?_)
  refine s_aload_n hG dX9_init_213 0 rfl rfl ?_
  refine s_bipush hG dX9_init_214 bc_24 ?_
  refine s_ck (fun q153 => ?_)
  refine s_ck (fun q154 => ?_)
  refine b_newa (t := 0) (len := 24) hG hE hB dX9_init_216 wac_0 (by decide) rfl (by decide) (by decide) (Nat.le_of_ble_eq_true rfl) q153 (of_decide_eq_true q154) ?_
  refine b_nh (fun h155 => ?_)
  refine s_ck (fun q156 => ?_)
  refine s_ck (fun q157 => ?_)
  refine s_ck (fun q159 => ?_)
  refine b_putR hG hE dX9_init_218 fl_X9_103 hN rfl q156 (of_decide_eq_true q157) rfl (fun _ => rfl) (fun _ => rfl) rfl (of_decide_eq_true q159) (fun h158 => ?_)
  refine s_aload_n hG dX9_init_221 0 rfl rfl ?_
  refine s_iconst hG dX9_init_222 ic_0 ?_
  refine b_putI hG hE dX9_init_223 fl_X9_106 hN rfl q156 (of_decide_eq_true q157) rfl rfl rfl rfl (fun h160 => ?_)
  refine s_aload_n hG dX9_init_226 0 rfl rfl ?_
  refine s_iconst hG dX9_init_227 ic_0 ?_
  refine b_putI hG hE dX9_init_228 fl_X9_109 hN rfl q156 (of_decide_eq_true q157) rfl rfl rfl rfl (fun h161 => ?_)
  refine s_aload_n hG dX9_init_231 0 rfl rfl ?_
  refine s_lconst hG dX9_init_232 lc_0 ?_
  refine b_putL hG hE dX9_init_233 fl_X9_112 hN rfl q156 (of_decide_eq_true q157) rfl (fun h162 => ?_)
  refine s_aload_n hG dX9_init_236 0 rfl rfl ?_
  refine s_sipush hG dX9_init_237 sc_240 ?_
  refine s_ck (fun q163 => ?_)
  refine s_ck (fun q164 => ?_)
  refine b_newa (t := 0) (len := 240) hG hE hB dX9_init_240 wac_0 (by decide) rfl (by decide) (by decide) (Nat.le_of_ble_eq_true rfl) q163 (of_decide_eq_true q164) ?_
  refine b_nh (fun h165 => ?_)
  refine s_ck (fun q166 => ?_)
  refine s_ck (fun q167 => ?_)
  refine s_ck (fun q169 => ?_)
  refine b_putR hG hE dX9_init_242 fl_X9_116 hN rfl q166 (of_decide_eq_true q167) rfl (fun _ => rfl) (fun _ => rfl) rfl (of_decide_eq_true q169) (fun h168 => ?_)
  refine s_aload_n hG dX9_init_245 0 rfl rfl ?_
  refine s_bipush hG dX9_init_246 bc_8 ?_
  refine s_ck (fun q170 => ?_)
  refine s_ck (fun q171 => ?_)
  refine b_newa (t := 0) (len := 8) hG hE hB dX9_init_248 wac_0 (by decide) rfl (by decide) (by decide) (Nat.le_of_ble_eq_true rfl) q170 (of_decide_eq_true q171) ?_
  refine b_nh (fun h172 => ?_)
  refine s_ck (fun q173 => ?_)
  refine s_ck (fun q174 => ?_)
  refine s_ck (fun q176 => ?_)
  refine b_putR hG hE dX9_init_250 fl_X9_119 hN rfl q173 (of_decide_eq_true q174) rfl (fun _ => rfl) (fun _ => rfl) rfl (of_decide_eq_true q176) (fun h175 => ?_)
  refine s_aload_n hG dX9_init_253 0 rfl rfl ?_
  refine s_iconst hG dX9_init_254 ic_m1 ?_
  refine b_putI hG hE dX9_init_255 fl_X9_122 hN rfl q173 (of_decide_eq_true q174) rfl rfl rfl rfl (fun h177 => ?_)
  refine s_aload_n hG dX9_init_258 0 rfl rfl ?_
  refine s_iconst hG dX9_init_259 ic_0 ?_
  refine b_putI hG hE dX9_init_260 fl_X9_125 hN rfl q173 (of_decide_eq_true q174) rfl rfl rfl rfl (fun h178 => ?_)
  refine s_aload_n hG dX9_init_263 0 rfl rfl ?_
  refine s_bipush hG dX9_init_264 bc_20 ?_
  refine s_ck (fun q179 => ?_)
  refine s_ck (fun q180 => ?_)
  refine b_newa (t := 0) (len := 20) hG hE hB dX9_init_266 wac_0 (by decide) rfl (by decide) (by decide) (Nat.le_of_ble_eq_true rfl) q179 (of_decide_eq_true q180) ?_
  refine b_nh (fun h181 => ?_)
  refine s_ck (fun q182 => ?_)
  refine s_ck (fun q183 => ?_)
  refine s_ck (fun q185 => ?_)
  refine b_putR hG hE dX9_init_268 fl_X9_128 hN rfl q182 (of_decide_eq_true q183) rfl (fun _ => rfl) (fun _ => rfl) rfl (of_decide_eq_true q185) (fun h184 => ?_)
  refine s_aload_n hG dX9_init_271 0 rfl rfl ?_
  refine s_bipush hG dX9_init_272 bc_6 ?_
  refine s_ck (fun q186 => ?_)
  refine s_ck (fun q187 => ?_)
  refine b_newa (t := 0) (len := 6) hG hE hB dX9_init_274 wac_0 (by decide) rfl (by decide) (by decide) (Nat.le_of_ble_eq_true rfl) q186 (of_decide_eq_true q187) ?_
  refine b_nh (fun h188 => ?_)
  refine s_dup hG dX9_init_276 rfl ?_
  refine s_iconst hG dX9_init_277 ic_0 ?_
  refine s_iconst hG dX9_init_278 ic_m1 ?_
  refine s_ck (fun q189 => ?_)
  refine s_ck (fun q190 => ?_)
  refine b_iast hG hE dX9_init_279 (of_decide_eq_true q190) q189 (by decide) (fun h191 => ?_)
  refine s_dup hG dX9_init_280 rfl ?_
  refine s_iconst hG dX9_init_281 ic_1 ?_
  refine s_iconst hG dX9_init_282 ic_m1 ?_
  refine b_iast hG hE dX9_init_283 (of_decide_eq_true q190) q189 (by decide) (fun h192 => ?_)
  refine s_dup hG dX9_init_284 rfl ?_
  refine s_iconst hG dX9_init_285 ic_2 ?_
  refine s_iconst hG dX9_init_286 ic_m1 ?_
  refine b_iast hG hE dX9_init_287 (of_decide_eq_true q190) q189 (by decide) (fun h193 => ?_)
  refine s_dup hG dX9_init_288 rfl ?_
  refine s_iconst hG dX9_init_289 ic_3 ?_
  refine s_iconst hG dX9_init_290 ic_m1 ?_
  refine b_iast hG hE dX9_init_291 (of_decide_eq_true q190) q189 (by decide) (fun h194 => ?_)
  refine s_dup hG dX9_init_292 rfl ?_
  refine s_iconst hG dX9_init_293 ic_4 ?_
  refine s_iconst hG dX9_init_294 ic_m1 ?_
  refine b_iast hG hE dX9_init_295 (of_decide_eq_true q190) q189 (by decide) (fun h195 => ?_)
  refine s_dup hG dX9_init_296 rfl ?_
  refine s_iconst hG dX9_init_297 ic_5 ?_
  refine s_iconst hG dX9_init_298 ic_m1 ?_
  refine b_iast hG hE dX9_init_299 (of_decide_eq_true q190) q189 (by decide) (fun h196 => ?_)
  refine s_ck (fun q197 => ?_)
  refine s_ck (fun q199 => ?_)
  refine b_putR hG hE dX9_init_300 fl_X9_131 hN rfl q197 (of_decide_eq_true q190) rfl (fun _ => rfl) (fun _ => rfl) rfl (of_decide_eq_true q199) (fun h198 => ?_)
  refine s_aload_n hG dX9_init_303 0 rfl rfl ?_
  refine s_bipush hG dX9_init_304 bc_6 ?_
  refine s_ck (fun q200 => ?_)
  refine s_ck (fun q201 => ?_)
  refine b_newa (t := 0) (len := 6) hG hE hB dX9_init_306 wac_0 (by decide) rfl (by decide) (by decide) (Nat.le_of_ble_eq_true rfl) q200 (of_decide_eq_true q201) ?_
  refine b_nh (fun h202 => ?_)
  refine s_ck (fun q203 => ?_)
  refine s_ck (fun q204 => ?_)
  refine s_ck (fun q206 => ?_)
  refine b_putR hG hE dX9_init_308 fl_X9_134 hN rfl q203 (of_decide_eq_true q204) rfl (fun _ => rfl) (fun _ => rfl) rfl (of_decide_eq_true q206) (fun h205 => ?_)
  refine s_aload_n hG dX9_init_311 0 rfl rfl ?_
  refine s_sipush hG dX9_init_312 sc_360 ?_
  refine s_ck (fun q207 => ?_)
  refine s_ck (fun q208 => ?_)
  refine b_newa (t := 1) (len := 360) hG hE hB dX9_init_315 wac_1 (by decide) rfl (by decide) (by decide) (Nat.le_of_ble_eq_true rfl) q207 (of_decide_eq_true q208) ?_
  refine b_nh (fun h209 => ?_)
  refine s_ck (fun q210 => ?_)
  refine s_ck (fun q211 => ?_)
  refine s_ck (fun q213 => ?_)
  refine b_putR hG hE dX9_init_317 fl_X9_137 hN rfl q210 (of_decide_eq_true q211) rfl (fun _ => rfl) (fun _ => rfl) rfl (of_decide_eq_true q213) (fun h212 => ?_)
  refine s_aload_n hG dX9_init_320 0 rfl rfl ?_
  refine s_bipush hG dX9_init_321 bc_60 ?_
  refine s_ck (fun q214 => ?_)
  refine s_ck (fun q215 => ?_)
  refine b_newa (t := 1) (len := 60) hG hE hB dX9_init_323 wac_1 (by decide) rfl (by decide) (by decide) (Nat.le_of_ble_eq_true rfl) q214 (of_decide_eq_true q215) ?_
  refine b_nh (fun h216 => ?_)
  refine s_ck (fun q217 => ?_)
  refine s_ck (fun q218 => ?_)
  refine s_ck (fun q220 => ?_)
  refine b_putR hG hE dX9_init_325 fl_X9_141 hN rfl q217 (of_decide_eq_true q218) rfl (fun _ => rfl) (fun _ => rfl) rfl (of_decide_eq_true q220) (fun h219 => ?_)
  refine s_ck (fun q221 => ?_)
  exact b_vret hG hT (rk_of q221).2.1 (rk_of q221).2.2 dX9_init_328

theorem c_X9_init (w : WT) (l : Launch) (a0 n : Nat) (h : Hp) : ∀ n' h', m_X9_init a0 n h = some (n', h') → MetB l (GM w) yX9_init cX9_init 1 1 28 2140 a0 n h n' h' :=
  met_ofB (by decide) rfl (lokM w) (by decide) (fun x hx hG hE hR hB hT hN => s_X9_init w hx hG hE hR hB hT hN a0 n h)
