/-! ===== the law's prelude: the two systems are made ===== -/
section SPL
variable {ρ : Type} {x : CT} {nL : Nat} {ζ : ρ → State → Prop} {pc : Nat} {lv : List (Nat × Value)} {st : List Value} {E : Option ρ} {g : GT} {h : Hp} {c z : Nat} {A : Nat → Prop} {Pd : Heap → Prop} {own : String} {cc : ByteArray}
theorem l_new (hPd : ∀ H H1 : Heap, Pd H → (∀ q, q < H.size → H1[q]? = H[q]?) → Pd H1) (G : Gd x cc nL own) (hE : va_K (gD g) vwCl (tys g) (xs x)) {idx ci : Nat} (hroom : c + 1 ≤ (xR x).cells ∧ z + cK ci ≤ (xR x).slots) (hd : decode cc pc = .ok (.new idx, 3)) (hc : ci < 10) (w1 : Cond.classLink own idx (cN ci) ∈ GW) (w2 : Cond.instantiable (cN ci) (cK ci) ∈ GW) (w3 : Cond.initialized (cN ci) ∈ GW)
    (hL : gL g 1 = (ci + 1, 0))
    (kk : Sn x nL A (c + 1, z + cK ci) ζ (fun H => Pd H ∧ bW g 1 (zr h 1) H) (pc + 3) lv (.ref (gB g + 1) :: st) E) : Sn x nL A (c, z) ζ (fun H => Pd H ∧ H.size = gB g + 1) pc lv st E := by
  intro r hr H locs ls hW hS hl
  have hts := G.2.2.2.2.1
  have hKn := hE.1 ci _ (vw_at hc)
  have hW0 : bW g 0 h H := ⟨fun k q hk => by simp [wl] at hk, hW.2⟩
  refine W.newcK G.1 G.2.1 G.2.2.2.1 (hts _ w1) (hts _ w2) (hts _ w3) rfl hd hroom.1 hroom.2 hKn.2.1 hW.2 (fun H1 kC hkC e1 z1 o1 => ?_)
  have hcell : H1[gB g + (0 + 1)]? = some (blank ((gD g).1 ci) kC) := e1
  refine kk r hr H1 locs ls ⟨hPd H H1 hW.1 (fun q hq => o1 q (by rw [← hW.2]; exact hq)), b_push hW0 z1 o1 (e := .inr (ci, (List.range (cK ci)).map (fv (gB g) ci (zr h 1) 1))) (by rw [ent_obj hL hc]) ent_zr ⟨_, vw_at hc, (u_born (cY ci) hts (cw_in hc) hKn hkC hcell (cY_ok hc)).to (fun k hk => ?_)⟩⟩ (b_S hS hW.2 z1 o1) hl
  show defaultValue (cY ci k) = (List.getD _ k .null)
  rw [List.getD_eq_getElem?_getD, fl_get hk, dfv ci hc k hk]
  simp [fv, gi, gl, gr, zr, rv, ro, va_rf]
  generalize fty (cY ci k) = t
  rcases t with _ | _ | t <;> rfl
theorem l_init (hPd : ∀ H H1 : Heap, Pd H → (∀ q, q < H.size → ¬ gA g q → H1[q]? = H[q]?) → Pd H1) (hgA : ∀ q, gA g q → A q) (hA0 : ∀ q, A q → (xs x).heap.size ≤ q) (G : Gd x cc nL own) (hE : EnvG g (xs x) (xs x).heap) {n' idx d d' maxL mc ms : Nat} {h' : Hp} {y : MethodName} {cc' : ByteArray} (hroom : c + mc ≤ (xR x).cells ∧ z + ms ≤ (xR x).slots) (hd : decode cc pc = .ok (.invokespecial idx, 3)) (hR : Rm x d) (hdd : d' + 1 ≤ d)
    (hv : VCb own idx y cc' maxL none 0) (hi : Cond.instanceMethod y ∈ GW) (hy : y.name = "<init>") (hst : (st.map fun v => v.category).sum ≤ 8)
    (hM : MetB (xl x) g y cc' maxL d' mc ms 1 1 h n' h')
    (kk : Sn x nL A (c + mc, z + ms) ζ (fun H => Pd H ∧ bW g n' h' H) (pc + 3) lv st E) : Sn x nL A (c, z) ζ (fun H => Pd H ∧ bW g 1 h H) pc lv (.ref (gB g + 1) :: st) E := by
  intro r hr H locs ls hW hS hl
  have hts := G.2.2.2.2.1
  obtain ⟨h1, h2, h3, h4, h5⟩ := hv
  have hR' : Rm x (d' + 1) := hR.le hdd
  have cb0 : CallB (xR x) (xs x) (xa x) own idx y cc' maxL none (.code y cc' maxL none :: GW) (rmb d' mc ms) mc ms 0 := by
    refine ⟨rfl, rfl, hR'.1, ?_, ?_, List.mem_cons_self, hts _ h2, hts _ h3, ⟨h4.1, h4.2.1⟩, fun sig hs => ?_, hts _ h1⟩
    · have := hR'.2
      show 8 + (maxL + 11) + 64 * d' ≤ _
      omega
    · intro w hw a' U hWU
      have hw' : w ∈ GW := by
        rcases List.mem_cons.mp hw with rfl | hw
        · exact h2
        · exact hw
      exact word_at hWU (gw_goodW hw') (hts w hw')
    · have h6 := h4.2.2
      rw [hs] at h6
      exact (Option.some.inj h6).symm
  have hbl : FrameBlind (PcB g 1 1 h) := fun a' U gf mk q => ⟨q.1, q.2.1, EnvG.go (s := U) (U := U.calling gf mk a') q.2.2 (State.WarmedH.refl U) (fun _ _ _ => rfl)⟩
  have env : ∀ U : State, U.heap = H → (xs x).WarmedH U.vm → EnvG g U U.heap := by
    intro U hU hWU
    rw [hU]
    exact hE.go hWU (fun q h1 _ => hS.2.1 q h1 (fun h2 => Nat.not_lt.mpr (hA0 q h2) h1))
  have run := va_runI (b := gB g + 1) (As := []) (rest := st) (g := F0 (xm x) pc ls (.ref (gB g + 1) :: st)) (cells := c) (slots := z) (locs := locs) (H := H) (below := xb x) (meth := xt x) (e := xe x) ⟨G.1, G.2.1, G.2.2.1, G.2.2.2.1, hts⟩ hM ⟨cb0, hy, hts _ hi⟩ ⟨hbl, fun U hU hWU => ⟨rfl, by rw [hU]; exact hW.2, env U hU hWU⟩⟩ rfl rfl hl.1 rfl (lv_room hst) hd hroom
  intro T hT X
  obtain ⟨v, st₀, t, T', L, h0, X', hL, e1, e2, ⟨hv', hw, hz, hk'⟩, stp⟩ := run T hT X
  obtain rfl : v = none := Outcome.returned.inj hv'
  rw [h0] at hz hk'
  obtain ⟨t2, a1, b1⟩ := kk r hr T'.heap (locs ++ L) ls ⟨by rw [e1]; exact hPd H t.heap hW.1 hk', by rw [e1]; exact hw⟩ ⟨Nat.le_trans hS.1 (by rw [e1]; exact hz), fun q h1 h2 => by rw [e1, hk' q (Nat.lt_of_lt_of_le h1 hS.1) (fun z => h2 (hgA q z))]; exact hS.2.1 q h1 h2, fun q hq => by
      rcases List.mem_append.mp hq with h | h
      · exact hS.2.2 q h
      · exact hgA _ (hL q h)⟩ hl T' rfl X'
  exact ⟨t2, stp t2 a1, b1⟩
end SPL
theorem l_wd {ρ : Type} {x : CT} {nL : Nat} {A : Nat → Prop} {cs : Nat × Nat} {ζ : ρ → State → Prop} {W1 W2 : Heap → Prop} {pc : Nat} {lv : List (Nat × Value)} {st : List Value} {E : Option ρ} (h : ∀ H, W1 H → W2 H) (kk : Sn x nL A cs ζ W2 pc lv st E) : Sn x nL A cs ζ W1 pc lv st E := fun r hr H locs ls hW hS hl => kk r hr H locs ls (h H hW) hS hl
theorem initC : ∃ hC : Hp, m_X8_init 1 1 (zr h00 1) = some (191, hC) ∧ ckS hC SC 192 24 = true ∧ ckI hC iniI_C = true := by
  have h := iniC_ok
  cases hq : m_X8_init 1 1 (zr h00 1) with
  | none => rw [hq] at h; cases h
  | some q =>
    obtain ⟨n, hC⟩ := q
    rw [hq] at h
    simp only [Bool.and_eq_true, beq_iff_eq] at h
    obtain ⟨h1, h2, h3⟩ := h
    exact ⟨hC, by rw [h1], h2, h3⟩
theorem initM : ∃ hM : Hp, m_X9_init 1 1 (zr h00 1) = some (29, hM) ∧ ckS hM SM 30 43 = true ∧ ckI hM iniI_M = true := by
  have h := iniM_ok
  cases hq : m_X9_init 1 1 (zr h00 1) with
  | none => rw [hq] at h; cases h
  | some q =>
    obtain ⟨n, hM⟩ := q
    rw [hq] at h
    simp only [Bool.and_eq_true, beq_iff_eq] at h
    obtain ⟨h1, h2, h3⟩ := h
    exact ⟨hM, by rw [h1], h2, h3⟩
theorem ckS_of {h : Hp} {S : Nat → Nat → Option Nat} {N K : Nat} (hb : ∀ a k r, S a k = some r → a < N ∧ k < K) (hc : ckS h S N K = true) : ∀ a k r, S a k = some r → gr h a k = r := by
  intro a k r hr
  obtain ⟨ha, hk⟩ := hb a k r hr
  have h1 := List.all_eq_true.mp hc a (List.mem_range.mpr ha)
  have h2 := List.all_eq_true.mp h1 k (List.mem_range.mpr hk)
  rw [hr] at h2
  exact beq_iff_eq.mp h2
theorem tab_bound {T : List (List Nat)} {N K : Nat} (hN : T.length ≤ N) (hK : ∀ l ∈ T, l.length ≤ K) {a k : Nat} (h : (T.getD a []).getD k 0 ≠ 0) : a < N ∧ k < K := by
  have ha : a < T.length := by
    rcases Nat.lt_or_ge a T.length with q | q
    · exact q
    · rw [List.getD_eq_getElem?_getD (l := T), List.getElem?_eq_none q] at h
      exact absurd rfl h
  refine ⟨Nat.lt_of_lt_of_le ha hN, ?_⟩
  have hm : T.getD a [] ∈ T := by
    rw [List.getD_eq_getElem?_getD, List.getElem?_eq_getElem ha]
    exact List.getElem_mem ha
  have hk : k < (T.getD a []).length := by
    rcases Nat.lt_or_ge k (T.getD a []).length with q | q
    · exact q
    · rw [List.getD_eq_getElem?_getD (l := T.getD a []), List.getElem?_eq_none q] at h
      exact absurd rfl h
  exact Nat.lt_of_lt_of_le hk (hK _ hm)
theorem SC_bound : ∀ a k r, SC a k = some r → a < 192 ∧ k < 24 := by
  intro a k r hr
  refine tab_bound (T := sttC) (by decide +kernel) (by decide +kernel) (fun h0 => ?_)
  unfold SC at hr
  rw [if_pos h0] at hr
  cases hr
theorem SM_bound : ∀ a k r, SM a k = some r → a < 30 ∧ k < 43 := by
  intro a k r hr
  refine tab_bound (T := sttM) (by decide +kernel) (by decide +kernel) (fun h0 => ?_)
  unfold SM at hr
  rw [if_pos h0] at hr
  cases hr
set_option maxRecDepth 20000 in
set_option maxHeartbeats 4000000 in
theorem s_law (w w2 : WT) {x : CT} {ζ : Unit → State → Prop} {b L : Nat} {xv : Nat → Int32} (hw : gB (GM w2) = gB (GC w) + 191) (hG : Gd x code 4 RL) (hR : Rm x 200) (hL : Lx x w w2 b L xv) (hZ : Lz x ζ) {hC hM : Hp} (hC1 : m_X8_init 1 1 (zr h00 1) = some (191, hC)) (hC2 : StatOK (GC w) hC) (hM1 : m_X9_init 1 1 (zr h00 1) = some (29, hM)) (hM2 : StatOK (GM w2) hM) :
    Sn x 4 (lA x) (0, 0) ζ (fun H => H.size = (xs x).heap.size) 0 [(0, .ref b)] [] (m_law_L18 L xv FU 0 hC hM) := by
  have hB := hL.2.2.2.2.1
  have hcz := hL.2.2.2.2.2
  refine l_wd (W2 := fun H => True ∧ H.size = gB (GC w) + 1) (fun H h => ⟨trivial, by rw [h, hB]⟩) ?_
  refine l_new (g := GC w) (ci := 8) (h := h00) (Pd := fun _ => True) (fun _ _ h _ => h) hG hL.2.2.1.1 (by rw [hcz.1, hcz.2]; exact ⟨Nat.le_of_ble_eq_true rfl, Nat.le_of_ble_eq_true rfl⟩) dL_law_0 (by decide) wl_7 wi_8 wn_8 kC_1 ?_
  refine s_dup hG dL_law_3 rfl ?_
  refine l_init (g := GC w) (Pd := fun _ => True) (fun _ _ h _ => h) (fun q h => ?_) (fun q h => h) hG hL.2.2.1 (mc := 190) (ms := 2930) (by rw [hcz.1, hcz.2]; exact ⟨Nat.le_of_ble_eq_true rfl, Nat.le_of_ble_eq_true rfl⟩) dL_law_4 hR (by decide) vi_L_9 wm_8 rfl (Nat.le_of_ble_eq_true rfl) (c_X8_init w (xl x) 1 1 (zr h00 1) 191 hC hC1) ?_
  · have h5 := gA_C.mp h
    show (xs x).heap.size ≤ q
    omega
  refine s_astore_n (lv' := [(1, .ref (gB (GC w) + 1)), (0, .ref b)]) hG dL_law_7 rfl (by decide) rfl ?_
  refine l_wd (W2 := fun H => gW (GC w) hC H ∧ H.size = gB (GM w2) + 1) (fun H h => ⟨⟨hC2, h.2.1⟩, by rw [hw]; exact h.2.2⟩) ?_
  refine l_new (g := GM w2) (ci := 9) (h := h00) (Pd := gW (GC w) hC) (fun H H1 hP h => hP.kept (fun q h1 _ => h q h1)) hG hL.2.2.2.1.1 (by rw [hcz.1, hcz.2]; exact ⟨Nat.le_of_ble_eq_true rfl, Nat.le_of_ble_eq_true rfl⟩) dL_law_8 (by decide) wl_10 wi_9 wn_9 kM_1 ?_
  refine s_dup hG dL_law_11 rfl ?_
  refine l_init (g := GM w2) (Pd := gW (GC w) hC) (fun H H1 hP h => hP.kept (fun q h1 h2 => h q h1 (fun h3 => ?_))) (fun q h => ?_) (fun q h => h) hG hL.2.2.2.1 (mc := 28) (ms := 2140) (by rw [hcz.1, hcz.2]; exact ⟨Nat.le_of_ble_eq_true rfl, Nat.le_of_ble_eq_true rfl⟩) dL_law_12 hR (by decide) vi_L_12 wm_9 rfl (Nat.le_of_ble_eq_true rfl) (c_X9_init w2 (xl x) 1 1 (zr h00 1) 29 hM hM1) ?_
  · have h4 := gA_C.mp h2
    have h5 := gA_M.mp h3
    omega
  · have h5 := gA_M.mp h
    show (xs x).heap.size ≤ q
    omega
  refine s_astore_n (lv' := [(2, .ref (gB (GM w2) + 1)), (1, .ref (gB (GC w) + 1)), (0, .ref b)]) hG dL_law_15 rfl (by decide) rfl ?_
  refine s_iconst hG dL_law_16 ic_0 ?_
  refine s_istore_n (lv' := [(3, .int 0), (2, .ref (gB (GM w2) + 1)), (1, .ref (gB (GC w) + 1)), (0, .ref b)]) hG dL_law_17 rfl (by decide) rfl ?_
  refine l_wd (W2 := WW w w2 hC hM) (fun H h => ⟨h.1, hM2, h.2.1⟩) ?_
  refine s_lv [3, 2, 1, 0] rfl ?_
  exact s_law_L18 w w2 hw hG hR hL hZ FU 0 hC hM
