theorem env_start {s : State} {b : Nat} (hts : ∀ w ∈ lw_tbl, w.before #[Value.ref b] s = true) (hgv : (Jvm.Cond.and given_1 narrow_1).before #[Value.ref b] s = true) :
    ∃ (cy : Nat → ClassId) (Dv : va_G) (rest : (Nat → Nat) × ((Nat → Nat) × (Nat × (Nat × Option Nat)))), ∀ B : Nat, s.heap.size ≤ B + 1 → EnvG (GC (B, cy, Dv, rest)) s s.heap ∧ EnvG (GM (B, cy, Dv, rest)) s s.heap := by
  have hfl : ∀ c ∈ flT, c.before #[Value.ref b] s = true := flat_of_before _ hgv
  have hA : ∀ a : Nat, a < s.heap.size → ¬ (fun q : Nat => s.heap.size ≤ q) a := fun a h => Nat.not_le.mpr h
  have hgw : ∀ w ∈ GW, w.before #[Value.ref b] s = true := fun w hw => hts w (gw_good w hw).1
  -- classes
  have k1 : ∀ c : Nat, ∃ q : ClassId × (Nat → Nat), c < 10 → u_Kn s (cN c) (cT c) (cK c) q.1 q.2 := by
    intro c
    by_cases hc : c < 10
    · obtain ⟨cC, iS, h⟩ := u_known (C := cN c) (T := cT c) (N := cK c) (n := cK c) hgw (cw_in hc) (hts _ (tb_in c hc))
      exact ⟨(cC, iS), fun _ => h⟩
    · exact ⟨(0, fun _ => 0), fun h => absurd h hc⟩
  obtain ⟨kf, hkf⟩ := Classical.axiomOfChoice k1
  -- array classes
  have k2 : ∀ t : Nat, ∃ cA : ClassId, t < 8 → ArrOfT s cA (aty t) ∧ va_RA s cA (aty t) := by
    intro t
    by_cases ht : t < 3
    · obtain ⟨cA, kA, comp, h1, h2, h3⟩ := Cond.arrayClass_spec (hts _ (tb_ac t ht))
      refine ⟨cA, fun _ => ⟨?_, ?_⟩⟩
      · rcases (show t = 0 ∨ t = 1 ∨ t = 2 by omega) with rfl | rfl | rfl <;> exact fun n z => ⟨fun k h => (by cases h), kA, h2, comp, h3⟩
      · rcases (show t = 0 ∨ t = 1 ∨ t = 2 by omega) with rfl | rfl | rfl <;> exact h1
    · by_cases ht2 : t < 8
      · obtain ⟨comp, cA, kA, h1, -, h2, h3, h4⟩ := Cond.arrayOver_spec (hts _ (tb_ao (t - 3) (by omega)))
        have e : aty t = .object (cN (acl (t - 3))) := by
          obtain ⟨j, rfl⟩ : ∃ j, t = j + 3 := ⟨t - 3, by omega⟩
          rfl
        refine ⟨cA, fun _ => ?_⟩
        rw [e]
        exact ⟨fun n z => ⟨fun k h => (by cases h), kA, h2, comp, h3⟩, kA, comp, h2, h3, h1, h4⟩
      · exact ⟨0, fun h => absurd h ht2⟩
  obtain ⟨cy, hcy⟩ := Classical.axiomOfChoice k2
  -- strings
  obtain ⟨adK, adV, hS, hK⟩ := vk_Sof (N := 12) (tm := tmS) (len := sLen) (byt := sByt) (A := fun q : Nat => s.heap.size ≤ q) (s := s) (args := #[Value.ref b])
    (fun i hi => (show ∀ i, i < 12 → sLen.getD i 0 < 2 ^ 31 by decide) i hi) (fun i hi => hfl _ (fl_ex i hi)) (fun i hi => hfl _ (fl_co i hi)) (fun i hi => hfl _ (fl_ar i hi)) (fun i hi => hfl _ (fl_le i hi)) (fun i hi j hj => hfl _ (fl_el i hi j hj))
    (fun i j hi hj hij => (fl_ne i hi j hj hij).imp (hfl _) (hfl _)) hA
  obtain ⟨o1, o2, o3, o4, o5, o6⟩ := fl_one
  obtain ⟨p1, p2, p3, p4, p5, p6, p7, p8, p9⟩ := tb_one
  have z1 := va_Zof (A := fun q : Nat => s.heap.size ≤ q) (hts _ p1) (hts _ p2) (va_eqt (hfl _ o1)) hA
  have z2 := va_Zqof (A := fun q : Nat => s.heap.size ≤ q) (hts _ p3) (hts _ p4) (hfl _ o2) hA
  obtain ⟨tb, hb1, hb2⟩ := va_Tof (N := 21) (f := fun j => .int (bodT j)) (A := fun q : Nat => s.heap.size ≤ q) (by decide) (hfl _ o3) (va_eqt (hfl _ o4)) (fun j hj => va_eqt (hfl _ (fl_bd j hj))) hA
  obtain ⟨ta, ha1, ha2⟩ := va_Tof (N := 7) (f := fun j => .int (abvT j)) (A := fun q : Nat => s.heap.size ≤ q) (by decide) (hfl _ o5) (va_eqt (hfl _ o6)) (fun j hj => va_eqt (hfl _ (fl_ab j hj))) hA
  have z3 := va_Zof (A := fun q : Nat => s.heap.size ≤ q) (hts _ p5) (hts _ p6) hb1 hA
  have z4 := va_Zof (A := fun q : Nat => s.heap.size ≤ q) (hts _ p7) (hts _ p8) ha1 hA
  obtain ⟨tf, z5⟩ : ∃ tf : Option Nat, va_Z "jdk/internal/util/Preconditions" "SIOOBE_FORMATTER" "Ljava/util/function/BiFunction;" (va_rf tf) (fun q : Nat => s.heap.size ≤ q) s s.heap := by
    rcases z2 with h | ⟨t, h⟩
    · exact ⟨none, h⟩
    · exact ⟨some t, h⟩
  refine ⟨cy, (fun c => (kf c).1, fun c => (kf c).2), (adK, adV, tb, ta, tf), fun B hB => ?_⟩
  have key : ∀ g : GT, gB g = B → gcy g = cy → gD g = (fun c => (kf c).1, fun c => (kf c).2) → gK g = adK → gV g = adV → gTb g = tb → gTa g = ta → gTf g = tf → EnvG g s s.heap := by
    intro g e1 e2 e3 e4 e5 e6 e7 e8
    have hAB : ∀ q, gA g q → (fun q : Nat => s.heap.size ≤ q) q := fun q h => by
      have := h.1
      rw [e1] at this
      show s.heap.size ≤ q
      omega
    unfold EnvG
    rw [e3, e4, e5, e6, e7, e8]
    refine ⟨⟨fun c q hq => ?_, fun k q hq => ?_⟩, fun i hi => ?_, hS.narrow hAB, z1.narrow hAB, z3.narrow hAB, hb2.narrow hAB, z4.narrow hAB, ha2.narrow hAB, z5.narrow hAB, va_Nw.of rfl (hts _ p9), fun j hj => ?_⟩
    · have hc : c < 10 := (List.getElem?_eq_some_iff.mp hq).1
      rw [vw_at hc] at hq
      cases hq
      exact hkf c hc
    · have hk : k < 8 := by
        have := (List.getElem?_eq_some_iff.mp hq).1
        simpa [tys] using this
      rw [tys_at hk, e2] at hq
      cases hq
      exact hcy k hk
    · exact vk_R.of (hts _ (tb_str i hi)) (hK i hi)
    · have h := hts _ (tb_ao j hj)
      exact va_AO.of (A := #[Value.ref b]) h
  exact ⟨key _ rfl rfl rfl rfl rfl rfl rfl rfl, key _ rfl rfl rfl rfl rfl rfl rfl rfl⟩
