def f_X6_commonDivisor_L9 : Nat → Int64 → Int64 → Int32 → Option Int64
  | 0, _, _, _ => none
  | fu + 1, x4, x6, x8 => if (130 : Int32) ≤ x8 then (some x4) else (if x6 = (0 : Int64) then (some x4) else (if x6 = 0 then none else f_X6_commonDivisor_L9 fu x6 (x4 - x4 / x6 * x6) (x8 + (1 : Int32))))
def f_X6_commonDivisor (x0 : Int64) (x2 : Int64) : Option Int64 := (f_X6_commonDivisor_L9 200 x0 x2 (0 : Int32)).bind fun q1 => some q1
set_option maxHeartbeats 4000000 in
set_option maxRecDepth 100000 in
theorem g_X6_commonDivisor_L9 {k : KX} {cy : Nat → ClassId} (C : OK k cX6_commonDivisor 6 11 cy 0 0) : ∀ (fu : Nat) (x4 : Int64) (x6 : Int64) (x8 : Int32) (res : Int64), (f_X6_commonDivisor_L9 fu x4 x6 x8 = some res) → G k 11 45 [(4, .long res)] [] [] → G k 11 9 [(4, .long x4), (6, .long x6), (8, .int x8)] [] [] := by
  intro fu
  induction fu with
  | zero =>
    intro x4 x6 x8 res h hex
    rw [f_X6_commonDivisor_L9] at h
    cases h
  | succ fu ih =>
    intro x4 x6 x8 res h hex
    rw [f_X6_commonDivisor_L9] at h
    refine G_r C [(.iload 8, 2, 0, 0, .null), (.sipush 130, 3, 0, 0, .int (130 : Int32))] 14 [(4, .long x4), (6, .long x6), (8, .int x8)] [.int (130 : Int32), .int x8] [] (by decide +kernel) rfl rfl ?_
    refine G_icmp_ge C (off := 31) (tgt := 45) (by decide +kernel) rfl (fun c => ?_) (fun c => ?_)
    · rw [if_pos c] at h
      have h := Option.some.inj h
      subst h
      refine G_lv [0] (lv' := [(4, .long x4)]) rfl ?_
      exact hex
    · rw [if_neg c] at h
      refine G_r C [(.lload 6, 2, 0, 0, .null), (.lconst 0, 1, 0, 0, .long (0 : Int64))] 20 [(4, .long x4), (6, .long x6), (8, .int x8)] [.long (0 : Int64), .long x6] [] (by decide +kernel) rfl rfl ?_
      refine G_lcmp_eq C (off := 24) (tgt := 45) (by decide +kernel) (by decide +kernel) rfl (fun c => ?_) (fun c => ?_)
      · rw [if_pos c] at h
        have h := Option.some.inj h
        subst h
        refine G_lv [0] (lv' := [(4, .long x4)]) rfl ?_
        exact hex
      · rw [if_neg c] at h
        refine G_r C [(.lload 4, 2, 0, 0, .null), (.lload 6, 2, 0, 0, .null)] 28 [(4, .long x4), (6, .long x6), (8, .int x8)] [.long x6, .long x4] [] (by decide +kernel) rfl rfl ?_
        obtain ⟨cg, h⟩ := oob h
        refine G_lrem C (by decide +kernel) cg ?_
        refine G_r C [(.lstore 9, 2, 0, 0, .null), (.lload 6, 2, 0, 0, .null), (.lstore 4, 2, 0, 0, .null), (.lload 9, 2, 0, 0, .null), (.lstore 6, 2, 0, 0, .null), (.iinc 8 1, 3, 0, 0, .int (1 : Int32))] 42 [(8, .int (x8 + (1 : Int32))), (6, .long (x4 - x4 / x6 * x6)), (4, .long x6), (9, .long (x4 - x4 / x6 * x6))] [] [] (by decide +kernel) rfl rfl ?_
        refine G_goto C (off := -33) (tgt := 9) (by decide +kernel) rfl ?_
        refine G_lv [2, 1, 0] (lv' := [(4, .long x6), (6, .long (x4 - x4 / x6 * x6)), (8, .int (x8 + (1 : Int32)))]) rfl ?_
        exact ih x6 (x4 - x4 / x6 * x6) (x8 + (1 : Int32))  res h hex
set_option maxHeartbeats 4000000 in
set_option maxRecDepth 100000 in
theorem c_X6_commonDivisor (cy : Nat → ClassId)  (x0 : Int64) (x2 : Int64) (res : Int64) (h : f_X6_commonDivisor x0 x2 = some res) : MG cy yX6_commonDivisor cX6_commonDivisor 11 (some .long) 0 0 [.long x0, .long x2] [] (some (.long res)) [] := by
  refine MG_of (o := 6) (lv := [(0, .long x0), (2, .long x2)]) ⟨by decide +kernel, rfl⟩ (Nat.le_of_ble_eq_true rfl) rfl (fun k C hR => ?_)
  rw [f_X6_commonDivisor] at h
  refine G_r C [(.lload_n 0, 1, 0, 0, .null), (.lstore 4, 2, 0, 0, .null), (.lload_n 2, 1, 0, 0, .null), (.lstore 6, 2, 0, 0, .null), (.iconst 0, 1, 0, 0, .int (0 : Int32)), (.istore 8, 2, 0, 0, .null)] 9 [(8, .int (0 : Int32)), (6, .long x2), (4, .long x0), (0, .long x0), (2, .long x2)] [] [] (by decide +kernel) rfl rfl ?_
  obtain ⟨q1, hq1, h⟩ := obd h
  refine G_lv [2, 1, 0] (lv' := [(4, .long x0), (6, .long x2), (8, .int (0 : Int32))]) rfl ?_
  refine g_X6_commonDivisor_L9 C 200 x0 x2 (0 : Int32)  q1 hq1 ?_
  refine G_r C [(.lload 4, 2, 0, 0, .null)] 47 [(4, .long q1)] [.long q1] [] (by decide +kernel) rfl rfl ?_
  have h := Option.some.inj h
  subst h
  exact G_lret C hR (by decide +kernel)
def f_X6_part (x0 : Int64) (x2 : Int64) (x4 : Int32) : Option Int64 := (f_X6_commonDivisor (if 0 < x0 then x0 else -x0) (if 0 < x2 then x2 else -x2)).bind fun q1 => if q1 = (0 : Int64) then (some (0 : Int64)) else (if (0 : Int64) ≤ x2 then (if x4 = 0 then (if q1 = 0 then none else some (x0 / q1)) else (if q1 = 0 then none else some (x2 / q1))) else (if x4 = 0 then (if (-q1) = 0 then none else some (x0 / (-q1))) else (if (-q1) = 0 then none else some (x2 / (-q1)))))
set_option maxHeartbeats 4000000 in
set_option maxRecDepth 100000 in
theorem c_X6_part (cy : Nat → ClassId)  (x0 : Int64) (x2 : Int64) (x4 : Int32) (res : Int64) (h : f_X6_part x0 x2 x4 = some res) : MG cy yX6_part cX6_part 7 (some .long) 1 30 [.long x0, .long x2, .int x4] [] (some (.long res)) [] := by
  refine MG_of (o := 6) (lv := [(0, .long x0), (2, .long x2), (4, .int x4)]) ⟨by decide +kernel, rfl⟩ (Nat.le_of_ble_eq_true rfl) rfl (fun k C hR => ?_)
  rw [f_X6_part] at h
  refine G_r C [(.lload_n 0, 1, 0, 0, .null)] 1 [(0, .long x0), (2, .long x2), (4, .int x4)] [.long x0] [] (by decide +kernel) rfl rfl ?_
  refine G_mabs C lk_6_248.1 ⟨Nat.le_of_ble_eq_true rfl, Nat.le_of_ble_eq_true rfl⟩ (by decide +kernel) ?_
  refine G_r C [(.lload_n 2, 1, 0, 0, .null)] 5 [(0, .long x0), (2, .long x2), (4, .int x4)] [.long x2, .long (if 0 < x0 then x0 else -x0)] [] (by decide +kernel) rfl rfl ?_
  refine G_mabs C lk_6_248.1 ⟨Nat.le_of_ble_eq_true rfl, Nat.le_of_ble_eq_true rfl⟩ (by decide +kernel) ?_
  obtain ⟨q1, hq1, h⟩ := obd h
  refine G_cS C lk_6_254 ⟨Nat.le_of_ble_eq_true rfl, Nat.le_of_ble_eq_true rfl⟩ (by decide +kernel) [.long q1] (c_X6_commonDivisor cy (if 0 < x0 then x0 else -x0) (if 0 < x2 then x2 else -x2) q1 hq1) rfl rfl (Nat.le_of_ble_eq_true rfl) rfl ?_
  refine G_r C [(.lstore 5, 2, 0, 0, .null), (.lload 5, 2, 0, 0, .null), (.lconst 0, 1, 0, 0, .long (0 : Int64))] 16 [(5, .long q1), (0, .long x0), (2, .long x2), (4, .int x4)] [.long (0 : Int64), .long q1] [] (by decide +kernel) rfl rfl ?_
  refine G_lcmp_ne C (off := 5) (tgt := 22) (by decide +kernel) (by decide +kernel) rfl (fun c => ?_) (fun c => ?_)
  · rw [if_neg c] at h
    refine G_r C [(.lload_n 2, 1, 0, 0, .null), (.lconst 0, 1, 0, 0, .long (0 : Int64))] 24 [(5, .long q1), (0, .long x0), (2, .long x2), (4, .int x4)] [.long (0 : Int64), .long x2] [] (by decide +kernel) rfl rfl ?_
    refine G_lcmp_ge C (off := 8) (tgt := 33) (by decide +kernel) (by decide +kernel) rfl (fun c => ?_) (fun c => ?_)
    · rw [if_pos c] at h
      refine G_r C [(.iload 4, 2, 0, 0, .null)] 35 [(5, .long q1), (0, .long x0), (2, .long x2), (4, .int x4)] [.int x4] [] (by decide +kernel) rfl rfl ?_
      refine G_if_ne C (off := 7) (tgt := 42) (by decide +kernel) rfl (fun c => ?_) (fun c => ?_)
      · rw [if_neg c] at h
        refine G_r C [(.lload_n 2, 1, 0, 0, .null), (.lload 5, 2, 0, 0, .null)] 45 [(5, .long q1), (0, .long x0), (2, .long x2), (4, .int x4)] [.long q1, .long x2] [] (by decide +kernel) rfl rfl ?_
        obtain ⟨cg, h⟩ := oob h
        refine G_ldiv C (by decide +kernel) cg ?_
        have h := Option.some.inj h
        subst h
        exact G_lret C hR (by decide +kernel)
      · rw [if_pos c] at h
        refine G_r C [(.lload_n 0, 1, 0, 0, .null)] 39 [(5, .long q1), (0, .long x0), (2, .long x2), (4, .int x4)] [.long x0] [] (by decide +kernel) rfl rfl ?_
        refine G_goto C (off := 4) (tgt := 43) (by decide +kernel) rfl ?_
        refine G_r C [(.lload 5, 2, 0, 0, .null)] 45 [(5, .long q1), (0, .long x0), (2, .long x2), (4, .int x4)] [.long q1, .long x0] [] (by decide +kernel) rfl rfl ?_
        obtain ⟨cg, h⟩ := oob h
        refine G_ldiv C (by decide +kernel) cg ?_
        have h := Option.some.inj h
        subst h
        exact G_lret C hR (by decide +kernel)
    · rw [if_neg c] at h
      refine G_r C [(.lload 5, 2, 0, 0, .null), (.lneg, 1, 0, 0, .null), (.lstore 5, 2, 0, 0, .null), (.iload 4, 2, 0, 0, .null)] 35 [(5, .long (-q1)), (0, .long x0), (2, .long x2), (4, .int x4)] [.int x4] [] (by decide +kernel) rfl rfl ?_
      refine G_if_ne C (off := 7) (tgt := 42) (by decide +kernel) rfl (fun c => ?_) (fun c => ?_)
      · rw [if_neg c] at h
        refine G_r C [(.lload_n 2, 1, 0, 0, .null), (.lload 5, 2, 0, 0, .null)] 45 [(5, .long (-q1)), (0, .long x0), (2, .long x2), (4, .int x4)] [.long (-q1), .long x2] [] (by decide +kernel) rfl rfl ?_
        obtain ⟨cg, h⟩ := oob h
        refine G_ldiv C (by decide +kernel) cg ?_
        have h := Option.some.inj h
        subst h
        exact G_lret C hR (by decide +kernel)
      · rw [if_pos c] at h
        refine G_r C [(.lload_n 0, 1, 0, 0, .null)] 39 [(5, .long (-q1)), (0, .long x0), (2, .long x2), (4, .int x4)] [.long x0] [] (by decide +kernel) rfl rfl ?_
        refine G_goto C (off := 4) (tgt := 43) (by decide +kernel) rfl ?_
        refine G_r C [(.lload 5, 2, 0, 0, .null)] 45 [(5, .long (-q1)), (0, .long x0), (2, .long x2), (4, .int x4)] [.long (-q1), .long x0] [] (by decide +kernel) rfl rfl ?_
        obtain ⟨cg, h⟩ := oob h
        refine G_ldiv C (by decide +kernel) cg ?_
        have h := Option.some.inj h
        subst h
        exact G_lret C hR (by decide +kernel)
  · rw [if_pos c] at h
    refine G_r C [(.lconst 0, 1, 0, 0, .long (0 : Int64))] 21 [(5, .long q1), (0, .long x0), (2, .long x2), (4, .int x4)] [.long (0 : Int64)] [] (by decide +kernel) rfl rfl ?_
    have h := Option.some.inj h
    subst h
    exact G_lret C hR (by decide +kernel)
def f_X6_polynomial (x1 : Int32) (x2 : Int32) (x3 : Int32) (kb : Int32) (kn : Int32) (kf : Int32) (rK : Int32) (rf : Nat → Int32) (mc : Int32) (mm : Nat → Int64) : Option (Int64 × Int32 × Int32 × Int32 × Int32 × (Nat → Int64)) := (f_X6_isOutside x1 (0 : Int32) (3 : Int32)).bind fun q1 => if (bI q1) = 0 then ((f_X6_isOutside x2 (0 : Int32) x1).bind fun q3 => if (bI q3) = 0 then ((f_X6_isOutside x3 (0 : Int32) (1 : Int32)).bind fun q5 => if (bI q5) = 0 then ((f_X6_findPolynomial x1 rK rf mm).bind fun q6 => if (bI q6.1) = 0 then ((f_X6_refuse (-1000002 : Int32) kb kn kf).bind fun q10 => some (q10.1.toInt64, q10.2.1, q10.2.2.1, q10.2.2.2, q6.2.1, q6.2.2)) else ((f_X0_coefficient x1 x2 q6.2.2).bind fun q7 => (f_X0_det x1 q6.2.2).bind fun q8 => (f_X6_part q7 q8 x3).bind fun q9 => some (q9, kb, kn, kf, q6.2.1, q6.2.2))) else ((f_X6_refuse (-1000001 : Int32) kb kn kf).bind fun q11 => some (q11.1.toInt64, q11.2.1, q11.2.2.1, q11.2.2.2, mc, mm))) else ((f_X6_refuse (-1000001 : Int32) kb kn kf).bind fun q4 => some (q4.1.toInt64, q4.2.1, q4.2.2.1, q4.2.2.2, mc, mm))) else ((f_X6_refuse (-1000001 : Int32) kb kn kf).bind fun q2 => some (q2.1.toInt64, q2.2.1, q2.2.2.1, q2.2.2.2, mc, mm))
set_option maxHeartbeats 4000000 in
set_option maxRecDepth 100000 in
theorem c_X6_polynomial (cy : Nat → ClassId) (kb : Int32) (kn : Int32) (kf : Int32) (rK : Int32) (rf : Nat → Int32) (rg : Nat → Int64) (rpd : Int32) (rpn : Nat → Int64) (sK : Int32) (sf : Nat → Int32) (sg : Nat → Int64) (spd : Int32) (spn : Nat → Int64) (mc : Int32) (mm : Nat → Int64) (nc : Int32) (nm : Nat → Int64) (pd : Int32) (pn : Nat → Int64) (vo : Int32) (vd : Int32) (vs : Nat → Int32) (tl : Int32) (tb : Nat → Int32) (eo : Int32) (et : Int32) (ed : Int32) (em : Bool) (ef : Int32) (ez : Int32) (ek : Nat → Int32) (es : Nat → Int32) (en : Nat → Int32) (fi : Nat → Int32) (x1 : Int32) (x2 : Int32) (x3 : Int32) (res : (Int64 × Int32 × Int32 × Int32 × Int32 × (Nat → Int64))) (h : f_X6_polynomial x1 x2 x3 kb kn kf rK rf mc mm = some res) : MG cy yX6_polynomial cX6_polynomial 4 (some .long) 4 96 [.ref 0, .int x1, .int x2, .int x3] (wSR cy kb kn kf rK rf rg rpd rpn sK sf sg spd spn mc mm nc nm pd pn vo vd vs tl tb eo et ed em ef ez ek es en fi) (some (.long res.1)) (wSR cy res.2.1 res.2.2.1 res.2.2.2.1 rK rf rg rpd rpn sK sf sg spd spn res.2.2.2.2.1 res.2.2.2.2.2 nc nm pd pn vo vd vs tl tb eo et ed em ef ez ek es en fi) := by
  refine MG_of (o := 6) (lv := [(0, .ref 0), (1, .int x1), (2, .int x2), (3, .int x3)]) ⟨by decide +kernel, rfl⟩ (Nat.le_of_ble_eq_true rfl) rfl (fun k C hR => ?_)
  rw [f_X6_polynomial] at h
  refine G_r C [(.iload_n 1, 1, 0, 0, .null), (.iconst 0, 1, 0, 0, .int (0 : Int32)), (.iconst 3, 1, 0, 0, .int (3 : Int32))] 3 [(0, .ref 0), (1, .int x1), (2, .int x2), (3, .int x3)] [.int (3 : Int32), .int (0 : Int32), .int x1] (wSR cy kb kn kf rK rf rg rpd rpn sK sf sg spd spn mc mm nc nm pd pn vo vd vs tl tb eo et ed em ef ez ek es en fi) (by decide +kernel) rfl rfl ?_
  obtain ⟨q1, hq1, h⟩ := obd h
  refine G_cS C lk_6_101 ⟨Nat.le_of_ble_eq_true rfl, Nat.le_of_ble_eq_true rfl⟩ (by decide +kernel) [.int (bI q1)] (c_X6_isOutside cy x1 (0 : Int32) (3 : Int32) q1 hq1) rfl rfl (Nat.le_of_ble_eq_true rfl) rfl ?_
  refine G_if_ne C (off := 21) (tgt := 27) (by decide +kernel) rfl (fun c => ?_) (fun c => ?_)
  · rw [if_neg c] at h
    refine G_r C [(.aload_n 0, 1, 0, 0, .null)] 28 [(0, .ref 0), (1, .int x1), (2, .int x2), (3, .int x3)] [.ref 0] (wSR cy kb kn kf rK rf rg rpd rpn sK sf sg spd spn mc mm nc nm pd pn vo vd vs tl tb eo et ed em ef ez ek es en fi) (by decide +kernel) rfl rfl ?_
    refine G_ldc C co_6_105 (by decide +kernel) ?_
    obtain ⟨q2, hq2, h⟩ := obd h
    refine G_c0 C lk_6_73 ⟨Nat.le_of_ble_eq_true rfl, Nat.le_of_ble_eq_true rfl⟩ (by decide +kernel) [.int q2.1] (c_X6_refuse cy kb kn kf rK rf rg rpd rpn sK sf sg spd spn mc mm nc nm pd pn vo vd vs tl tb eo et ed em ef ez ek es en fi (-1000001 : Int32) q2 hq2) rfl rfl (Nat.le_of_ble_eq_true rfl) ⟨rfl, rfl⟩ rfl ?_
    refine G_r C [(.i2l, 1, 0, 0, .null)] 34 [(0, .ref 0), (1, .int x1), (2, .int x2), (3, .int x3)] [.long q2.1.toInt64] (wSR cy q2.2.1 q2.2.2.1 q2.2.2.2 rK rf rg rpd rpn sK sf sg spd spn mc mm nc nm pd pn vo vd vs tl tb eo et ed em ef ez ek es en fi) (by decide +kernel) rfl rfl ?_
    have h := Option.some.inj h
    subst h
    exact G_lret C hR (by decide +kernel)
  · rw [if_pos c] at h
    refine G_r C [(.iload_n 2, 1, 0, 0, .null), (.iconst 0, 1, 0, 0, .int (0 : Int32)), (.iload_n 1, 1, 0, 0, .null)] 12 [(0, .ref 0), (1, .int x1), (2, .int x2), (3, .int x3)] [.int x1, .int (0 : Int32), .int x2] (wSR cy kb kn kf rK rf rg rpd rpn sK sf sg spd spn mc mm nc nm pd pn vo vd vs tl tb eo et ed em ef ez ek es en fi) (by decide +kernel) rfl rfl ?_
    obtain ⟨q3, hq3, h⟩ := obd h
    refine G_cS C lk_6_101 ⟨Nat.le_of_ble_eq_true rfl, Nat.le_of_ble_eq_true rfl⟩ (by decide +kernel) [.int (bI q3)] (c_X6_isOutside cy x2 (0 : Int32) x1 q3 hq3) rfl rfl (Nat.le_of_ble_eq_true rfl) rfl ?_
    refine G_if_ne C (off := 12) (tgt := 27) (by decide +kernel) rfl (fun c => ?_) (fun c => ?_)
    · rw [if_neg c] at h
      refine G_r C [(.aload_n 0, 1, 0, 0, .null)] 28 [(0, .ref 0), (1, .int x1), (2, .int x2), (3, .int x3)] [.ref 0] (wSR cy kb kn kf rK rf rg rpd rpn sK sf sg spd spn mc mm nc nm pd pn vo vd vs tl tb eo et ed em ef ez ek es en fi) (by decide +kernel) rfl rfl ?_
      refine G_ldc C co_6_105 (by decide +kernel) ?_
      obtain ⟨q4, hq4, h⟩ := obd h
      refine G_c0 C lk_6_73 ⟨Nat.le_of_ble_eq_true rfl, Nat.le_of_ble_eq_true rfl⟩ (by decide +kernel) [.int q4.1] (c_X6_refuse cy kb kn kf rK rf rg rpd rpn sK sf sg spd spn mc mm nc nm pd pn vo vd vs tl tb eo et ed em ef ez ek es en fi (-1000001 : Int32) q4 hq4) rfl rfl (Nat.le_of_ble_eq_true rfl) ⟨rfl, rfl⟩ rfl ?_
      refine G_r C [(.i2l, 1, 0, 0, .null)] 34 [(0, .ref 0), (1, .int x1), (2, .int x2), (3, .int x3)] [.long q4.1.toInt64] (wSR cy q4.2.1 q4.2.2.1 q4.2.2.2 rK rf rg rpd rpn sK sf sg spd spn mc mm nc nm pd pn vo vd vs tl tb eo et ed em ef ez ek es en fi) (by decide +kernel) rfl rfl ?_
      have h := Option.some.inj h
      subst h
      exact G_lret C hR (by decide +kernel)
    · rw [if_pos c] at h
      refine G_r C [(.iload_n 3, 1, 0, 0, .null), (.iconst 0, 1, 0, 0, .int (0 : Int32)), (.iconst 1, 1, 0, 0, .int (1 : Int32))] 21 [(0, .ref 0), (1, .int x1), (2, .int x2), (3, .int x3)] [.int (1 : Int32), .int (0 : Int32), .int x3] (wSR cy kb kn kf rK rf rg rpd rpn sK sf sg spd spn mc mm nc nm pd pn vo vd vs tl tb eo et ed em ef ez ek es en fi) (by decide +kernel) rfl rfl ?_
      obtain ⟨q5, hq5, h⟩ := obd h
      refine G_cS C lk_6_101 ⟨Nat.le_of_ble_eq_true rfl, Nat.le_of_ble_eq_true rfl⟩ (by decide +kernel) [.int (bI q5)] (c_X6_isOutside cy x3 (0 : Int32) (1 : Int32) q5 hq5) rfl rfl (Nat.le_of_ble_eq_true rfl) rfl ?_
      refine G_if_eq C (off := 11) (tgt := 35) (by decide +kernel) rfl (fun c => ?_) (fun c => ?_)
      · rw [if_pos c] at h
        refine G_r C [(.aload_n 0, 1, 0, 0, .null), (.iload_n 1, 1, 0, 0, .null)] 37 [(0, .ref 0), (1, .int x1), (2, .int x2), (3, .int x3)] [.int x1, .ref 0] (wSR cy kb kn kf rK rf rg rpd rpn sK sf sg spd spn mc mm nc nm pd pn vo vd vs tl tb eo et ed em ef ez ek es en fi) (by decide +kernel) rfl rfl ?_
        obtain ⟨q6, hq6, h⟩ := obd h
        refine G_c0 C lk_6_119 ⟨Nat.le_of_ble_eq_true rfl, Nat.le_of_ble_eq_true rfl⟩ (by decide +kernel) [.int (bI q6.1)] (c_X6_findPolynomial cy kb kn kf rK rf rg rpd rpn sK sf sg spd spn mc mm nc nm pd pn vo vd vs tl tb eo et ed em ef ez ek es en fi x1 q6 hq6) rfl rfl (Nat.le_of_ble_eq_true rfl) ⟨rfl, rfl⟩ rfl ?_
        refine G_if_ne C (off := 11) (tgt := 51) (by decide +kernel) rfl (fun c => ?_) (fun c => ?_)
        · rw [if_neg c] at h
          refine G_r C [(.aload_n 0, 1, 0, 0, .null), (.getfield 22, 3, 6, 2, .null), (.iload_n 1, 1, 0, 0, .null), (.iload_n 2, 1, 0, 0, .null)] 57 [(0, .ref 0), (1, .int x1), (2, .int x2), (3, .int x3)] [.int x2, .int x1, .ref 11] (wSR cy kb kn kf rK rf rg rpd rpn sK sf sg spd spn q6.2.1 q6.2.2 nc nm pd pn vo vd vs tl tb eo et ed em ef ez ek es en fi) (by decide +kernel) rfl rfl ?_
          obtain ⟨q7, hq7, h⟩ := obd h
          refine G_cV C lk_6_123 ⟨Nat.le_of_ble_eq_true rfl, Nat.le_of_ble_eq_true rfl⟩ (by decide +kernel) [11, 12] [.long q7] (wSR cy kb kn kf rK rf rg rpd rpn sK sf sg spd spn q6.2.1 q6.2.2 nc nm pd pn vo vd vs tl tb eo et ed em ef ez ek es en fi) (c_X0_coefficient cy q6.2.1 q6.2.2 x1 x2 q7 hq7) rfl rfl (Nat.le_of_ble_eq_true rfl) rfl rfl ⟨rfl, rfl⟩ rfl rfl rfl ?_
          refine G_r C [(.aload_n 0, 1, 0, 0, .null), (.getfield 22, 3, 6, 2, .null), (.iload_n 1, 1, 0, 0, .null)] 65 [(0, .ref 0), (1, .int x1), (2, .int x2), (3, .int x3)] [.int x1, .ref 11, .long q7] (wSR cy kb kn kf rK rf rg rpd rpn sK sf sg spd spn q6.2.1 q6.2.2 nc nm pd pn vo vd vs tl tb eo et ed em ef ez ek es en fi) (by decide +kernel) rfl rfl ?_
          obtain ⟨q8, hq8, h⟩ := obd h
          refine G_cV C lk_6_115 ⟨Nat.le_of_ble_eq_true rfl, Nat.le_of_ble_eq_true rfl⟩ (by decide +kernel) [11, 12] [.long q8, .long q7] (wSR cy kb kn kf rK rf rg rpd rpn sK sf sg spd spn q6.2.1 q6.2.2 nc nm pd pn vo vd vs tl tb eo et ed em ef ez ek es en fi) (c_X0_det cy q6.2.1 q6.2.2 x1 q8 hq8) rfl rfl (Nat.le_of_ble_eq_true rfl) rfl rfl ⟨rfl, rfl⟩ rfl rfl rfl ?_
          refine G_r C [(.iload_n 3, 1, 0, 0, .null)] 69 [(0, .ref 0), (1, .int x1), (2, .int x2), (3, .int x3)] [.int x3, .long q8, .long q7] (wSR cy kb kn kf rK rf rg rpd rpn sK sf sg spd spn q6.2.1 q6.2.2 nc nm pd pn vo vd vs tl tb eo et ed em ef ez ek es en fi) (by decide +kernel) rfl rfl ?_
          obtain ⟨q9, hq9, h⟩ := obd h
          refine G_cS C lk_6_127 ⟨Nat.le_of_ble_eq_true rfl, Nat.le_of_ble_eq_true rfl⟩ (by decide +kernel) [.long q9] (c_X6_part cy q7 q8 x3 q9 hq9) rfl rfl (Nat.le_of_ble_eq_true rfl) rfl ?_
          have h := Option.some.inj h
          subst h
          exact G_lret C hR (by decide +kernel)
        · rw [if_pos c] at h
          refine G_r C [(.aload_n 0, 1, 0, 0, .null)] 44 [(0, .ref 0), (1, .int x1), (2, .int x2), (3, .int x3)] [.ref 0] (wSR cy kb kn kf rK rf rg rpd rpn sK sf sg spd spn q6.2.1 q6.2.2 nc nm pd pn vo vd vs tl tb eo et ed em ef ez ek es en fi) (by decide +kernel) rfl rfl ?_
          refine G_ldc C co_6_110 (by decide +kernel) ?_
          obtain ⟨q10, hq10, h⟩ := obd h
          refine G_c0 C lk_6_73 ⟨Nat.le_of_ble_eq_true rfl, Nat.le_of_ble_eq_true rfl⟩ (by decide +kernel) [.int q10.1] (c_X6_refuse cy kb kn kf rK rf rg rpd rpn sK sf sg spd spn q6.2.1 q6.2.2 nc nm pd pn vo vd vs tl tb eo et ed em ef ez ek es en fi (-1000002 : Int32) q10 hq10) rfl rfl (Nat.le_of_ble_eq_true rfl) ⟨rfl, rfl⟩ rfl ?_
          refine G_r C [(.i2l, 1, 0, 0, .null)] 50 [(0, .ref 0), (1, .int x1), (2, .int x2), (3, .int x3)] [.long q10.1.toInt64] (wSR cy q10.2.1 q10.2.2.1 q10.2.2.2 rK rf rg rpd rpn sK sf sg spd spn q6.2.1 q6.2.2 nc nm pd pn vo vd vs tl tb eo et ed em ef ez ek es en fi) (by decide +kernel) rfl rfl ?_
          have h := Option.some.inj h
          subst h
          exact G_lret C hR (by decide +kernel)
      · rw [if_neg c] at h
        refine G_r C [(.aload_n 0, 1, 0, 0, .null)] 28 [(0, .ref 0), (1, .int x1), (2, .int x2), (3, .int x3)] [.ref 0] (wSR cy kb kn kf rK rf rg rpd rpn sK sf sg spd spn mc mm nc nm pd pn vo vd vs tl tb eo et ed em ef ez ek es en fi) (by decide +kernel) rfl rfl ?_
        refine G_ldc C co_6_105 (by decide +kernel) ?_
        obtain ⟨q11, hq11, h⟩ := obd h
        refine G_c0 C lk_6_73 ⟨Nat.le_of_ble_eq_true rfl, Nat.le_of_ble_eq_true rfl⟩ (by decide +kernel) [.int q11.1] (c_X6_refuse cy kb kn kf rK rf rg rpd rpn sK sf sg spd spn mc mm nc nm pd pn vo vd vs tl tb eo et ed em ef ez ek es en fi (-1000001 : Int32) q11 hq11) rfl rfl (Nat.le_of_ble_eq_true rfl) ⟨rfl, rfl⟩ rfl ?_
        refine G_r C [(.i2l, 1, 0, 0, .null)] 34 [(0, .ref 0), (1, .int x1), (2, .int x2), (3, .int x3)] [.long q11.1.toInt64] (wSR cy q11.2.1 q11.2.2.1 q11.2.2.2 rK rf rg rpd rpn sK sf sg spd spn mc mm nc nm pd pn vo vd vs tl tb eo et ed em ef ez ek es en fi) (by decide +kernel) rfl rfl ?_
        have h := Option.some.inj h
        subst h
        exact G_lret C hR (by decide +kernel)
def f_X6_norm (x1 : Int32) (x2 : Int32) (kb : Int32) (kn : Int32) (kf : Int32) (rK : Int32) (rf : Nat → Int32) (mc : Int32) (mm : Nat → Int64) : Option (Int64 × Int32 × Int32 × Int32 × Int32 × (Nat → Int64)) := (f_X6_isOutside x1 (0 : Int32) (3 : Int32)).bind fun q1 => if (bI q1) = 0 then ((f_X6_isOutside x2 (0 : Int32) (1 : Int32)).bind fun q3 => if (bI q3) = 0 then ((f_X6_findPolynomial x1 rK rf mm).bind fun q4 => if (bI q4.1) = 0 then ((f_X6_refuse (-1000002 : Int32) kb kn kf).bind fun q5 => some (q5.1.toInt64, q5.2.1, q5.2.2.1, q5.2.2.2, q4.2.1, q4.2.2)) else ((f_X3_size rK).bind fun q6 => if ((2 : Int32) * x1) < q6 then ((f_X0_det (x1 + (1 : Int32)) q4.2.2).bind fun q7 => (f_X0_det x1 q4.2.2).bind fun q8 => (f_X6_part q7 q8 x2).bind fun q9 => some (q9, kb, kn, kf, q4.2.1, q4.2.2)) else ((f_X6_refuse (-1000002 : Int32) kb kn kf).bind fun q10 => some (q10.1.toInt64, q10.2.1, q10.2.2.1, q10.2.2.2, q4.2.1, q4.2.2)))) else ((f_X6_refuse (-1000001 : Int32) kb kn kf).bind fun q11 => some (q11.1.toInt64, q11.2.1, q11.2.2.1, q11.2.2.2, mc, mm))) else ((f_X6_refuse (-1000001 : Int32) kb kn kf).bind fun q2 => some (q2.1.toInt64, q2.2.1, q2.2.2.1, q2.2.2.2, mc, mm))
set_option maxHeartbeats 4000000 in
set_option maxRecDepth 100000 in
theorem c_X6_norm (cy : Nat → ClassId) (kb : Int32) (kn : Int32) (kf : Int32) (rK : Int32) (rf : Nat → Int32) (rg : Nat → Int64) (rpd : Int32) (rpn : Nat → Int64) (sK : Int32) (sf : Nat → Int32) (sg : Nat → Int64) (spd : Int32) (spn : Nat → Int64) (mc : Int32) (mm : Nat → Int64) (nc : Int32) (nm : Nat → Int64) (pd : Int32) (pn : Nat → Int64) (vo : Int32) (vd : Int32) (vs : Nat → Int32) (tl : Int32) (tb : Nat → Int32) (eo : Int32) (et : Int32) (ed : Int32) (em : Bool) (ef : Int32) (ez : Int32) (ek : Nat → Int32) (es : Nat → Int32) (en : Nat → Int32) (fi : Nat → Int32) (x1 : Int32) (x2 : Int32) (res : (Int64 × Int32 × Int32 × Int32 × Int32 × (Nat → Int64))) (h : f_X6_norm x1 x2 kb kn kf rK rf mc mm = some res) : MG cy yX6_norm cX6_norm 3 (some .long) 4 96 [.ref 0, .int x1, .int x2] (wSR cy kb kn kf rK rf rg rpd rpn sK sf sg spd spn mc mm nc nm pd pn vo vd vs tl tb eo et ed em ef ez ek es en fi) (some (.long res.1)) (wSR cy res.2.1 res.2.2.1 res.2.2.2.1 rK rf rg rpd rpn sK sf sg spd spn res.2.2.2.2.1 res.2.2.2.2.2 nc nm pd pn vo vd vs tl tb eo et ed em ef ez ek es en fi) := by
  refine MG_of (o := 6) (lv := [(0, .ref 0), (1, .int x1), (2, .int x2)]) ⟨by decide +kernel, rfl⟩ (Nat.le_of_ble_eq_true rfl) rfl (fun k C hR => ?_)
  rw [f_X6_norm] at h
  refine G_r C [(.iload_n 1, 1, 0, 0, .null), (.iconst 0, 1, 0, 0, .int (0 : Int32)), (.iconst 3, 1, 0, 0, .int (3 : Int32))] 3 [(0, .ref 0), (1, .int x1), (2, .int x2)] [.int (3 : Int32), .int (0 : Int32), .int x1] (wSR cy kb kn kf rK rf rg rpd rpn sK sf sg spd spn mc mm nc nm pd pn vo vd vs tl tb eo et ed em ef ez ek es en fi) (by decide +kernel) rfl rfl ?_
  obtain ⟨q1, hq1, h⟩ := obd h
  refine G_cS C lk_6_101 ⟨Nat.le_of_ble_eq_true rfl, Nat.le_of_ble_eq_true rfl⟩ (by decide +kernel) [.int (bI q1)] (c_X6_isOutside cy x1 (0 : Int32) (3 : Int32) q1 hq1) rfl rfl (Nat.le_of_ble_eq_true rfl) rfl ?_
  refine G_if_ne C (off := 12) (tgt := 18) (by decide +kernel) rfl (fun c => ?_) (fun c => ?_)
  · rw [if_neg c] at h
    refine G_r C [(.aload_n 0, 1, 0, 0, .null)] 19 [(0, .ref 0), (1, .int x1), (2, .int x2)] [.ref 0] (wSR cy kb kn kf rK rf rg rpd rpn sK sf sg spd spn mc mm nc nm pd pn vo vd vs tl tb eo et ed em ef ez ek es en fi) (by decide +kernel) rfl rfl ?_
    refine G_ldc C co_6_105 (by decide +kernel) ?_
    obtain ⟨q2, hq2, h⟩ := obd h
    refine G_c0 C lk_6_73 ⟨Nat.le_of_ble_eq_true rfl, Nat.le_of_ble_eq_true rfl⟩ (by decide +kernel) [.int q2.1] (c_X6_refuse cy kb kn kf rK rf rg rpd rpn sK sf sg spd spn mc mm nc nm pd pn vo vd vs tl tb eo et ed em ef ez ek es en fi (-1000001 : Int32) q2 hq2) rfl rfl (Nat.le_of_ble_eq_true rfl) ⟨rfl, rfl⟩ rfl ?_
    refine G_r C [(.i2l, 1, 0, 0, .null)] 25 [(0, .ref 0), (1, .int x1), (2, .int x2)] [.long q2.1.toInt64] (wSR cy q2.2.1 q2.2.2.1 q2.2.2.2 rK rf rg rpd rpn sK sf sg spd spn mc mm nc nm pd pn vo vd vs tl tb eo et ed em ef ez ek es en fi) (by decide +kernel) rfl rfl ?_
    have h := Option.some.inj h
    subst h
    exact G_lret C hR (by decide +kernel)
  · rw [if_pos c] at h
    refine G_r C [(.iload_n 2, 1, 0, 0, .null), (.iconst 0, 1, 0, 0, .int (0 : Int32)), (.iconst 1, 1, 0, 0, .int (1 : Int32))] 12 [(0, .ref 0), (1, .int x1), (2, .int x2)] [.int (1 : Int32), .int (0 : Int32), .int x2] (wSR cy kb kn kf rK rf rg rpd rpn sK sf sg spd spn mc mm nc nm pd pn vo vd vs tl tb eo et ed em ef ez ek es en fi) (by decide +kernel) rfl rfl ?_
    obtain ⟨q3, hq3, h⟩ := obd h
    refine G_cS C lk_6_101 ⟨Nat.le_of_ble_eq_true rfl, Nat.le_of_ble_eq_true rfl⟩ (by decide +kernel) [.int (bI q3)] (c_X6_isOutside cy x2 (0 : Int32) (1 : Int32) q3 hq3) rfl rfl (Nat.le_of_ble_eq_true rfl) rfl ?_
    refine G_if_eq C (off := 11) (tgt := 26) (by decide +kernel) rfl (fun c => ?_) (fun c => ?_)
    · rw [if_pos c] at h
      refine G_r C [(.aload_n 0, 1, 0, 0, .null), (.iload_n 1, 1, 0, 0, .null)] 28 [(0, .ref 0), (1, .int x1), (2, .int x2)] [.int x1, .ref 0] (wSR cy kb kn kf rK rf rg rpd rpn sK sf sg spd spn mc mm nc nm pd pn vo vd vs tl tb eo et ed em ef ez ek es en fi) (by decide +kernel) rfl rfl ?_
      obtain ⟨q4, hq4, h⟩ := obd h
      refine G_c0 C lk_6_119 ⟨Nat.le_of_ble_eq_true rfl, Nat.le_of_ble_eq_true rfl⟩ (by decide +kernel) [.int (bI q4.1)] (c_X6_findPolynomial cy kb kn kf rK rf rg rpd rpn sK sf sg spd spn mc mm nc nm pd pn vo vd vs tl tb eo et ed em ef ez ek es en fi x1 q4 hq4) rfl rfl (Nat.le_of_ble_eq_true rfl) ⟨rfl, rfl⟩ rfl ?_
      refine G_if_eq C (off := 16) (tgt := 47) (by decide +kernel) rfl (fun c => ?_) (fun c => ?_)
      · rw [if_pos c] at h
        refine G_r C [(.aload_n 0, 1, 0, 0, .null)] 48 [(0, .ref 0), (1, .int x1), (2, .int x2)] [.ref 0] (wSR cy kb kn kf rK rf rg rpd rpn sK sf sg spd spn q4.2.1 q4.2.2 nc nm pd pn vo vd vs tl tb eo et ed em ef ez ek es en fi) (by decide +kernel) rfl rfl ?_
        refine G_ldc C co_6_110 (by decide +kernel) ?_
        obtain ⟨q5, hq5, h⟩ := obd h
        refine G_c0 C lk_6_73 ⟨Nat.le_of_ble_eq_true rfl, Nat.le_of_ble_eq_true rfl⟩ (by decide +kernel) [.int q5.1] (c_X6_refuse cy kb kn kf rK rf rg rpd rpn sK sf sg spd spn q4.2.1 q4.2.2 nc nm pd pn vo vd vs tl tb eo et ed em ef ez ek es en fi (-1000002 : Int32) q5 hq5) rfl rfl (Nat.le_of_ble_eq_true rfl) ⟨rfl, rfl⟩ rfl ?_
        refine G_r C [(.i2l, 1, 0, 0, .null)] 54 [(0, .ref 0), (1, .int x1), (2, .int x2)] [.long q5.1.toInt64] (wSR cy q5.2.1 q5.2.2.1 q5.2.2.2 rK rf rg rpd rpn sK sf sg spd spn q4.2.1 q4.2.2 nc nm pd pn vo vd vs tl tb eo et ed em ef ez ek es en fi) (by decide +kernel) rfl rfl ?_
        have h := Option.some.inj h
        subst h
        exact G_lret C hR (by decide +kernel)
      · rw [if_neg c] at h
        refine G_r C [(.aload_n 0, 1, 0, 0, .null), (.getfield 12, 3, 6, 0, .null)] 38 [(0, .ref 0), (1, .int x1), (2, .int x2)] [.ref 1] (wSR cy kb kn kf rK rf rg rpd rpn sK sf sg spd spn q4.2.1 q4.2.2 nc nm pd pn vo vd vs tl tb eo et ed em ef ez ek es en fi) (by decide +kernel) rfl rfl ?_
        obtain ⟨q6, hq6, h⟩ := obd h
        refine G_cV C lk_6_82 ⟨Nat.le_of_ble_eq_true rfl, Nat.le_of_ble_eq_true rfl⟩ (by decide +kernel) [1, 2, 3, 4, 5] [.int q6] (wSR cy kb kn kf rK rf rg rpd rpn sK sf sg spd spn q4.2.1 q4.2.2 nc nm pd pn vo vd vs tl tb eo et ed em ef ez ek es en fi) (c_X3_size cy rK rf rg rpd rpn q6 hq6) rfl rfl (Nat.le_of_ble_eq_true rfl) rfl rfl ⟨rfl, rfl⟩ rfl rfl rfl ?_
        refine G_r C [(.iconst 2, 1, 0, 0, .int (2 : Int32)), (.iload_n 1, 1, 0, 0, .null), (.imul, 1, 0, 0, .null)] 44 [(0, .ref 0), (1, .int x1), (2, .int x2)] [.int ((2 : Int32) * x1), .int q6] (wSR cy kb kn kf rK rf rg rpd rpn sK sf sg spd spn q4.2.1 q4.2.2 nc nm pd pn vo vd vs tl tb eo et ed em ef ez ek es en fi) (by decide +kernel) rfl rfl ?_
        refine G_icmp_gt C (off := 11) (tgt := 55) (by decide +kernel) rfl (fun c => ?_) (fun c => ?_)
        · rw [if_pos c] at h
          refine G_r C [(.aload_n 0, 1, 0, 0, .null), (.getfield 22, 3, 6, 2, .null), (.iload_n 1, 1, 0, 0, .null), (.iconst 1, 1, 0, 0, .int (1 : Int32)), (.iadd, 1, 0, 0, .null)] 62 [(0, .ref 0), (1, .int x1), (2, .int x2)] [.int (x1 + (1 : Int32)), .ref 11] (wSR cy kb kn kf rK rf rg rpd rpn sK sf sg spd spn q4.2.1 q4.2.2 nc nm pd pn vo vd vs tl tb eo et ed em ef ez ek es en fi) (by decide +kernel) rfl rfl ?_
          obtain ⟨q7, hq7, h⟩ := obd h
          refine G_cV C lk_6_115 ⟨Nat.le_of_ble_eq_true rfl, Nat.le_of_ble_eq_true rfl⟩ (by decide +kernel) [11, 12] [.long q7] (wSR cy kb kn kf rK rf rg rpd rpn sK sf sg spd spn q4.2.1 q4.2.2 nc nm pd pn vo vd vs tl tb eo et ed em ef ez ek es en fi) (c_X0_det cy q4.2.1 q4.2.2 (x1 + (1 : Int32)) q7 hq7) rfl rfl (Nat.le_of_ble_eq_true rfl) rfl rfl ⟨rfl, rfl⟩ rfl rfl rfl ?_
          refine G_r C [(.aload_n 0, 1, 0, 0, .null), (.getfield 22, 3, 6, 2, .null), (.iload_n 1, 1, 0, 0, .null)] 70 [(0, .ref 0), (1, .int x1), (2, .int x2)] [.int x1, .ref 11, .long q7] (wSR cy kb kn kf rK rf rg rpd rpn sK sf sg spd spn q4.2.1 q4.2.2 nc nm pd pn vo vd vs tl tb eo et ed em ef ez ek es en fi) (by decide +kernel) rfl rfl ?_
          obtain ⟨q8, hq8, h⟩ := obd h
          refine G_cV C lk_6_115 ⟨Nat.le_of_ble_eq_true rfl, Nat.le_of_ble_eq_true rfl⟩ (by decide +kernel) [11, 12] [.long q8, .long q7] (wSR cy kb kn kf rK rf rg rpd rpn sK sf sg spd spn q4.2.1 q4.2.2 nc nm pd pn vo vd vs tl tb eo et ed em ef ez ek es en fi) (c_X0_det cy q4.2.1 q4.2.2 x1 q8 hq8) rfl rfl (Nat.le_of_ble_eq_true rfl) rfl rfl ⟨rfl, rfl⟩ rfl rfl rfl ?_
          refine G_r C [(.iload_n 2, 1, 0, 0, .null)] 74 [(0, .ref 0), (1, .int x1), (2, .int x2)] [.int x2, .long q8, .long q7] (wSR cy kb kn kf rK rf rg rpd rpn sK sf sg spd spn q4.2.1 q4.2.2 nc nm pd pn vo vd vs tl tb eo et ed em ef ez ek es en fi) (by decide +kernel) rfl rfl ?_
          obtain ⟨q9, hq9, h⟩ := obd h
          refine G_cS C lk_6_127 ⟨Nat.le_of_ble_eq_true rfl, Nat.le_of_ble_eq_true rfl⟩ (by decide +kernel) [.long q9] (c_X6_part cy q7 q8 x2 q9 hq9) rfl rfl (Nat.le_of_ble_eq_true rfl) rfl ?_
          have h := Option.some.inj h
          subst h
          exact G_lret C hR (by decide +kernel)
        · rw [if_neg c] at h
          refine G_r C [(.aload_n 0, 1, 0, 0, .null)] 48 [(0, .ref 0), (1, .int x1), (2, .int x2)] [.ref 0] (wSR cy kb kn kf rK rf rg rpd rpn sK sf sg spd spn q4.2.1 q4.2.2 nc nm pd pn vo vd vs tl tb eo et ed em ef ez ek es en fi) (by decide +kernel) rfl rfl ?_
          refine G_ldc C co_6_110 (by decide +kernel) ?_
          obtain ⟨q10, hq10, h⟩ := obd h
          refine G_c0 C lk_6_73 ⟨Nat.le_of_ble_eq_true rfl, Nat.le_of_ble_eq_true rfl⟩ (by decide +kernel) [.int q10.1] (c_X6_refuse cy kb kn kf rK rf rg rpd rpn sK sf sg spd spn q4.2.1 q4.2.2 nc nm pd pn vo vd vs tl tb eo et ed em ef ez ek es en fi (-1000002 : Int32) q10 hq10) rfl rfl (Nat.le_of_ble_eq_true rfl) ⟨rfl, rfl⟩ rfl ?_
          refine G_r C [(.i2l, 1, 0, 0, .null)] 54 [(0, .ref 0), (1, .int x1), (2, .int x2)] [.long q10.1.toInt64] (wSR cy q10.2.1 q10.2.2.1 q10.2.2.2 rK rf rg rpd rpn sK sf sg spd spn q4.2.1 q4.2.2 nc nm pd pn vo vd vs tl tb eo et ed em ef ez ek es en fi) (by decide +kernel) rfl rfl ?_
          have h := Option.some.inj h
          subst h
          exact G_lret C hR (by decide +kernel)
    · rw [if_neg c] at h
      refine G_r C [(.aload_n 0, 1, 0, 0, .null)] 19 [(0, .ref 0), (1, .int x1), (2, .int x2)] [.ref 0] (wSR cy kb kn kf rK rf rg rpd rpn sK sf sg spd spn mc mm nc nm pd pn vo vd vs tl tb eo et ed em ef ez ek es en fi) (by decide +kernel) rfl rfl ?_
      refine G_ldc C co_6_105 (by decide +kernel) ?_
      obtain ⟨q11, hq11, h⟩ := obd h
      refine G_c0 C lk_6_73 ⟨Nat.le_of_ble_eq_true rfl, Nat.le_of_ble_eq_true rfl⟩ (by decide +kernel) [.int q11.1] (c_X6_refuse cy kb kn kf rK rf rg rpd rpn sK sf sg spd spn mc mm nc nm pd pn vo vd vs tl tb eo et ed em ef ez ek es en fi (-1000001 : Int32) q11 hq11) rfl rfl (Nat.le_of_ble_eq_true rfl) ⟨rfl, rfl⟩ rfl ?_
      refine G_r C [(.i2l, 1, 0, 0, .null)] 25 [(0, .ref 0), (1, .int x1), (2, .int x2)] [.long q11.1.toInt64] (wSR cy q11.2.1 q11.2.2.1 q11.2.2.2 rK rf rg rpd rpn sK sf sg spd spn mc mm nc nm pd pn vo vd vs tl tb eo et ed em ef ez ek es en fi) (by decide +kernel) rfl rfl ?_
      have h := Option.some.inj h
      subst h
      exact G_lret C hR (by decide +kernel)
def f_X6_findRule (x1 : Int32) (rK : Int32) (rf : Nat → Int32) (mm : Nat → Int64) : Option (Bool × Int32 × (Nat → Int64)) := (f_X0_fill (0 : Int32) mm rK rf).bind fun q1 => if x1 = 0 then ((f_X0_hasPolynomial x1 q1.1 q1.2).bind fun q2 => if (bI q2) = 0 then (some (false, q1.1, q1.2)) else ((f_X0_hasPolynomial (x1 + (1 : Int32)) q1.1 q1.2).bind fun q3 => if (bI q3) = 0 then (some (false, q1.1, q1.2)) else (some (true, q1.1, q1.2)))) else ((f_X0_hasPolynomial (x1 - (1 : Int32)) q1.1 q1.2).bind fun q4 => if (bI q4) = 0 then (some (false, q1.1, q1.2)) else ((f_X0_hasPolynomial x1 q1.1 q1.2).bind fun q5 => if (bI q5) = 0 then (some (false, q1.1, q1.2)) else ((f_X0_hasPolynomial (x1 + (1 : Int32)) q1.1 q1.2).bind fun q6 => if (bI q6) = 0 then (some (false, q1.1, q1.2)) else (some (true, q1.1, q1.2)))))
set_option maxHeartbeats 4000000 in
set_option maxRecDepth 100000 in
theorem c_X6_findRule (cy : Nat → ClassId) (kb : Int32) (kn : Int32) (kf : Int32) (rK : Int32) (rf : Nat → Int32) (rg : Nat → Int64) (rpd : Int32) (rpn : Nat → Int64) (sK : Int32) (sf : Nat → Int32) (sg : Nat → Int64) (spd : Int32) (spn : Nat → Int64) (mc : Int32) (mm : Nat → Int64) (nc : Int32) (nm : Nat → Int64) (pd : Int32) (pn : Nat → Int64) (vo : Int32) (vd : Int32) (vs : Nat → Int32) (tl : Int32) (tb : Nat → Int32) (eo : Int32) (et : Int32) (ed : Int32) (em : Bool) (ef : Int32) (ez : Int32) (ek : Nat → Int32) (es : Nat → Int32) (en : Nat → Int32) (fi : Nat → Int32) (x1 : Int32) (res : (Bool × Int32 × (Nat → Int64))) (h : f_X6_findRule x1 rK rf mm = some res) : MG cy yX6_findRule cX6_findRule 2 (some .boolean) 3 75 [.ref 0, .int x1] (wSR cy kb kn kf rK rf rg rpd rpn sK sf sg spd spn mc mm nc nm pd pn vo vd vs tl tb eo et ed em ef ez ek es en fi) (some (.int (bI res.1))) (wSR cy kb kn kf rK rf rg rpd rpn sK sf sg spd spn res.2.1 res.2.2 nc nm pd pn vo vd vs tl tb eo et ed em ef ez ek es en fi) := by
  refine MG_of (o := 6) (lv := [(0, .ref 0), (1, .int x1)]) ⟨by decide +kernel, rfl⟩ (Nat.le_of_ble_eq_true rfl) rfl (fun k C hR => ?_)
  rw [f_X6_findRule] at h
  refine G_r C [(.aload_n 0, 1, 0, 0, .null), (.getfield 22, 3, 6, 2, .null), (.aload_n 0, 1, 0, 0, .null), (.getfield 12, 3, 6, 0, .null), (.iconst 0, 1, 0, 0, .int (0 : Int32))] 9 [(0, .ref 0), (1, .int x1)] [.int (0 : Int32), .ref 1, .ref 11] (wSR cy kb kn kf rK rf rg rpd rpn sK sf sg spd spn mc mm nc nm pd pn vo vd vs tl tb eo et ed em ef ez ek es en fi) (by decide +kernel) rfl rfl ?_
  obtain ⟨q1, hq1, h⟩ := obd h
  refine G_cV C lk_6_111 ⟨Nat.le_of_ble_eq_true rfl, Nat.le_of_ble_eq_true rfl⟩ (by decide +kernel) [11, 12, 1, 2, 3, 4, 5] [] (wSR cy kb kn kf rK rf rg rpd rpn sK sf sg spd spn q1.1 q1.2 nc nm pd pn vo vd vs tl tb eo et ed em ef ez ek es en fi) (c_X0_fill cy mc mm rK rf rg rpd rpn (0 : Int32) q1 hq1) rfl rfl (Nat.le_of_ble_eq_true rfl) rfl rfl ⟨rfl, rfl⟩ rfl rfl rfl ?_
  refine G_r C [(.iload_n 1, 1, 0, 0, .null)] 13 [(0, .ref 0), (1, .int x1)] [.int x1] (wSR cy kb kn kf rK rf rg rpd rpn sK sf sg spd spn q1.1 q1.2 nc nm pd pn vo vd vs tl tb eo et ed em ef ez ek es en fi) (by decide +kernel) rfl rfl ?_
  refine G_if_eq C (off := 16) (tgt := 29) (by decide +kernel) rfl (fun c => ?_) (fun c => ?_)
  · rw [if_pos c] at h
    refine G_r C [(.aload_n 0, 1, 0, 0, .null), (.getfield 22, 3, 6, 2, .null), (.iload_n 1, 1, 0, 0, .null)] 34 [(0, .ref 0), (1, .int x1)] [.int x1, .ref 11] (wSR cy kb kn kf rK rf rg rpd rpn sK sf sg spd spn q1.1 q1.2 nc nm pd pn vo vd vs tl tb eo et ed em ef ez ek es en fi) (by decide +kernel) rfl rfl ?_
    obtain ⟨q2, hq2, h⟩ := obd h
    refine G_cV C lk_6_216 ⟨Nat.le_of_ble_eq_true rfl, Nat.le_of_ble_eq_true rfl⟩ (by decide +kernel) [11, 12] [.int (bI q2)] (wSR cy kb kn kf rK rf rg rpd rpn sK sf sg spd spn q1.1 q1.2 nc nm pd pn vo vd vs tl tb eo et ed em ef ez ek es en fi) (c_X0_hasPolynomial cy q1.1 q1.2 x1 q2 hq2) rfl rfl (Nat.le_of_ble_eq_true rfl) rfl rfl ⟨rfl, rfl⟩ rfl rfl rfl ?_
    refine G_if_eq C (off := 20) (tgt := 57) (by decide +kernel) rfl (fun c => ?_) (fun c => ?_)
    · rw [if_pos c] at h
      refine G_r C [(.iconst 0, 1, 0, 0, .int (0 : Int32))] 58 [(0, .ref 0), (1, .int x1)] [.int (0 : Int32)] (wSR cy kb kn kf rK rf rg rpd rpn sK sf sg spd spn q1.1 q1.2 nc nm pd pn vo vd vs tl tb eo et ed em ef ez ek es en fi) (by decide +kernel) rfl rfl ?_
      have h := Option.some.inj h
      subst h
      exact G_zret C (v := false) hR (by decide +kernel)
    · rw [if_neg c] at h
      refine G_r C [(.aload_n 0, 1, 0, 0, .null), (.getfield 22, 3, 6, 2, .null), (.iload_n 1, 1, 0, 0, .null), (.iconst 1, 1, 0, 0, .int (1 : Int32)), (.iadd, 1, 0, 0, .null)] 47 [(0, .ref 0), (1, .int x1)] [.int (x1 + (1 : Int32)), .ref 11] (wSR cy kb kn kf rK rf rg rpd rpn sK sf sg spd spn q1.1 q1.2 nc nm pd pn vo vd vs tl tb eo et ed em ef ez ek es en fi) (by decide +kernel) rfl rfl ?_
      obtain ⟨q3, hq3, h⟩ := obd h
      refine G_cV C lk_6_216 ⟨Nat.le_of_ble_eq_true rfl, Nat.le_of_ble_eq_true rfl⟩ (by decide +kernel) [11, 12] [.int (bI q3)] (wSR cy kb kn kf rK rf rg rpd rpn sK sf sg spd spn q1.1 q1.2 nc nm pd pn vo vd vs tl tb eo et ed em ef ez ek es en fi) (c_X0_hasPolynomial cy q1.1 q1.2 (x1 + (1 : Int32)) q3 hq3) rfl rfl (Nat.le_of_ble_eq_true rfl) rfl rfl ⟨rfl, rfl⟩ rfl rfl rfl ?_
      refine G_if_eq C (off := 7) (tgt := 57) (by decide +kernel) rfl (fun c => ?_) (fun c => ?_)
      · rw [if_pos c] at h
        refine G_r C [(.iconst 0, 1, 0, 0, .int (0 : Int32))] 58 [(0, .ref 0), (1, .int x1)] [.int (0 : Int32)] (wSR cy kb kn kf rK rf rg rpd rpn sK sf sg spd spn q1.1 q1.2 nc nm pd pn vo vd vs tl tb eo et ed em ef ez ek es en fi) (by decide +kernel) rfl rfl ?_
        have h := Option.some.inj h
        subst h
        exact G_zret C (v := false) hR (by decide +kernel)
      · rw [if_neg c] at h
        refine G_r C [(.iconst 1, 1, 0, 0, .int (1 : Int32))] 54 [(0, .ref 0), (1, .int x1)] [.int (1 : Int32)] (wSR cy kb kn kf rK rf rg rpd rpn sK sf sg spd spn q1.1 q1.2 nc nm pd pn vo vd vs tl tb eo et ed em ef ez ek es en fi) (by decide +kernel) rfl rfl ?_
        refine G_goto C (off := 4) (tgt := 58) (by decide +kernel) rfl ?_
        have h := Option.some.inj h
        subst h
        exact G_zret C (v := true) hR (by decide +kernel)
  · rw [if_neg c] at h
    refine G_r C [(.aload_n 0, 1, 0, 0, .null), (.getfield 22, 3, 6, 2, .null), (.iload_n 1, 1, 0, 0, .null), (.iconst 1, 1, 0, 0, .int (1 : Int32)), (.isub, 1, 0, 0, .null)] 23 [(0, .ref 0), (1, .int x1)] [.int (x1 - (1 : Int32)), .ref 11] (wSR cy kb kn kf rK rf rg rpd rpn sK sf sg spd spn q1.1 q1.2 nc nm pd pn vo vd vs tl tb eo et ed em ef ez ek es en fi) (by decide +kernel) rfl rfl ?_
    obtain ⟨q4, hq4, h⟩ := obd h
    refine G_cV C lk_6_216 ⟨Nat.le_of_ble_eq_true rfl, Nat.le_of_ble_eq_true rfl⟩ (by decide +kernel) [11, 12] [.int (bI q4)] (wSR cy kb kn kf rK rf rg rpd rpn sK sf sg spd spn q1.1 q1.2 nc nm pd pn vo vd vs tl tb eo et ed em ef ez ek es en fi) (c_X0_hasPolynomial cy q1.1 q1.2 (x1 - (1 : Int32)) q4 hq4) rfl rfl (Nat.le_of_ble_eq_true rfl) rfl rfl ⟨rfl, rfl⟩ rfl rfl rfl ?_
    refine G_if_eq C (off := 31) (tgt := 57) (by decide +kernel) rfl (fun c => ?_) (fun c => ?_)
    · rw [if_pos c] at h
      refine G_r C [(.iconst 0, 1, 0, 0, .int (0 : Int32))] 58 [(0, .ref 0), (1, .int x1)] [.int (0 : Int32)] (wSR cy kb kn kf rK rf rg rpd rpn sK sf sg spd spn q1.1 q1.2 nc nm pd pn vo vd vs tl tb eo et ed em ef ez ek es en fi) (by decide +kernel) rfl rfl ?_
      have h := Option.some.inj h
      subst h
      exact G_zret C (v := false) hR (by decide +kernel)
    · rw [if_neg c] at h
      refine G_r C [(.aload_n 0, 1, 0, 0, .null), (.getfield 22, 3, 6, 2, .null), (.iload_n 1, 1, 0, 0, .null)] 34 [(0, .ref 0), (1, .int x1)] [.int x1, .ref 11] (wSR cy kb kn kf rK rf rg rpd rpn sK sf sg spd spn q1.1 q1.2 nc nm pd pn vo vd vs tl tb eo et ed em ef ez ek es en fi) (by decide +kernel) rfl rfl ?_
      obtain ⟨q5, hq5, h⟩ := obd h
      refine G_cV C lk_6_216 ⟨Nat.le_of_ble_eq_true rfl, Nat.le_of_ble_eq_true rfl⟩ (by decide +kernel) [11, 12] [.int (bI q5)] (wSR cy kb kn kf rK rf rg rpd rpn sK sf sg spd spn q1.1 q1.2 nc nm pd pn vo vd vs tl tb eo et ed em ef ez ek es en fi) (c_X0_hasPolynomial cy q1.1 q1.2 x1 q5 hq5) rfl rfl (Nat.le_of_ble_eq_true rfl) rfl rfl ⟨rfl, rfl⟩ rfl rfl rfl ?_
      refine G_if_eq C (off := 20) (tgt := 57) (by decide +kernel) rfl (fun c => ?_) (fun c => ?_)
      · rw [if_pos c] at h
        refine G_r C [(.iconst 0, 1, 0, 0, .int (0 : Int32))] 58 [(0, .ref 0), (1, .int x1)] [.int (0 : Int32)] (wSR cy kb kn kf rK rf rg rpd rpn sK sf sg spd spn q1.1 q1.2 nc nm pd pn vo vd vs tl tb eo et ed em ef ez ek es en fi) (by decide +kernel) rfl rfl ?_
        have h := Option.some.inj h
        subst h
        exact G_zret C (v := false) hR (by decide +kernel)
      · rw [if_neg c] at h
        refine G_r C [(.aload_n 0, 1, 0, 0, .null), (.getfield 22, 3, 6, 2, .null), (.iload_n 1, 1, 0, 0, .null), (.iconst 1, 1, 0, 0, .int (1 : Int32)), (.iadd, 1, 0, 0, .null)] 47 [(0, .ref 0), (1, .int x1)] [.int (x1 + (1 : Int32)), .ref 11] (wSR cy kb kn kf rK rf rg rpd rpn sK sf sg spd spn q1.1 q1.2 nc nm pd pn vo vd vs tl tb eo et ed em ef ez ek es en fi) (by decide +kernel) rfl rfl ?_
        obtain ⟨q6, hq6, h⟩ := obd h
        refine G_cV C lk_6_216 ⟨Nat.le_of_ble_eq_true rfl, Nat.le_of_ble_eq_true rfl⟩ (by decide +kernel) [11, 12] [.int (bI q6)] (wSR cy kb kn kf rK rf rg rpd rpn sK sf sg spd spn q1.1 q1.2 nc nm pd pn vo vd vs tl tb eo et ed em ef ez ek es en fi) (c_X0_hasPolynomial cy q1.1 q1.2 (x1 + (1 : Int32)) q6 hq6) rfl rfl (Nat.le_of_ble_eq_true rfl) rfl rfl ⟨rfl, rfl⟩ rfl rfl rfl ?_
        refine G_if_eq C (off := 7) (tgt := 57) (by decide +kernel) rfl (fun c => ?_) (fun c => ?_)
        · rw [if_pos c] at h
          refine G_r C [(.iconst 0, 1, 0, 0, .int (0 : Int32))] 58 [(0, .ref 0), (1, .int x1)] [.int (0 : Int32)] (wSR cy kb kn kf rK rf rg rpd rpn sK sf sg spd spn q1.1 q1.2 nc nm pd pn vo vd vs tl tb eo et ed em ef ez ek es en fi) (by decide +kernel) rfl rfl ?_
          have h := Option.some.inj h
          subst h
          exact G_zret C (v := false) hR (by decide +kernel)
        · rw [if_neg c] at h
          refine G_r C [(.iconst 1, 1, 0, 0, .int (1 : Int32))] 54 [(0, .ref 0), (1, .int x1)] [.int (1 : Int32)] (wSR cy kb kn kf rK rf rg rpd rpn sK sf sg spd spn q1.1 q1.2 nc nm pd pn vo vd vs tl tb eo et ed em ef ez ek es en fi) (by decide +kernel) rfl rfl ?_
          refine G_goto C (off := 4) (tgt := 58) (by decide +kernel) rfl ?_
          have h := Option.some.inj h
          subst h
          exact G_zret C (v := true) hR (by decide +kernel)
def f_X6_rule (x1 : Int32) (x2 : Int32) (x3 : Int32) (kb : Int32) (kn : Int32) (kf : Int32) (rK : Int32) (rf : Nat → Int32) (mc : Int32) (mm : Nat → Int64) : Option (Int64 × Int32 × Int32 × Int32 × Int32 × (Nat → Int64)) := (f_X6_isOutside x1 (0 : Int32) (1 : Int32)).bind fun q1 => if (bI q1) = 0 then ((f_X6_isOutside x2 x1 (2 : Int32)).bind fun q3 => if (bI q3) = 0 then ((f_X6_isOutside x3 (0 : Int32) (1 : Int32)).bind fun q5 => if (bI q5) = 0 then ((f_X6_findRule x2 rK rf mm).bind fun q6 => if (bI q6.1) = 0 then ((f_X6_refuse (-1000002 : Int32) kb kn kf).bind fun q14 => some (q14.1.toInt64, q14.2.1, q14.2.2.1, q14.2.2.2, q6.2.1, q6.2.2)) else ((f_X0_det x2 q6.2.2).bind fun q7 => (f_X0_det (x2 + (1 : Int32)) q6.2.2).bind fun q8 => if x1 = 0 then ((f_X0_coefficient x2 (x2 - (1 : Int32)) q6.2.2).bind fun q11 => (f_X0_coefficient (x2 + (1 : Int32)) x2 q6.2.2).bind fun q12 => (f_X6_part ((q11 * q8) - (q12 * q7)) (q7 * q8) x3).bind fun q13 => some (q13, kb, kn, kf, q6.2.1, q6.2.2)) else ((f_X0_det (x2 - (1 : Int32)) q6.2.2).bind fun q9 => (f_X6_part (q8 * q9) (q7 * q7) x3).bind fun q10 => some (q10, kb, kn, kf, q6.2.1, q6.2.2)))) else ((f_X6_refuse (-1000001 : Int32) kb kn kf).bind fun q15 => some (q15.1.toInt64, q15.2.1, q15.2.2.1, q15.2.2.2, mc, mm))) else ((f_X6_refuse (-1000001 : Int32) kb kn kf).bind fun q4 => some (q4.1.toInt64, q4.2.1, q4.2.2.1, q4.2.2.2, mc, mm))) else ((f_X6_refuse (-1000001 : Int32) kb kn kf).bind fun q2 => some (q2.1.toInt64, q2.2.1, q2.2.2.1, q2.2.2.2, mc, mm))
set_option maxHeartbeats 4000000 in
set_option maxRecDepth 100000 in
theorem c_X6_rule (cy : Nat → ClassId) (kb : Int32) (kn : Int32) (kf : Int32) (rK : Int32) (rf : Nat → Int32) (rg : Nat → Int64) (rpd : Int32) (rpn : Nat → Int64) (sK : Int32) (sf : Nat → Int32) (sg : Nat → Int64) (spd : Int32) (spn : Nat → Int64) (mc : Int32) (mm : Nat → Int64) (nc : Int32) (nm : Nat → Int64) (pd : Int32) (pn : Nat → Int64) (vo : Int32) (vd : Int32) (vs : Nat → Int32) (tl : Int32) (tb : Nat → Int32) (eo : Int32) (et : Int32) (ed : Int32) (em : Bool) (ef : Int32) (ez : Int32) (ek : Nat → Int32) (es : Nat → Int32) (en : Nat → Int32) (fi : Nat → Int32) (x1 : Int32) (x2 : Int32) (x3 : Int32) (res : (Int64 × Int32 × Int32 × Int32 × Int32 × (Nat → Int64))) (h : f_X6_rule x1 x2 x3 kb kn kf rK rf mc mm = some res) : MG cy yX6_rule cX6_rule 10 (some .long) 4 96 [.ref 0, .int x1, .int x2, .int x3] (wSR cy kb kn kf rK rf rg rpd rpn sK sf sg spd spn mc mm nc nm pd pn vo vd vs tl tb eo et ed em ef ez ek es en fi) (some (.long res.1)) (wSR cy res.2.1 res.2.2.1 res.2.2.2.1 rK rf rg rpd rpn sK sf sg spd spn res.2.2.2.2.1 res.2.2.2.2.2 nc nm pd pn vo vd vs tl tb eo et ed em ef ez ek es en fi) := by
  refine MG_of (o := 6) (lv := [(0, .ref 0), (1, .int x1), (2, .int x2), (3, .int x3)]) ⟨by decide +kernel, rfl⟩ (Nat.le_of_ble_eq_true rfl) rfl (fun k C hR => ?_)
  rw [f_X6_rule] at h
  refine G_r C [(.iload_n 1, 1, 0, 0, .null), (.iconst 0, 1, 0, 0, .int (0 : Int32)), (.iconst 1, 1, 0, 0, .int (1 : Int32))] 3 [(0, .ref 0), (1, .int x1), (2, .int x2), (3, .int x3)] [.int (1 : Int32), .int (0 : Int32), .int x1] (wSR cy kb kn kf rK rf rg rpd rpn sK sf sg spd spn mc mm nc nm pd pn vo vd vs tl tb eo et ed em ef ez ek es en fi) (by decide +kernel) rfl rfl ?_
  obtain ⟨q1, hq1, h⟩ := obd h
  refine G_cS C lk_6_101 ⟨Nat.le_of_ble_eq_true rfl, Nat.le_of_ble_eq_true rfl⟩ (by decide +kernel) [.int (bI q1)] (c_X6_isOutside cy x1 (0 : Int32) (1 : Int32) q1 hq1) rfl rfl (Nat.le_of_ble_eq_true rfl) rfl ?_
  refine G_if_ne C (off := 21) (tgt := 27) (by decide +kernel) rfl (fun c => ?_) (fun c => ?_)
  · rw [if_neg c] at h
    refine G_r C [(.aload_n 0, 1, 0, 0, .null)] 28 [(0, .ref 0), (1, .int x1), (2, .int x2), (3, .int x3)] [.ref 0] (wSR cy kb kn kf rK rf rg rpd rpn sK sf sg spd spn mc mm nc nm pd pn vo vd vs tl tb eo et ed em ef ez ek es en fi) (by decide +kernel) rfl rfl ?_
    refine G_ldc C co_6_105 (by decide +kernel) ?_
    obtain ⟨q2, hq2, h⟩ := obd h
    refine G_c0 C lk_6_73 ⟨Nat.le_of_ble_eq_true rfl, Nat.le_of_ble_eq_true rfl⟩ (by decide +kernel) [.int q2.1] (c_X6_refuse cy kb kn kf rK rf rg rpd rpn sK sf sg spd spn mc mm nc nm pd pn vo vd vs tl tb eo et ed em ef ez ek es en fi (-1000001 : Int32) q2 hq2) rfl rfl (Nat.le_of_ble_eq_true rfl) ⟨rfl, rfl⟩ rfl ?_
    refine G_r C [(.i2l, 1, 0, 0, .null)] 34 [(0, .ref 0), (1, .int x1), (2, .int x2), (3, .int x3)] [.long q2.1.toInt64] (wSR cy q2.2.1 q2.2.2.1 q2.2.2.2 rK rf rg rpd rpn sK sf sg spd spn mc mm nc nm pd pn vo vd vs tl tb eo et ed em ef ez ek es en fi) (by decide +kernel) rfl rfl ?_
    have h := Option.some.inj h
    subst h
    exact G_lret C hR (by decide +kernel)
  · rw [if_pos c] at h
    refine G_r C [(.iload_n 2, 1, 0, 0, .null), (.iload_n 1, 1, 0, 0, .null), (.iconst 2, 1, 0, 0, .int (2 : Int32))] 12 [(0, .ref 0), (1, .int x1), (2, .int x2), (3, .int x3)] [.int (2 : Int32), .int x1, .int x2] (wSR cy kb kn kf rK rf rg rpd rpn sK sf sg spd spn mc mm nc nm pd pn vo vd vs tl tb eo et ed em ef ez ek es en fi) (by decide +kernel) rfl rfl ?_
    obtain ⟨q3, hq3, h⟩ := obd h
    refine G_cS C lk_6_101 ⟨Nat.le_of_ble_eq_true rfl, Nat.le_of_ble_eq_true rfl⟩ (by decide +kernel) [.int (bI q3)] (c_X6_isOutside cy x2 x1 (2 : Int32) q3 hq3) rfl rfl (Nat.le_of_ble_eq_true rfl) rfl ?_
    refine G_if_ne C (off := 12) (tgt := 27) (by decide +kernel) rfl (fun c => ?_) (fun c => ?_)
    · rw [if_neg c] at h
      refine G_r C [(.aload_n 0, 1, 0, 0, .null)] 28 [(0, .ref 0), (1, .int x1), (2, .int x2), (3, .int x3)] [.ref 0] (wSR cy kb kn kf rK rf rg rpd rpn sK sf sg spd spn mc mm nc nm pd pn vo vd vs tl tb eo et ed em ef ez ek es en fi) (by decide +kernel) rfl rfl ?_
      refine G_ldc C co_6_105 (by decide +kernel) ?_
      obtain ⟨q4, hq4, h⟩ := obd h
      refine G_c0 C lk_6_73 ⟨Nat.le_of_ble_eq_true rfl, Nat.le_of_ble_eq_true rfl⟩ (by decide +kernel) [.int q4.1] (c_X6_refuse cy kb kn kf rK rf rg rpd rpn sK sf sg spd spn mc mm nc nm pd pn vo vd vs tl tb eo et ed em ef ez ek es en fi (-1000001 : Int32) q4 hq4) rfl rfl (Nat.le_of_ble_eq_true rfl) ⟨rfl, rfl⟩ rfl ?_
      refine G_r C [(.i2l, 1, 0, 0, .null)] 34 [(0, .ref 0), (1, .int x1), (2, .int x2), (3, .int x3)] [.long q4.1.toInt64] (wSR cy q4.2.1 q4.2.2.1 q4.2.2.2 rK rf rg rpd rpn sK sf sg spd spn mc mm nc nm pd pn vo vd vs tl tb eo et ed em ef ez ek es en fi) (by decide +kernel) rfl rfl ?_
      have h := Option.some.inj h
      subst h
      exact G_lret C hR (by decide +kernel)
    · rw [if_pos c] at h
      refine G_r C [(.iload_n 3, 1, 0, 0, .null), (.iconst 0, 1, 0, 0, .int (0 : Int32)), (.iconst 1, 1, 0, 0, .int (1 : Int32))] 21 [(0, .ref 0), (1, .int x1), (2, .int x2), (3, .int x3)] [.int (1 : Int32), .int (0 : Int32), .int x3] (wSR cy kb kn kf rK rf rg rpd rpn sK sf sg spd spn mc mm nc nm pd pn vo vd vs tl tb eo et ed em ef ez ek es en fi) (by decide +kernel) rfl rfl ?_
      obtain ⟨q5, hq5, h⟩ := obd h
      refine G_cS C lk_6_101 ⟨Nat.le_of_ble_eq_true rfl, Nat.le_of_ble_eq_true rfl⟩ (by decide +kernel) [.int (bI q5)] (c_X6_isOutside cy x3 (0 : Int32) (1 : Int32) q5 hq5) rfl rfl (Nat.le_of_ble_eq_true rfl) rfl ?_
      refine G_if_eq C (off := 11) (tgt := 35) (by decide +kernel) rfl (fun c => ?_) (fun c => ?_)
      · rw [if_pos c] at h
        refine G_r C [(.aload_n 0, 1, 0, 0, .null), (.iload_n 2, 1, 0, 0, .null)] 37 [(0, .ref 0), (1, .int x1), (2, .int x2), (3, .int x3)] [.int x2, .ref 0] (wSR cy kb kn kf rK rf rg rpd rpn sK sf sg spd spn mc mm nc nm pd pn vo vd vs tl tb eo et ed em ef ez ek es en fi) (by decide +kernel) rfl rfl ?_
        obtain ⟨q6, hq6, h⟩ := obd h
        refine G_c0 C lk_6_131 ⟨Nat.le_of_ble_eq_true rfl, Nat.le_of_ble_eq_true rfl⟩ (by decide +kernel) [.int (bI q6.1)] (c_X6_findRule cy kb kn kf rK rf rg rpd rpn sK sf sg spd spn mc mm nc nm pd pn vo vd vs tl tb eo et ed em ef ez ek es en fi x2 q6 hq6) rfl rfl (Nat.le_of_ble_eq_true rfl) ⟨rfl, rfl⟩ rfl ?_
        refine G_if_ne C (off := 11) (tgt := 51) (by decide +kernel) rfl (fun c => ?_) (fun c => ?_)
        · rw [if_neg c] at h
          refine G_r C [(.aload_n 0, 1, 0, 0, .null), (.getfield 22, 3, 6, 2, .null), (.iload_n 2, 1, 0, 0, .null)] 56 [(0, .ref 0), (1, .int x1), (2, .int x2), (3, .int x3)] [.int x2, .ref 11] (wSR cy kb kn kf rK rf rg rpd rpn sK sf sg spd spn q6.2.1 q6.2.2 nc nm pd pn vo vd vs tl tb eo et ed em ef ez ek es en fi) (by decide +kernel) rfl rfl ?_
          obtain ⟨q7, hq7, h⟩ := obd h
          refine G_cV C lk_6_115 ⟨Nat.le_of_ble_eq_true rfl, Nat.le_of_ble_eq_true rfl⟩ (by decide +kernel) [11, 12] [.long q7] (wSR cy kb kn kf rK rf rg rpd rpn sK sf sg spd spn q6.2.1 q6.2.2 nc nm pd pn vo vd vs tl tb eo et ed em ef ez ek es en fi) (c_X0_det cy q6.2.1 q6.2.2 x2 q7 hq7) rfl rfl (Nat.le_of_ble_eq_true rfl) rfl rfl ⟨rfl, rfl⟩ rfl rfl rfl ?_
          refine G_r C [(.lstore 4, 2, 0, 0, .null), (.aload_n 0, 1, 0, 0, .null), (.getfield 22, 3, 6, 2, .null), (.iload_n 2, 1, 0, 0, .null), (.iconst 1, 1, 0, 0, .int (1 : Int32)), (.iadd, 1, 0, 0, .null)] 68 [(4, .long q7), (0, .ref 0), (1, .int x1), (2, .int x2), (3, .int x3)] [.int (x2 + (1 : Int32)), .ref 11] (wSR cy kb kn kf rK rf rg rpd rpn sK sf sg spd spn q6.2.1 q6.2.2 nc nm pd pn vo vd vs tl tb eo et ed em ef ez ek es en fi) (by decide +kernel) rfl rfl ?_
          obtain ⟨q8, hq8, h⟩ := obd h
          refine G_cV C lk_6_115 ⟨Nat.le_of_ble_eq_true rfl, Nat.le_of_ble_eq_true rfl⟩ (by decide +kernel) [11, 12] [.long q8] (wSR cy kb kn kf rK rf rg rpd rpn sK sf sg spd spn q6.2.1 q6.2.2 nc nm pd pn vo vd vs tl tb eo et ed em ef ez ek es en fi) (c_X0_det cy q6.2.1 q6.2.2 (x2 + (1 : Int32)) q8 hq8) rfl rfl (Nat.le_of_ble_eq_true rfl) rfl rfl ⟨rfl, rfl⟩ rfl rfl rfl ?_
          refine G_r C [(.lstore 6, 2, 0, 0, .null), (.iload_n 1, 1, 0, 0, .null)] 74 [(6, .long q8), (4, .long q7), (0, .ref 0), (1, .int x1), (2, .int x2), (3, .int x3)] [.int x1] (wSR cy kb kn kf rK rf rg rpd rpn sK sf sg spd spn q6.2.1 q6.2.2 nc nm pd pn vo vd vs tl tb eo et ed em ef ez ek es en fi) (by decide +kernel) rfl rfl ?_
          refine G_if_ne C (off := 46) (tgt := 120) (by decide +kernel) rfl (fun c => ?_) (fun c => ?_)
          · rw [if_neg c] at h
            refine G_r C [(.lload 6, 2, 0, 0, .null), (.aload_n 0, 1, 0, 0, .null), (.getfield 22, 3, 6, 2, .null), (.iload_n 2, 1, 0, 0, .null), (.iconst 1, 1, 0, 0, .int (1 : Int32)), (.isub, 1, 0, 0, .null)] 129 [(6, .long q8), (4, .long q7), (0, .ref 0), (1, .int x1), (2, .int x2), (3, .int x3)] [.int (x2 - (1 : Int32)), .ref 11, .long q8] (wSR cy kb kn kf rK rf rg rpd rpn sK sf sg spd spn q6.2.1 q6.2.2 nc nm pd pn vo vd vs tl tb eo et ed em ef ez ek es en fi) (by decide +kernel) rfl rfl ?_
            obtain ⟨q9, hq9, h⟩ := obd h
            refine G_cV C lk_6_115 ⟨Nat.le_of_ble_eq_true rfl, Nat.le_of_ble_eq_true rfl⟩ (by decide +kernel) [11, 12] [.long q9, .long q8] (wSR cy kb kn kf rK rf rg rpd rpn sK sf sg spd spn q6.2.1 q6.2.2 nc nm pd pn vo vd vs tl tb eo et ed em ef ez ek es en fi) (c_X0_det cy q6.2.1 q6.2.2 (x2 - (1 : Int32)) q9 hq9) rfl rfl (Nat.le_of_ble_eq_true rfl) rfl rfl ⟨rfl, rfl⟩ rfl rfl rfl ?_
            refine G_r C [(.lmul, 1, 0, 0, .null), (.lload 4, 2, 0, 0, .null), (.lload 4, 2, 0, 0, .null), (.lmul, 1, 0, 0, .null), (.iload_n 3, 1, 0, 0, .null)] 139 [(6, .long q8), (4, .long q7), (0, .ref 0), (1, .int x1), (2, .int x2), (3, .int x3)] [.int x3, .long (q7 * q7), .long (q8 * q9)] (wSR cy kb kn kf rK rf rg rpd rpn sK sf sg spd spn q6.2.1 q6.2.2 nc nm pd pn vo vd vs tl tb eo et ed em ef ez ek es en fi) (by decide +kernel) rfl rfl ?_
            obtain ⟨q10, hq10, h⟩ := obd h
            refine G_cS C lk_6_127 ⟨Nat.le_of_ble_eq_true rfl, Nat.le_of_ble_eq_true rfl⟩ (by decide +kernel) [.long q10] (c_X6_part cy (q8 * q9) (q7 * q7) x3 q10 hq10) rfl rfl (Nat.le_of_ble_eq_true rfl) rfl ?_
            have h := Option.some.inj h
            subst h
            exact G_lret C hR (by decide +kernel)
          · rw [if_pos c] at h
            refine G_r C [(.aload_n 0, 1, 0, 0, .null), (.getfield 22, 3, 6, 2, .null), (.iload_n 2, 1, 0, 0, .null), (.iload_n 2, 1, 0, 0, .null), (.iconst 1, 1, 0, 0, .int (1 : Int32)), (.isub, 1, 0, 0, .null)] 85 [(6, .long q8), (4, .long q7), (0, .ref 0), (1, .int x1), (2, .int x2), (3, .int x3)] [.int (x2 - (1 : Int32)), .int x2, .ref 11] (wSR cy kb kn kf rK rf rg rpd rpn sK sf sg spd spn q6.2.1 q6.2.2 nc nm pd pn vo vd vs tl tb eo et ed em ef ez ek es en fi) (by decide +kernel) rfl rfl ?_
            obtain ⟨q11, hq11, h⟩ := obd h
            refine G_cV C lk_6_123 ⟨Nat.le_of_ble_eq_true rfl, Nat.le_of_ble_eq_true rfl⟩ (by decide +kernel) [11, 12] [.long q11] (wSR cy kb kn kf rK rf rg rpd rpn sK sf sg spd spn q6.2.1 q6.2.2 nc nm pd pn vo vd vs tl tb eo et ed em ef ez ek es en fi) (c_X0_coefficient cy q6.2.1 q6.2.2 x2 (x2 - (1 : Int32)) q11 hq11) rfl rfl (Nat.le_of_ble_eq_true rfl) rfl rfl ⟨rfl, rfl⟩ rfl rfl rfl ?_
            refine G_r C [(.lload 6, 2, 0, 0, .null), (.lmul, 1, 0, 0, .null), (.aload_n 0, 1, 0, 0, .null), (.getfield 22, 3, 6, 2, .null), (.iload_n 2, 1, 0, 0, .null), (.iconst 1, 1, 0, 0, .int (1 : Int32)), (.iadd, 1, 0, 0, .null), (.iload_n 2, 1, 0, 0, .null)] 99 [(6, .long q8), (4, .long q7), (0, .ref 0), (1, .int x1), (2, .int x2), (3, .int x3)] [.int x2, .int (x2 + (1 : Int32)), .ref 11, .long (q11 * q8)] (wSR cy kb kn kf rK rf rg rpd rpn sK sf sg spd spn q6.2.1 q6.2.2 nc nm pd pn vo vd vs tl tb eo et ed em ef ez ek es en fi) (by decide +kernel) rfl rfl ?_
            obtain ⟨q12, hq12, h⟩ := obd h
            refine G_cV C lk_6_123 ⟨Nat.le_of_ble_eq_true rfl, Nat.le_of_ble_eq_true rfl⟩ (by decide +kernel) [11, 12] [.long q12, .long (q11 * q8)] (wSR cy kb kn kf rK rf rg rpd rpn sK sf sg spd spn q6.2.1 q6.2.2 nc nm pd pn vo vd vs tl tb eo et ed em ef ez ek es en fi) (c_X0_coefficient cy q6.2.1 q6.2.2 (x2 + (1 : Int32)) x2 q12 hq12) rfl rfl (Nat.le_of_ble_eq_true rfl) rfl rfl ⟨rfl, rfl⟩ rfl rfl rfl ?_
            refine G_r C [(.lload 4, 2, 0, 0, .null), (.lmul, 1, 0, 0, .null), (.lsub, 1, 0, 0, .null), (.lstore 8, 2, 0, 0, .null), (.lload 8, 2, 0, 0, .null), (.lload 4, 2, 0, 0, .null), (.lload 6, 2, 0, 0, .null), (.lmul, 1, 0, 0, .null), (.iload_n 3, 1, 0, 0, .null)] 116 [(8, .long ((q11 * q8) - (q12 * q7))), (6, .long q8), (4, .long q7), (0, .ref 0), (1, .int x1), (2, .int x2), (3, .int x3)] [.int x3, .long (q7 * q8), .long ((q11 * q8) - (q12 * q7))] (wSR cy kb kn kf rK rf rg rpd rpn sK sf sg spd spn q6.2.1 q6.2.2 nc nm pd pn vo vd vs tl tb eo et ed em ef ez ek es en fi) (by decide +kernel) rfl rfl ?_
            obtain ⟨q13, hq13, h⟩ := obd h
            refine G_cS C lk_6_127 ⟨Nat.le_of_ble_eq_true rfl, Nat.le_of_ble_eq_true rfl⟩ (by decide +kernel) [.long q13] (c_X6_part cy ((q11 * q8) - (q12 * q7)) (q7 * q8) x3 q13 hq13) rfl rfl (Nat.le_of_ble_eq_true rfl) rfl ?_
            have h := Option.some.inj h
            subst h
            exact G_lret C hR (by decide +kernel)
        · rw [if_pos c] at h
          refine G_r C [(.aload_n 0, 1, 0, 0, .null)] 44 [(0, .ref 0), (1, .int x1), (2, .int x2), (3, .int x3)] [.ref 0] (wSR cy kb kn kf rK rf rg rpd rpn sK sf sg spd spn q6.2.1 q6.2.2 nc nm pd pn vo vd vs tl tb eo et ed em ef ez ek es en fi) (by decide +kernel) rfl rfl ?_
          refine G_ldc C co_6_110 (by decide +kernel) ?_
          obtain ⟨q14, hq14, h⟩ := obd h
          refine G_c0 C lk_6_73 ⟨Nat.le_of_ble_eq_true rfl, Nat.le_of_ble_eq_true rfl⟩ (by decide +kernel) [.int q14.1] (c_X6_refuse cy kb kn kf rK rf rg rpd rpn sK sf sg spd spn q6.2.1 q6.2.2 nc nm pd pn vo vd vs tl tb eo et ed em ef ez ek es en fi (-1000002 : Int32) q14 hq14) rfl rfl (Nat.le_of_ble_eq_true rfl) ⟨rfl, rfl⟩ rfl ?_
          refine G_r C [(.i2l, 1, 0, 0, .null)] 50 [(0, .ref 0), (1, .int x1), (2, .int x2), (3, .int x3)] [.long q14.1.toInt64] (wSR cy q14.2.1 q14.2.2.1 q14.2.2.2 rK rf rg rpd rpn sK sf sg spd spn q6.2.1 q6.2.2 nc nm pd pn vo vd vs tl tb eo et ed em ef ez ek es en fi) (by decide +kernel) rfl rfl ?_
          have h := Option.some.inj h
          subst h
          exact G_lret C hR (by decide +kernel)
      · rw [if_neg c] at h
        refine G_r C [(.aload_n 0, 1, 0, 0, .null)] 28 [(0, .ref 0), (1, .int x1), (2, .int x2), (3, .int x3)] [.ref 0] (wSR cy kb kn kf rK rf rg rpd rpn sK sf sg spd spn mc mm nc nm pd pn vo vd vs tl tb eo et ed em ef ez ek es en fi) (by decide +kernel) rfl rfl ?_
        refine G_ldc C co_6_105 (by decide +kernel) ?_
        obtain ⟨q15, hq15, h⟩ := obd h
        refine G_c0 C lk_6_73 ⟨Nat.le_of_ble_eq_true rfl, Nat.le_of_ble_eq_true rfl⟩ (by decide +kernel) [.int q15.1] (c_X6_refuse cy kb kn kf rK rf rg rpd rpn sK sf sg spd spn mc mm nc nm pd pn vo vd vs tl tb eo et ed em ef ez ek es en fi (-1000001 : Int32) q15 hq15) rfl rfl (Nat.le_of_ble_eq_true rfl) ⟨rfl, rfl⟩ rfl ?_
        refine G_r C [(.i2l, 1, 0, 0, .null)] 34 [(0, .ref 0), (1, .int x1), (2, .int x2), (3, .int x3)] [.long q15.1.toInt64] (wSR cy q15.2.1 q15.2.2.1 q15.2.2.2 rK rf rg rpd rpn sK sf sg spd spn mc mm nc nm pd pn vo vd vs tl tb eo et ed em ef ez ek es en fi) (by decide +kernel) rfl rfl ?_
        have h := Option.some.inj h
        subst h
        exact G_lret C hR (by decide +kernel)
def f_X6_find (x1 : Int32) (x2 : Int32) (x3 : Int32) (x4 : Int32) (fi : Nat → Int32) : Option (Nat → Int32) := if (0 : Int32) < 0 ∨ 4 ≤ (0 : Int32).toNatClampNeg then none else if (1 : Int32) < 0 ∨ 4 ≤ (1 : Int32).toNatClampNeg then none else if (2 : Int32) < 0 ∨ 4 ≤ (2 : Int32).toNatClampNeg then none else if (3 : Int32) < 0 ∨ 4 ≤ (3 : Int32).toNatClampNeg then none else some (upd (upd (upd (upd fi (0 : Int32).toNatClampNeg x1) (1 : Int32).toNatClampNeg x2) (2 : Int32).toNatClampNeg x3) (3 : Int32).toNatClampNeg x4)
set_option maxHeartbeats 4000000 in
set_option maxRecDepth 100000 in
theorem c_X6_find (cy : Nat → ClassId) (kb : Int32) (kn : Int32) (kf : Int32) (rK : Int32) (rf : Nat → Int32) (rg : Nat → Int64) (rpd : Int32) (rpn : Nat → Int64) (sK : Int32) (sf : Nat → Int32) (sg : Nat → Int64) (spd : Int32) (spn : Nat → Int64) (mc : Int32) (mm : Nat → Int64) (nc : Int32) (nm : Nat → Int64) (pd : Int32) (pn : Nat → Int64) (vo : Int32) (vd : Int32) (vs : Nat → Int32) (tl : Int32) (tb : Nat → Int32) (eo : Int32) (et : Int32) (ed : Int32) (em : Bool) (ef : Int32) (ez : Int32) (ek : Nat → Int32) (es : Nat → Int32) (en : Nat → Int32) (fi : Nat → Int32) (x1 : Int32) (x2 : Int32) (x3 : Int32) (x4 : Int32) (res : (Nat → Int32)) (h : f_X6_find x1 x2 x3 x4 fi = some res) : MG cy yX6_find cX6_find 5 none 0 0 [.ref 0, .int x1, .int x2, .int x3, .int x4] (wSR cy kb kn kf rK rf rg rpd rpn sK sf sg spd spn mc mm nc nm pd pn vo vd vs tl tb eo et ed em ef ez ek es en fi) none (wSR cy kb kn kf rK rf rg rpd rpn sK sf sg spd spn mc mm nc nm pd pn vo vd vs tl tb eo et ed em ef ez ek es en res) := by
  refine MG_of (o := 6) (lv := [(0, .ref 0), (1, .int x1), (2, .int x2), (3, .int x3), (4, .int x4)]) ⟨by decide +kernel, rfl⟩ (Nat.le_of_ble_eq_true rfl) rfl (fun k C hR => ?_)
  rw [f_X6_find] at h
  refine G_r C [(.aload_n 0, 1, 0, 0, .null), (.getfield 57, 3, 6, 8, .null), (.iconst 0, 1, 0, 0, .int (0 : Int32)), (.iload_n 1, 1, 0, 0, .null)] 6 [(0, .ref 0), (1, .int x1), (2, .int x2), (3, .int x3), (4, .int x4)] [.int x1, .int (0 : Int32), .ref 25] (wSR cy kb kn kf rK rf rg rpd rpn sK sf sg spd spn mc mm nc nm pd pn vo vd vs tl tb eo et ed em ef ez ek es en fi) (by decide +kernel) rfl rfl ?_
  obtain ⟨cg, h⟩ := oob h
  refine G_iast C (a := 25) (w' := (wSR cy kb kn kf rK rf rg rpd rpn sK sf sg spd spn mc mm nc nm pd pn vo vd vs tl tb eo et ed em ef ez ek es en (upd fi (0 : Int32).toNatClampNeg x1))) rfl cg (by decide +kernel) rfl ?_
  refine G_r C [(.aload_n 0, 1, 0, 0, .null), (.getfield 57, 3, 6, 8, .null), (.iconst 1, 1, 0, 0, .int (1 : Int32)), (.iload_n 2, 1, 0, 0, .null)] 13 [(0, .ref 0), (1, .int x1), (2, .int x2), (3, .int x3), (4, .int x4)] [.int x2, .int (1 : Int32), .ref 25] (wSR cy kb kn kf rK rf rg rpd rpn sK sf sg spd spn mc mm nc nm pd pn vo vd vs tl tb eo et ed em ef ez ek es en (upd fi (0 : Int32).toNatClampNeg x1)) (by decide +kernel) rfl rfl ?_
  obtain ⟨cg, h⟩ := oob h
  refine G_iast C (a := 25) (w' := (wSR cy kb kn kf rK rf rg rpd rpn sK sf sg spd spn mc mm nc nm pd pn vo vd vs tl tb eo et ed em ef ez ek es en (upd (upd fi (0 : Int32).toNatClampNeg x1) (1 : Int32).toNatClampNeg x2))) rfl cg (by decide +kernel) rfl ?_
  refine G_r C [(.aload_n 0, 1, 0, 0, .null), (.getfield 57, 3, 6, 8, .null), (.iconst 2, 1, 0, 0, .int (2 : Int32)), (.iload_n 3, 1, 0, 0, .null)] 20 [(0, .ref 0), (1, .int x1), (2, .int x2), (3, .int x3), (4, .int x4)] [.int x3, .int (2 : Int32), .ref 25] (wSR cy kb kn kf rK rf rg rpd rpn sK sf sg spd spn mc mm nc nm pd pn vo vd vs tl tb eo et ed em ef ez ek es en (upd (upd fi (0 : Int32).toNatClampNeg x1) (1 : Int32).toNatClampNeg x2)) (by decide +kernel) rfl rfl ?_
  obtain ⟨cg, h⟩ := oob h
  refine G_iast C (a := 25) (w' := (wSR cy kb kn kf rK rf rg rpd rpn sK sf sg spd spn mc mm nc nm pd pn vo vd vs tl tb eo et ed em ef ez ek es en (upd (upd (upd fi (0 : Int32).toNatClampNeg x1) (1 : Int32).toNatClampNeg x2) (2 : Int32).toNatClampNeg x3))) rfl cg (by decide +kernel) rfl ?_
  refine G_r C [(.aload_n 0, 1, 0, 0, .null), (.getfield 57, 3, 6, 8, .null), (.iconst 3, 1, 0, 0, .int (3 : Int32)), (.iload 4, 2, 0, 0, .null)] 28 [(0, .ref 0), (1, .int x1), (2, .int x2), (3, .int x3), (4, .int x4)] [.int x4, .int (3 : Int32), .ref 25] (wSR cy kb kn kf rK rf rg rpd rpn sK sf sg spd spn mc mm nc nm pd pn vo vd vs tl tb eo et ed em ef ez ek es en (upd (upd (upd fi (0 : Int32).toNatClampNeg x1) (1 : Int32).toNatClampNeg x2) (2 : Int32).toNatClampNeg x3)) (by decide +kernel) rfl rfl ?_
  obtain ⟨cg, h⟩ := oob h
  refine G_iast C (a := 25) (w' := (wSR cy kb kn kf rK rf rg rpd rpn sK sf sg spd spn mc mm nc nm pd pn vo vd vs tl tb eo et ed em ef ez ek es en (upd (upd (upd (upd fi (0 : Int32).toNatClampNeg x1) (1 : Int32).toNatClampNeg x2) (2 : Int32).toNatClampNeg x3) (3 : Int32).toNatClampNeg x4))) rfl cg (by decide +kernel) rfl ?_
  have h := Option.some.inj h
  subst h
  exact G_vret C hR (by decide +kernel)
