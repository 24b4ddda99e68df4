def f_X0_zerosBelow_L12 : Nat → Int32 → Int32 → Int32 → Int32 → Int32 → Int32 → Int32 → (Nat → Int64) → Option (Int32 × Int32)
  | 0, _, _, _, _, _, _, _, _ => none
  | fu + 1, x1, x2, x3, x4, x5, x6, x7, mm => if x1 < x7 then (some (x4, x6)) else ((f_X0_evaluate x7 x2 x3 mm).bind fun q1 => (f_X6_signOf q1).bind fun q2 => if q2 = (-x5) then (f_X0_zerosBelow_L12 fu x1 x2 x3 (x4 + (-1 : Int32)) q2 q2 (x7 + (1 : Int32)) mm) else (f_X0_zerosBelow_L12 fu x1 x2 x3 x4 x5 q2 (x7 + (1 : Int32)) mm))
def f_X0_zerosBelow (x1 : Int32) (x2 : Int32) (x3 : Int32) (mm : Nat → Int64) : Option Int32 := (f_X0_zerosBelow_L12 200 x1 x2 x3 x1 (1 : Int32) (1 : Int32) (1 : Int32) mm).bind fun q3 => if q3.2 = 0 then (some (q3.1 - (1 : Int32))) else (some q3.1)
set_option maxHeartbeats 4000000 in
set_option maxRecDepth 100000 in
theorem g_X0_zerosBelow_L12 {k : KX} {cy : Nat → ClassId} (C : OK k cX0_zerosBelow 0 8 cy 3 74) : ∀ (fu : Nat) (x1 : Int32) (x2 : Int32) (x3 : Int32) (x4 : Int32) (x5 : Int32) (x6 : Int32) (x7 : Int32) (mc : Int32) (mm : Nat → Int64) (res : (Int32 × Int32)), (f_X0_zerosBelow_L12 fu x1 x2 x3 x4 x5 x6 x7 mm = some res) → G k 8 52 [(4, .int res.1), (6, .int res.2)] [] (wMin cy 0 mc mm) → G k 8 12 [(0, .ref 0), (1, .int x1), (2, .int x2), (3, .int x3), (4, .int x4), (5, .int x5), (6, .int x6), (7, .int x7)] [] (wMin cy 0 mc mm) := by
  intro fu
  induction fu with
  | zero =>
    intro x1 x2 x3 x4 x5 x6 x7 mc mm res h hex
    rw [f_X0_zerosBelow_L12] at h
    cases h
  | succ fu ih =>
    intro x1 x2 x3 x4 x5 x6 x7 mc mm res h hex
    rw [f_X0_zerosBelow_L12] at h
    refine G_r C [(.iload 7, 2, 0, 0, .null), (.iload_n 1, 1, 0, 0, .null)] 15 [(0, .ref 0), (1, .int x1), (2, .int x2), (3, .int x3), (4, .int x4), (5, .int x5), (6, .int x6), (7, .int x7)] [.int x1, .int x7] (wMin cy 0 mc mm) (by decide +kernel) rfl rfl ?_
    refine G_icmp_gt C (off := 37) (tgt := 52) (by decide +kernel) rfl (fun c => ?_) (fun c => ?_)
    · rw [if_pos c] at h
      have h := Option.some.inj h
      subst h
      refine G_lv [4, 6] (lv' := [(4, .int x4), (6, .int x6)]) rfl ?_
      exact hex
    · rw [if_neg c] at h
      refine G_r C [(.aload_n 0, 1, 0, 0, .null), (.iload 7, 2, 0, 0, .null), (.iload_n 2, 1, 0, 0, .null), (.iload_n 3, 1, 0, 0, .null)] 23 [(0, .ref 0), (1, .int x1), (2, .int x2), (3, .int x3), (4, .int x4), (5, .int x5), (6, .int x6), (7, .int x7)] [.int x3, .int x2, .int x7, .ref 0] (wMin cy 0 mc mm) (by decide +kernel) rfl rfl ?_
      obtain ⟨q1, hq1, h⟩ := obd h
      refine G_c0 C lk_0_57 ⟨Nat.le_of_ble_eq_true rfl, Nat.le_of_ble_eq_true rfl⟩ (by decide +kernel) [.long q1] (c_X0_evaluate cy mc mm x7 x2 x3 q1 hq1) rfl rfl (Nat.le_of_ble_eq_true rfl) ⟨rfl, rfl⟩ rfl ?_
      obtain ⟨q2, hq2, h⟩ := obd h
      refine G_cN C lk_0_61 ⟨Nat.le_of_ble_eq_true rfl, Nat.le_of_ble_eq_true rfl⟩ (by decide +kernel) [.int q2] (c_X6_signOf cy q1 q2 hq2) rfl rfl (Nat.le_of_ble_eq_true rfl) rfl ?_
      refine G_r C [(.istore 6, 2, 0, 0, .null), (.iload 6, 2, 0, 0, .null), (.iload 5, 2, 0, 0, .null), (.ineg, 1, 0, 0, .null)] 36 [(6, .int q2), (0, .ref 0), (1, .int x1), (2, .int x2), (3, .int x3), (4, .int x4), (5, .int x5), (7, .int x7)] [.int (-x5), .int q2] (wMin cy 0 mc mm) (by decide +kernel) rfl rfl ?_
      refine G_icmp_ne C (off := 10) (tgt := 46) (by decide +kernel) rfl (fun c => ?_) (fun c => ?_)
      · rw [if_neg c] at h
        refine G_r C [(.iinc 7 1, 3, 0, 0, .int (1 : Int32))] 49 [(7, .int (x7 + (1 : Int32))), (6, .int q2), (0, .ref 0), (1, .int x1), (2, .int x2), (3, .int x3), (4, .int x4), (5, .int x5)] [] (wMin cy 0 mc mm) (by decide +kernel) rfl rfl ?_
        refine G_goto C (off := -37) (tgt := 12) (by decide +kernel) rfl ?_
        refine G_lv [2, 3, 4, 5, 6, 7, 1, 0] (lv' := [(0, .ref 0), (1, .int x1), (2, .int x2), (3, .int x3), (4, .int x4), (5, .int x5), (6, .int q2), (7, .int (x7 + (1 : Int32)))]) rfl ?_
        exact ih x1 x2 x3 x4 x5 q2 (x7 + (1 : Int32)) mc mm res h hex
      · rw [if_pos c] at h
        refine G_r C [(.iinc 4 (-1), 3, 0, 0, .int (-1 : Int32)), (.iload 6, 2, 0, 0, .null), (.istore 5, 2, 0, 0, .null), (.iinc 7 1, 3, 0, 0, .int (1 : Int32))] 49 [(7, .int (x7 + (1 : Int32))), (5, .int q2), (4, .int (x4 + (-1 : Int32))), (6, .int q2), (0, .ref 0), (1, .int x1), (2, .int x2), (3, .int x3)] [] (wMin cy 0 mc mm) (by decide +kernel) rfl rfl ?_
        refine G_goto C (off := -37) (tgt := 12) (by decide +kernel) rfl ?_
        refine G_lv [4, 5, 6, 7, 2, 1, 3, 0] (lv' := [(0, .ref 0), (1, .int x1), (2, .int x2), (3, .int x3), (4, .int (x4 + (-1 : Int32))), (5, .int q2), (6, .int q2), (7, .int (x7 + (1 : Int32)))]) rfl ?_
        exact ih x1 x2 x3 (x4 + (-1 : Int32)) q2 q2 (x7 + (1 : Int32)) mc mm res h hex
set_option maxHeartbeats 4000000 in
set_option maxRecDepth 100000 in
theorem c_X0_zerosBelow (cy : Nat → ClassId) (mc : Int32) (mm : Nat → Int64) (x1 : Int32) (x2 : Int32) (x3 : Int32) (res : Int32) (h : f_X0_zerosBelow x1 x2 x3 mm = some res) : MG cy yX0_zerosBelow cX0_zerosBelow 8 (some .int) 3 74 [.ref 0, .int x1, .int x2, .int x3] (wMin cy 0 mc mm) (some (.int res)) (wMin cy 0 mc mm) := by
  refine MG_of (o := 0) (lv := [(0, .ref 0), (1, .int x1), (2, .int x2), (3, .int x3)]) ⟨by decide +kernel, rfl⟩ (Nat.le_of_ble_eq_true rfl) rfl (fun k C hR => ?_)
  rw [f_X0_zerosBelow] at h
  refine G_r C [(.iload_n 1, 1, 0, 0, .null), (.istore 4, 2, 0, 0, .null), (.iconst 1, 1, 0, 0, .int (1 : Int32)), (.istore 5, 2, 0, 0, .null), (.iconst 1, 1, 0, 0, .int (1 : Int32)), (.istore 6, 2, 0, 0, .null), (.iconst 1, 1, 0, 0, .int (1 : Int32)), (.istore 7, 2, 0, 0, .null)] 12 [(7, .int (1 : Int32)), (6, .int (1 : Int32)), (5, .int (1 : Int32)), (4, .int x1), (0, .ref 0), (1, .int x1), (2, .int x2), (3, .int x3)] [] (wMin cy 0 mc mm) (by decide +kernel) rfl rfl ?_
  obtain ⟨q3, hq3, h⟩ := obd h
  refine G_lv [4, 5, 6, 7, 3, 2, 1, 0] (lv' := [(0, .ref 0), (1, .int x1), (2, .int x2), (3, .int x3), (4, .int x1), (5, .int (1 : Int32)), (6, .int (1 : Int32)), (7, .int (1 : Int32))]) rfl ?_
  refine g_X0_zerosBelow_L12 C 200 x1 x2 x3 x1 (1 : Int32) (1 : Int32) (1 : Int32) mc mm q3 hq3 ?_
  refine G_r C [(.iload 6, 2, 0, 0, .null)] 54 [(4, .int q3.1), (6, .int q3.2)] [.int q3.2] (wMin cy 0 mc mm) (by decide +kernel) rfl rfl ?_
  refine G_if_ne C (off := 10) (tgt := 64) (by decide +kernel) rfl (fun c => ?_) (fun c => ?_)
  · rw [if_neg c] at h
    refine G_r C [(.iload 4, 2, 0, 0, .null)] 66 [(4, .int q3.1), (6, .int q3.2)] [.int q3.1] (wMin cy 0 mc mm) (by decide +kernel) rfl rfl ?_
    have h := Option.some.inj h
    subst h
    exact G_iret C hR (by decide +kernel)
  · rw [if_pos c] at h
    refine G_r C [(.iload 4, 2, 0, 0, .null), (.iconst 1, 1, 0, 0, .int (1 : Int32)), (.isub, 1, 0, 0, .null)] 61 [(4, .int q3.1), (6, .int q3.2)] [.int (q3.1 - (1 : Int32))] (wMin cy 0 mc mm) (by decide +kernel) rfl rfl ?_
    refine G_goto C (off := 5) (tgt := 66) (by decide +kernel) rfl ?_
    have h := Option.some.inj h
    subst h
    exact G_iret C hR (by decide +kernel)
def f_X6_under (x1 : Int32) (x2 : Int32) (x3 : Int32) (kb : Int32) (kn : Int32) (kf : Int32) (rK : Int32) (rf : Nat → Int32) (mc : Int32) (mm : Nat → Int64) : Option (Int32 × Int32 × Int32 × Int32 × Int32 × (Nat → Int64)) := (f_X6_isOutside x1 (1 : Int32) (3 : Int32)).bind fun q1 => if (bI q1) = 0 then ((f_X6_isNoPoint x2 x3).bind fun q3 => if (bI q3) = 0 then ((f_X6_findZeros x1 rK rf mm).bind fun q4 => if (bI q4.1) = 0 then ((f_X6_refuse (-1000002 : Int32) kb kn kf).bind fun q6 => some (q6.1, q6.2.1, q6.2.2.1, q6.2.2.2, q4.2.1, q4.2.2)) else ((f_X0_zerosBelow x1 x2 x3 q4.2.2).bind fun q5 => some (q5, kb, kn, kf, q4.2.1, q4.2.2))) else ((f_X6_refuse (-1000001 : Int32) kb kn kf).bind fun q7 => some (q7.1, q7.2.1, q7.2.2.1, q7.2.2.2, mc, mm))) else ((f_X6_refuse (-1000001 : Int32) kb kn kf).bind fun q2 => some (q2.1, q2.2.1, q2.2.2.1, q2.2.2.2, mc, mm))
set_option maxHeartbeats 4000000 in
set_option maxRecDepth 100000 in
theorem c_X6_under (cy : Nat → ClassId) (kb : Int32) (kn : Int32) (kf : Int32) (rK : Int32) (rf : Nat → Int32) (rg : Nat → Int64) (rpd : Int32) (rpn : Nat → Int64) (sK : Int32) (sf : Nat → Int32) (sg : Nat → Int64) (spd : Int32) (spn : Nat → Int64) (mc : Int32) (mm : Nat → Int64) (nc : Int32) (nm : Nat → Int64) (pd : Int32) (pn : Nat → Int64) (vo : Int32) (vd : Int32) (vs : Nat → Int32) (tl : Int32) (tb : Nat → Int32) (eo : Int32) (et : Int32) (ed : Int32) (em : Bool) (ef : Int32) (ez : Int32) (ek : Nat → Int32) (es : Nat → Int32) (en : Nat → Int32) (fi : Nat → Int32) (x1 : Int32) (x2 : Int32) (x3 : Int32) (res : (Int32 × Int32 × Int32 × Int32 × Int32 × (Nat → Int64))) (h : f_X6_under x1 x2 x3 kb kn kf rK rf mc mm = some res) : MG cy yX6_under cX6_under 4 (some .int) 5 118 [.ref 0, .int x1, .int x2, .int x3] (wSR cy kb kn kf rK rf rg rpd rpn sK sf sg spd spn mc mm nc nm pd pn vo vd vs tl tb eo et ed em ef ez ek es en fi) (some (.int res.1)) (wSR cy res.2.1 res.2.2.1 res.2.2.2.1 rK rf rg rpd rpn sK sf sg spd spn res.2.2.2.2.1 res.2.2.2.2.2 nc nm pd pn vo vd vs tl tb eo et ed em ef ez ek es en fi) := by
  refine MG_of (o := 6) (lv := [(0, .ref 0), (1, .int x1), (2, .int x2), (3, .int x3)]) ⟨by decide +kernel, rfl⟩ (Nat.le_of_ble_eq_true rfl) rfl (fun k C hR => ?_)
  rw [f_X6_under] at h
  refine G_r C [(.iload_n 1, 1, 0, 0, .null), (.iconst 1, 1, 0, 0, .int (1 : Int32)), (.iconst 3, 1, 0, 0, .int (3 : Int32))] 3 [(0, .ref 0), (1, .int x1), (2, .int x2), (3, .int x3)] [.int (3 : Int32), .int (1 : Int32), .int x1] (wSR cy kb kn kf rK rf rg rpd rpn sK sf sg spd spn mc mm nc nm pd pn vo vd vs tl tb eo et ed em ef ez ek es en fi) (by decide +kernel) rfl rfl ?_
  obtain ⟨q1, hq1, h⟩ := obd h
  refine G_cS C lk_6_101 ⟨Nat.le_of_ble_eq_true rfl, Nat.le_of_ble_eq_true rfl⟩ (by decide +kernel) [.int (bI q1)] (c_X6_isOutside cy x1 (1 : Int32) (3 : Int32) q1 hq1) rfl rfl (Nat.le_of_ble_eq_true rfl) rfl ?_
  refine G_if_ne C (off := 11) (tgt := 17) (by decide +kernel) rfl (fun c => ?_) (fun c => ?_)
  · rw [if_neg c] at h
    refine G_r C [(.aload_n 0, 1, 0, 0, .null)] 18 [(0, .ref 0), (1, .int x1), (2, .int x2), (3, .int x3)] [.ref 0] (wSR cy kb kn kf rK rf rg rpd rpn sK sf sg spd spn mc mm nc nm pd pn vo vd vs tl tb eo et ed em ef ez ek es en fi) (by decide +kernel) rfl rfl ?_
    refine G_ldc C co_6_105 (by decide +kernel) ?_
    obtain ⟨q2, hq2, h⟩ := obd h
    refine G_c0 C lk_6_73 ⟨Nat.le_of_ble_eq_true rfl, Nat.le_of_ble_eq_true rfl⟩ (by decide +kernel) [.int q2.1] (c_X6_refuse cy kb kn kf rK rf rg rpd rpn sK sf sg spd spn mc mm nc nm pd pn vo vd vs tl tb eo et ed em ef ez ek es en fi (-1000001 : Int32) q2 hq2) rfl rfl (Nat.le_of_ble_eq_true rfl) ⟨rfl, rfl⟩ rfl ?_
    have h := Option.some.inj h
    subst h
    exact G_iret C hR (by decide +kernel)
  · rw [if_pos c] at h
    refine G_r C [(.iload_n 2, 1, 0, 0, .null), (.iload_n 3, 1, 0, 0, .null)] 11 [(0, .ref 0), (1, .int x1), (2, .int x2), (3, .int x3)] [.int x3, .int x2] (wSR cy kb kn kf rK rf rg rpd rpn sK sf sg spd spn mc mm nc nm pd pn vo vd vs tl tb eo et ed em ef ez ek es en fi) (by decide +kernel) rfl rfl ?_
    obtain ⟨q3, hq3, h⟩ := obd h
    refine G_cS C lk_6_137 ⟨Nat.le_of_ble_eq_true rfl, Nat.le_of_ble_eq_true rfl⟩ (by decide +kernel) [.int (bI q3)] (c_X6_isNoPoint cy x2 x3 q3 hq3) rfl rfl (Nat.le_of_ble_eq_true rfl) rfl ?_
    refine G_if_eq C (off := 10) (tgt := 24) (by decide +kernel) rfl (fun c => ?_) (fun c => ?_)
    · rw [if_pos c] at h
      refine G_r C [(.aload_n 0, 1, 0, 0, .null), (.iload_n 1, 1, 0, 0, .null)] 26 [(0, .ref 0), (1, .int x1), (2, .int x2), (3, .int x3)] [.int x1, .ref 0] (wSR cy kb kn kf rK rf rg rpd rpn sK sf sg spd spn mc mm nc nm pd pn vo vd vs tl tb eo et ed em ef ez ek es en fi) (by decide +kernel) rfl rfl ?_
      obtain ⟨q4, hq4, h⟩ := obd h
      refine G_c0 C lk_6_148 ⟨Nat.le_of_ble_eq_true rfl, Nat.le_of_ble_eq_true rfl⟩ (by decide +kernel) [.int (bI q4.1)] (c_X6_findZeros cy kb kn kf rK rf rg rpd rpn sK sf sg spd spn mc mm nc nm pd pn vo vd vs tl tb eo et ed em ef ez ek es en fi x1 q4 hq4) rfl rfl (Nat.le_of_ble_eq_true rfl) ⟨rfl, rfl⟩ rfl ?_
      refine G_if_ne C (off := 10) (tgt := 39) (by decide +kernel) rfl (fun c => ?_) (fun c => ?_)
      · rw [if_neg c] at h
        refine G_r C [(.aload_n 0, 1, 0, 0, .null), (.getfield 22, 3, 6, 2, .null), (.iload_n 1, 1, 0, 0, .null), (.iload_n 2, 1, 0, 0, .null), (.iload_n 3, 1, 0, 0, .null)] 46 [(0, .ref 0), (1, .int x1), (2, .int x2), (3, .int x3)] [.int x3, .int x2, .int x1, .ref 11] (wSR cy kb kn kf rK rf rg rpd rpn sK sf sg spd spn q4.2.1 q4.2.2 nc nm pd pn vo vd vs tl tb eo et ed em ef ez ek es en fi) (by decide +kernel) rfl rfl ?_
        obtain ⟨q5, hq5, h⟩ := obd h
        refine G_cV C lk_6_151 ⟨Nat.le_of_ble_eq_true rfl, Nat.le_of_ble_eq_true rfl⟩ (by decide +kernel) [11, 12] [.int q5] (wSR cy kb kn kf rK rf rg rpd rpn sK sf sg spd spn q4.2.1 q4.2.2 nc nm pd pn vo vd vs tl tb eo et ed em ef ez ek es en fi) (c_X0_zerosBelow cy q4.2.1 q4.2.2 x1 x2 x3 q5 hq5) rfl rfl (Nat.le_of_ble_eq_true rfl) rfl rfl ⟨rfl, rfl⟩ rfl rfl rfl ?_
        have h := Option.some.inj h
        subst h
        exact G_iret C hR (by decide +kernel)
      · rw [if_pos c] at h
        refine G_r C [(.aload_n 0, 1, 0, 0, .null)] 33 [(0, .ref 0), (1, .int x1), (2, .int x2), (3, .int x3)] [.ref 0] (wSR cy kb kn kf rK rf rg rpd rpn sK sf sg spd spn q4.2.1 q4.2.2 nc nm pd pn vo vd vs tl tb eo et ed em ef ez ek es en fi) (by decide +kernel) rfl rfl ?_
        refine G_ldc C co_6_110 (by decide +kernel) ?_
        obtain ⟨q6, hq6, h⟩ := obd h
        refine G_c0 C lk_6_73 ⟨Nat.le_of_ble_eq_true rfl, Nat.le_of_ble_eq_true rfl⟩ (by decide +kernel) [.int q6.1] (c_X6_refuse cy kb kn kf rK rf rg rpd rpn sK sf sg spd spn q4.2.1 q4.2.2 nc nm pd pn vo vd vs tl tb eo et ed em ef ez ek es en fi (-1000002 : Int32) q6 hq6) rfl rfl (Nat.le_of_ble_eq_true rfl) ⟨rfl, rfl⟩ rfl ?_
        have h := Option.some.inj h
        subst h
        exact G_iret C hR (by decide +kernel)
    · rw [if_neg c] at h
      refine G_r C [(.aload_n 0, 1, 0, 0, .null)] 18 [(0, .ref 0), (1, .int x1), (2, .int x2), (3, .int x3)] [.ref 0] (wSR cy kb kn kf rK rf rg rpd rpn sK sf sg spd spn mc mm nc nm pd pn vo vd vs tl tb eo et ed em ef ez ek es en fi) (by decide +kernel) rfl rfl ?_
      refine G_ldc C co_6_105 (by decide +kernel) ?_
      obtain ⟨q7, hq7, h⟩ := obd h
      refine G_c0 C lk_6_73 ⟨Nat.le_of_ble_eq_true rfl, Nat.le_of_ble_eq_true rfl⟩ (by decide +kernel) [.int q7.1] (c_X6_refuse cy kb kn kf rK rf rg rpd rpn sK sf sg spd spn mc mm nc nm pd pn vo vd vs tl tb eo et ed em ef ez ek es en fi (-1000001 : Int32) q7 hq7) rfl rfl (Nat.le_of_ble_eq_true rfl) ⟨rfl, rfl⟩ rfl ?_
      have h := Option.some.inj h
      subst h
      exact G_iret C hR (by decide +kernel)
def f_X6_enclose_L48 : Nat → Int32 → Int32 → Int32 → Int32 → Int32 → Int32 → (Nat → Int64) → Option Int32
  | 0, _, _, _, _, _, _, _ => none
  | fu + 1, x1, x2, x3, x4, x5, x6, mm => if (16 : Int32) ≤ x6 then (some x4) else (if (x5 - x4) ≤ (1 : Int32) then (some x4) else (if (2 : Int32) = 0 then none else (f_X0_zerosBelow x1 (x4 + ((x5 - x4) / (2 : Int32))) x3 mm).bind fun q3 => if x2 < q3 then (f_X6_enclose_L48 fu x1 x2 x3 x4 (x4 + ((x5 - x4) / (2 : Int32))) (x6 + (1 : Int32)) mm) else (f_X6_enclose_L48 fu x1 x2 x3 (x4 + ((x5 - x4) / (2 : Int32))) x5 (x6 + (1 : Int32)) mm)))
def f_X6_enclose (x1 : Int32) (x2 : Int32) (x3 : Int32) (mm : Nat → Int64) : Option Int32 := (f_X0_zerosBelow x1 ((-99 : Int32) * x3) x3 mm).bind fun q1 => if x2 < q1 then (some (-1000000 : Int32)) else ((f_X0_zerosBelow x1 ((99 : Int32) * x3) x3 mm).bind fun q2 => if x2 < q2 then ((f_X6_enclose_L48 200 x1 x2 x3 ((-99 : Int32) * x3) ((99 : Int32) * x3) (0 : Int32) mm).bind fun q4 => some q4) else (some (-1000000 : Int32)))
set_option maxHeartbeats 4000000 in
set_option maxRecDepth 100000 in
theorem g_X6_enclose_L48 {k : KX} {cy : Nat → ClassId} (C : OK k cX6_enclose 6 8 cy 4 101) : ∀ (fu : Nat) (x1 : Int32) (x2 : Int32) (x3 : Int32) (x4 : Int32) (x5 : Int32) (x6 : Int32) (kb : Int32) (kn : Int32) (kf : Int32) (rK : Int32) (rf : Nat → Int32) (rg : Nat → Int64) (rpd : Int32) (rpn : Nat → Int64) (sK : Int32) (sf : Nat → Int32) (sg : Nat → Int64) (spd : Int32) (spn : Nat → Int64) (mc : Int32) (mm : Nat → Int64) (nc : Int32) (nm : Nat → Int64) (pd : Int32) (pn : Nat → Int64) (vo : Int32) (vd : Int32) (vs : Nat → Int32) (tl : Int32) (tb : Nat → Int32) (eo : Int32) (et : Int32) (ed : Int32) (em : Bool) (ef : Int32) (ez : Int32) (ek : Nat → Int32) (es : Nat → Int32) (en : Nat → Int32) (fi : Nat → Int32) (res : Int32), (f_X6_enclose_L48 fu x1 x2 x3 x4 x5 x6 mm = some res) → G k 8 108 [(4, .int res)] [] (wSR cy kb kn kf rK rf rg rpd rpn sK sf sg spd spn mc mm nc nm pd pn vo vd vs tl tb eo et ed em ef ez ek es en fi) → G k 8 48 [(0, .ref 0), (1, .int x1), (2, .int x2), (3, .int x3), (4, .int x4), (5, .int x5), (6, .int x6)] [] (wSR cy kb kn kf rK rf rg rpd rpn sK sf sg spd spn mc mm nc nm pd pn vo vd vs tl tb eo et ed em ef ez ek es en fi) := by
  intro fu
  induction fu with
  | zero =>
    intro x1 x2 x3 x4 x5 x6 kb kn kf rK rf rg rpd rpn sK sf sg spd spn mc mm nc nm pd pn vo vd vs tl tb eo et ed em ef ez ek es en fi res h hex
    rw [f_X6_enclose_L48] at h
    cases h
  | succ fu ih =>
    intro x1 x2 x3 x4 x5 x6 kb kn kf rK rf rg rpd rpn sK sf sg spd spn mc mm nc nm pd pn vo vd vs tl tb eo et ed em ef ez ek es en fi res h hex
    rw [f_X6_enclose_L48] at h
    refine G_r C [(.iload 6, 2, 0, 0, .null), (.bipush 16, 2, 0, 0, .int (16 : Int32))] 52 [(0, .ref 0), (1, .int x1), (2, .int x2), (3, .int x3), (4, .int x4), (5, .int x5), (6, .int x6)] [.int (16 : Int32), .int x6] (wSR cy kb kn kf rK rf rg rpd rpn sK sf sg spd spn mc mm nc nm pd pn vo vd vs tl tb eo et ed em ef ez ek es en fi) (by decide +kernel) rfl rfl ?_
    refine G_icmp_ge C (off := 56) (tgt := 108) (by decide +kernel) rfl (fun c => ?_) (fun c => ?_)
    · rw [if_pos c] at h
      have h := Option.some.inj h
      subst h
      refine G_lv [4] (lv' := [(4, .int x4)]) rfl ?_
      exact hex
    · rw [if_neg c] at h
      refine G_r C [(.iload 5, 2, 0, 0, .null), (.iload 4, 2, 0, 0, .null), (.isub, 1, 0, 0, .null), (.iconst 1, 1, 0, 0, .int (1 : Int32))] 61 [(0, .ref 0), (1, .int x1), (2, .int x2), (3, .int x3), (4, .int x4), (5, .int x5), (6, .int x6)] [.int (1 : Int32), .int (x5 - x4)] (wSR cy kb kn kf rK rf rg rpd rpn sK sf sg spd spn mc mm nc nm pd pn vo vd vs tl tb eo et ed em ef ez ek es en fi) (by decide +kernel) rfl rfl ?_
      refine G_icmp_le C (off := 47) (tgt := 108) (by decide +kernel) rfl (fun c => ?_) (fun c => ?_)
      · rw [if_pos c] at h
        have h := Option.some.inj h
        subst h
        refine G_lv [4] (lv' := [(4, .int x4)]) rfl ?_
        exact hex
      · rw [if_neg c] at h
        refine G_r C [(.iload 4, 2, 0, 0, .null), (.iload 5, 2, 0, 0, .null), (.iload 4, 2, 0, 0, .null), (.isub, 1, 0, 0, .null), (.iconst 2, 1, 0, 0, .int (2 : Int32))] 72 [(0, .ref 0), (1, .int x1), (2, .int x2), (3, .int x3), (4, .int x4), (5, .int x5), (6, .int x6)] [.int (2 : Int32), .int (x5 - x4), .int x4] (wSR cy kb kn kf rK rf rg rpd rpn sK sf sg spd spn mc mm nc nm pd pn vo vd vs tl tb eo et ed em ef ez ek es en fi) (by decide +kernel) rfl rfl ?_
        obtain ⟨cg, h⟩ := oob h
        refine G_idiv C (by decide +kernel) cg ?_
        refine G_r C [(.iadd, 1, 0, 0, .null), (.istore 7, 2, 0, 0, .null), (.aload_n 0, 1, 0, 0, .null), (.getfield 22, 3, 6, 2, .null), (.iload_n 1, 1, 0, 0, .null), (.iload 7, 2, 0, 0, .null), (.iload_n 3, 1, 0, 0, .null)] 84 [(7, .int (x4 + ((x5 - x4) / (2 : Int32)))), (0, .ref 0), (1, .int x1), (2, .int x2), (3, .int x3), (4, .int x4), (5, .int x5), (6, .int x6)] [.int x3, .int (x4 + ((x5 - x4) / (2 : Int32))), .int x1, .ref 11] (wSR cy kb kn kf rK rf rg rpd rpn sK sf sg spd spn mc mm nc nm pd pn vo vd vs tl tb eo et ed em ef ez ek es en fi) (by decide +kernel) rfl rfl ?_
        obtain ⟨q3, hq3, h⟩ := obd h
        refine G_cV C lk_6_151 ⟨Nat.le_of_ble_eq_true rfl, Nat.le_of_ble_eq_true rfl⟩ (by decide +kernel) [11, 12] [.int q3] (wSR cy kb kn kf rK rf rg rpd rpn sK sf sg spd spn mc mm nc nm pd pn vo vd vs tl tb eo et ed em ef ez ek es en fi) (c_X0_zerosBelow cy mc mm x1 (x4 + ((x5 - x4) / (2 : Int32))) x3 q3 hq3) rfl rfl (Nat.le_of_ble_eq_true rfl) rfl rfl ⟨rfl, rfl⟩ rfl rfl rfl ?_
        refine G_r C [(.iload_n 2, 1, 0, 0, .null)] 88 [(7, .int (x4 + ((x5 - x4) / (2 : Int32)))), (0, .ref 0), (1, .int x1), (2, .int x2), (3, .int x3), (4, .int x4), (5, .int x5), (6, .int x6)] [.int x2, .int q3] (wSR cy kb kn kf rK rf rg rpd rpn sK sf sg spd spn mc mm nc nm pd pn vo vd vs tl tb eo et ed em ef ez ek es en fi) (by decide +kernel) rfl rfl ?_
        refine G_icmp_gt C (off := 10) (tgt := 98) (by decide +kernel) rfl (fun c => ?_) (fun c => ?_)
        · rw [if_pos c] at h
          refine G_r C [(.iload 7, 2, 0, 0, .null), (.istore 5, 2, 0, 0, .null), (.iinc 6 1, 3, 0, 0, .int (1 : Int32))] 105 [(6, .int (x6 + (1 : Int32))), (5, .int (x4 + ((x5 - x4) / (2 : Int32)))), (7, .int (x4 + ((x5 - x4) / (2 : Int32)))), (0, .ref 0), (1, .int x1), (2, .int x2), (3, .int x3), (4, .int x4)] [] (wSR cy kb kn kf rK rf rg rpd rpn sK sf sg spd spn mc mm nc nm pd pn vo vd vs tl tb eo et ed em ef ez ek es en fi) (by decide +kernel) rfl rfl ?_
          refine G_goto C (off := -57) (tgt := 48) (by decide +kernel) rfl ?_
          refine G_lv [3, 4, 5, 6, 7, 1, 0] (lv' := [(0, .ref 0), (1, .int x1), (2, .int x2), (3, .int x3), (4, .int x4), (5, .int (x4 + ((x5 - x4) / (2 : Int32)))), (6, .int (x6 + (1 : Int32)))]) rfl ?_
          exact ih x1 x2 x3 x4 (x4 + ((x5 - x4) / (2 : Int32))) (x6 + (1 : Int32)) kb kn kf rK rf rg rpd rpn sK sf sg spd spn mc mm nc nm pd pn vo vd vs tl tb eo et ed em ef ez ek es en fi res h hex
        · rw [if_neg c] at h
          refine G_r C [(.iload 7, 2, 0, 0, .null), (.istore 4, 2, 0, 0, .null)] 95 [(4, .int (x4 + ((x5 - x4) / (2 : Int32)))), (7, .int (x4 + ((x5 - x4) / (2 : Int32)))), (0, .ref 0), (1, .int x1), (2, .int x2), (3, .int x3), (5, .int x5), (6, .int x6)] [] (wSR cy kb kn kf rK rf rg rpd rpn sK sf sg spd spn mc mm nc nm pd pn vo vd vs tl tb eo et ed em ef ez ek es en fi) (by decide +kernel) rfl rfl ?_
          refine G_goto C (off := 7) (tgt := 102) (by decide +kernel) rfl ?_
          refine G_r C [(.iinc 6 1, 3, 0, 0, .int (1 : Int32))] 105 [(6, .int (x6 + (1 : Int32))), (4, .int (x4 + ((x5 - x4) / (2 : Int32)))), (7, .int (x4 + ((x5 - x4) / (2 : Int32)))), (0, .ref 0), (1, .int x1), (2, .int x2), (3, .int x3), (5, .int x5)] [] (wSR cy kb kn kf rK rf rg rpd rpn sK sf sg spd spn mc mm nc nm pd pn vo vd vs tl tb eo et ed em ef ez ek es en fi) (by decide +kernel) rfl rfl ?_
          refine G_goto C (off := -57) (tgt := 48) (by decide +kernel) rfl ?_
          refine G_lv [3, 4, 5, 6, 1, 7, 0] (lv' := [(0, .ref 0), (1, .int x1), (2, .int x2), (3, .int x3), (4, .int (x4 + ((x5 - x4) / (2 : Int32)))), (5, .int x5), (6, .int (x6 + (1 : Int32)))]) rfl ?_
          exact ih x1 x2 x3 (x4 + ((x5 - x4) / (2 : Int32))) x5 (x6 + (1 : Int32)) kb kn kf rK rf rg rpd rpn sK sf sg spd spn mc mm nc nm pd pn vo vd vs tl tb eo et ed em ef ez ek es en fi res h hex
set_option maxHeartbeats 4000000 in
set_option maxRecDepth 100000 in
theorem c_X6_enclose (cy : Nat → ClassId) (kb : Int32) (kn : Int32) (kf : Int32) (rK : Int32) (rf : Nat → Int32) (rg : Nat → Int64) (rpd : Int32) (rpn : Nat → Int64) (sK : Int32) (sf : Nat → Int32) (sg : Nat → Int64) (spd : Int32) (spn : Nat → Int64) (mc : Int32) (mm : Nat → Int64) (nc : Int32) (nm : Nat → Int64) (pd : Int32) (pn : Nat → Int64) (vo : Int32) (vd : Int32) (vs : Nat → Int32) (tl : Int32) (tb : Nat → Int32) (eo : Int32) (et : Int32) (ed : Int32) (em : Bool) (ef : Int32) (ez : Int32) (ek : Nat → Int32) (es : Nat → Int32) (en : Nat → Int32) (fi : Nat → Int32) (x1 : Int32) (x2 : Int32) (x3 : Int32) (res : Int32) (h : f_X6_enclose x1 x2 x3 mm = some res) : MG cy yX6_enclose cX6_enclose 8 (some .int) 4 101 [.ref 0, .int x1, .int x2, .int x3] (wSR cy kb kn kf rK rf rg rpd rpn sK sf sg spd spn mc mm nc nm pd pn vo vd vs tl tb eo et ed em ef ez ek es en fi) (some (.int res)) (wSR cy kb kn kf rK rf rg rpd rpn sK sf sg spd spn mc mm nc nm pd pn vo vd vs tl tb eo et ed em ef ez ek es en fi) := by
  refine MG_of (o := 6) (lv := [(0, .ref 0), (1, .int x1), (2, .int x2), (3, .int x3)]) ⟨by decide +kernel, rfl⟩ (Nat.le_of_ble_eq_true rfl) rfl (fun k C hR => ?_)
  rw [f_X6_enclose] at h
  refine G_r C [(.bipush (-99), 2, 0, 0, .int (-99 : Int32)), (.iload_n 3, 1, 0, 0, .null), (.imul, 1, 0, 0, .null), (.istore 4, 2, 0, 0, .null), (.bipush 99, 2, 0, 0, .int (99 : Int32)), (.iload_n 3, 1, 0, 0, .null), (.imul, 1, 0, 0, .null), (.istore 5, 2, 0, 0, .null), (.aload_n 0, 1, 0, 0, .null), (.getfield 22, 3, 6, 2, .null), (.iload_n 1, 1, 0, 0, .null), (.iload 4, 2, 0, 0, .null), (.iload_n 3, 1, 0, 0, .null)] 20 [(5, .int ((99 : Int32) * x3)), (4, .int ((-99 : Int32) * x3)), (0, .ref 0), (1, .int x1), (2, .int x2), (3, .int x3)] [.int x3, .int ((-99 : Int32) * x3), .int x1, .ref 11] (wSR cy kb kn kf rK rf rg rpd rpn sK sf sg spd spn mc mm nc nm pd pn vo vd vs tl tb eo et ed em ef ez ek es en fi) (by decide +kernel) rfl rfl ?_
  obtain ⟨q1, hq1, h⟩ := obd h
  refine G_cV C lk_6_151 ⟨Nat.le_of_ble_eq_true rfl, Nat.le_of_ble_eq_true rfl⟩ (by decide +kernel) [11, 12] [.int q1] (wSR cy kb kn kf rK rf rg rpd rpn sK sf sg spd spn mc mm nc nm pd pn vo vd vs tl tb eo et ed em ef ez ek es en fi) (c_X0_zerosBelow cy mc mm x1 ((-99 : Int32) * x3) x3 q1 hq1) rfl rfl (Nat.le_of_ble_eq_true rfl) rfl rfl ⟨rfl, rfl⟩ rfl rfl rfl ?_
  refine G_r C [(.iload_n 2, 1, 0, 0, .null)] 24 [(5, .int ((99 : Int32) * x3)), (4, .int ((-99 : Int32) * x3)), (0, .ref 0), (1, .int x1), (2, .int x2), (3, .int x3)] [.int x2, .int q1] (wSR cy kb kn kf rK rf rg rpd rpn sK sf sg spd spn mc mm nc nm pd pn vo vd vs tl tb eo et ed em ef ez ek es en fi) (by decide +kernel) rfl rfl ?_
  refine G_icmp_gt C (off := 18) (tgt := 42) (by decide +kernel) rfl (fun c => ?_) (fun c => ?_)
  · rw [if_pos c] at h
    refine G_ldc C co_6_235 (by decide +kernel) ?_
    have h := Option.some.inj h
    subst h
    exact G_iret C hR (by decide +kernel)
  · rw [if_neg c] at h
    refine G_r C [(.aload_n 0, 1, 0, 0, .null), (.getfield 22, 3, 6, 2, .null), (.iload_n 1, 1, 0, 0, .null), (.iload 5, 2, 0, 0, .null), (.iload_n 3, 1, 0, 0, .null)] 35 [(5, .int ((99 : Int32) * x3)), (4, .int ((-99 : Int32) * x3)), (0, .ref 0), (1, .int x1), (2, .int x2), (3, .int x3)] [.int x3, .int ((99 : Int32) * x3), .int x1, .ref 11] (wSR cy kb kn kf rK rf rg rpd rpn sK sf sg spd spn mc mm nc nm pd pn vo vd vs tl tb eo et ed em ef ez ek es en fi) (by decide +kernel) rfl rfl ?_
    obtain ⟨q2, hq2, h⟩ := obd h
    refine G_cV C lk_6_151 ⟨Nat.le_of_ble_eq_true rfl, Nat.le_of_ble_eq_true rfl⟩ (by decide +kernel) [11, 12] [.int q2] (wSR cy kb kn kf rK rf rg rpd rpn sK sf sg spd spn mc mm nc nm pd pn vo vd vs tl tb eo et ed em ef ez ek es en fi) (c_X0_zerosBelow cy mc mm x1 ((99 : Int32) * x3) x3 q2 hq2) rfl rfl (Nat.le_of_ble_eq_true rfl) rfl rfl ⟨rfl, rfl⟩ rfl rfl rfl ?_
    refine G_r C [(.iload_n 2, 1, 0, 0, .null)] 39 [(5, .int ((99 : Int32) * x3)), (4, .int ((-99 : Int32) * x3)), (0, .ref 0), (1, .int x1), (2, .int x2), (3, .int x3)] [.int x2, .int q2] (wSR cy kb kn kf rK rf rg rpd rpn sK sf sg spd spn mc mm nc nm pd pn vo vd vs tl tb eo et ed em ef ez ek es en fi) (by decide +kernel) rfl rfl ?_
    refine G_icmp_gt C (off := 6) (tgt := 45) (by decide +kernel) rfl (fun c => ?_) (fun c => ?_)
    · rw [if_pos c] at h
      refine G_r C [(.iconst 0, 1, 0, 0, .int (0 : Int32)), (.istore 6, 2, 0, 0, .null)] 48 [(6, .int (0 : Int32)), (5, .int ((99 : Int32) * x3)), (4, .int ((-99 : Int32) * x3)), (0, .ref 0), (1, .int x1), (2, .int x2), (3, .int x3)] [] (wSR cy kb kn kf rK rf rg rpd rpn sK sf sg spd spn mc mm nc nm pd pn vo vd vs tl tb eo et ed em ef ez ek es en fi) (by decide +kernel) rfl rfl ?_
      obtain ⟨q4, hq4, h⟩ := obd h
      refine G_lv [3, 4, 5, 6, 2, 1, 0] (lv' := [(0, .ref 0), (1, .int x1), (2, .int x2), (3, .int x3), (4, .int ((-99 : Int32) * x3)), (5, .int ((99 : Int32) * x3)), (6, .int (0 : Int32))]) rfl ?_
      refine g_X6_enclose_L48 C 200 x1 x2 x3 ((-99 : Int32) * x3) ((99 : Int32) * x3) (0 : Int32) kb kn kf rK rf rg rpd rpn sK sf sg spd spn mc mm nc nm pd pn vo vd vs tl tb eo et ed em ef ez ek es en fi q4 hq4 ?_
      refine G_r C [(.iload 4, 2, 0, 0, .null)] 110 [(4, .int q4)] [.int q4] (wSR cy kb kn kf rK rf rg rpd rpn sK sf sg spd spn mc mm nc nm pd pn vo vd vs tl tb eo et ed em ef ez ek es en fi) (by decide +kernel) rfl rfl ?_
      have h := Option.some.inj h
      subst h
      exact G_iret C hR (by decide +kernel)
    · rw [if_neg c] at h
      refine G_ldc C co_6_235 (by decide +kernel) ?_
      have h := Option.some.inj h
      subst h
      exact G_iret C hR (by decide +kernel)
def f_X6_zero (x1 : Int32) (x2 : Int32) (x3 : Int32) (kb : Int32) (kn : Int32) (kf : Int32) (rK : Int32) (rf : Nat → Int32) (mc : Int32) (mm : Nat → Int64) : Option (Int32 × Int32 × Int32 × Int32 × Int32 × (Nat → Int64)) := (f_X6_isOutside x1 (1 : Int32) (3 : Int32)).bind fun q1 => if (bI q1) = 0 then ((f_X6_isOutside x2 (0 : Int32) (x1 - (1 : Int32))).bind fun q3 => if (bI q3) = 0 then ((f_X6_isOutside x3 (1 : Int32) (9 : Int32)).bind fun q5 => if (bI q5) = 0 then ((f_X6_findZeros x1 rK rf mm).bind fun q6 => if (bI q6.1) = 0 then ((f_X6_refuse (-1000002 : Int32) kb kn kf).bind fun q8 => some (q8.1, q8.2.1, q8.2.2.1, q8.2.2.2, q6.2.1, q6.2.2)) else ((f_X6_enclose x1 x2 x3 q6.2.2).bind fun q7 => some (q7, kb, kn, kf, q6.2.1, q6.2.2))) else ((f_X6_refuse (-1000001 : Int32) kb kn kf).bind fun q9 => some (q9.1, q9.2.1, q9.2.2.1, q9.2.2.2, mc, mm))) else ((f_X6_refuse (-1000001 : Int32) kb kn kf).bind fun q4 => some (q4.1, q4.2.1, q4.2.2.1, q4.2.2.2, mc, mm))) else ((f_X6_refuse (-1000001 : Int32) kb kn kf).bind fun q2 => some (q2.1, q2.2.1, q2.2.2.1, q2.2.2.2, mc, mm))
set_option maxHeartbeats 4000000 in
set_option maxRecDepth 100000 in
theorem c_X6_zero (cy : Nat → ClassId) (kb : Int32) (kn : Int32) (kf : Int32) (rK : Int32) (rf : Nat → Int32) (rg : Nat → Int64) (rpd : Int32) (rpn : Nat → Int64) (sK : Int32) (sf : Nat → Int32) (sg : Nat → Int64) (spd : Int32) (spn : Nat → Int64) (mc : Int32) (mm : Nat → Int64) (nc : Int32) (nm : Nat → Int64) (pd : Int32) (pn : Nat → Int64) (vo : Int32) (vd : Int32) (vs : Nat → Int32) (tl : Int32) (tb : Nat → Int32) (eo : Int32) (et : Int32) (ed : Int32) (em : Bool) (ef : Int32) (ez : Int32) (ek : Nat → Int32) (es : Nat → Int32) (en : Nat → Int32) (fi : Nat → Int32) (x1 : Int32) (x2 : Int32) (x3 : Int32) (res : (Int32 × Int32 × Int32 × Int32 × Int32 × (Nat → Int64))) (h : f_X6_zero x1 x2 x3 kb kn kf rK rf mc mm = some res) : MG cy yX6_zero cX6_zero 4 (some .int) 5 128 [.ref 0, .int x1, .int x2, .int x3] (wSR cy kb kn kf rK rf rg rpd rpn sK sf sg spd spn mc mm nc nm pd pn vo vd vs tl tb eo et ed em ef ez ek es en fi) (some (.int res.1)) (wSR cy res.2.1 res.2.2.1 res.2.2.2.1 rK rf rg rpd rpn sK sf sg spd spn res.2.2.2.2.1 res.2.2.2.2.2 nc nm pd pn vo vd vs tl tb eo et ed em ef ez ek es en fi) := by
  refine MG_of (o := 6) (lv := [(0, .ref 0), (1, .int x1), (2, .int x2), (3, .int x3)]) ⟨by decide +kernel, rfl⟩ (Nat.le_of_ble_eq_true rfl) rfl (fun k C hR => ?_)
  rw [f_X6_zero] at h
  refine G_r C [(.iload_n 1, 1, 0, 0, .null), (.iconst 1, 1, 0, 0, .int (1 : Int32)), (.iconst 3, 1, 0, 0, .int (3 : Int32))] 3 [(0, .ref 0), (1, .int x1), (2, .int x2), (3, .int x3)] [.int (3 : Int32), .int (1 : Int32), .int x1] (wSR cy kb kn kf rK rf rg rpd rpn sK sf sg spd spn mc mm nc nm pd pn vo vd vs tl tb eo et ed em ef ez ek es en fi) (by decide +kernel) rfl rfl ?_
  obtain ⟨q1, hq1, h⟩ := obd h
  refine G_cS C lk_6_101 ⟨Nat.le_of_ble_eq_true rfl, Nat.le_of_ble_eq_true rfl⟩ (by decide +kernel) [.int (bI q1)] (c_X6_isOutside cy x1 (1 : Int32) (3 : Int32) q1 hq1) rfl rfl (Nat.le_of_ble_eq_true rfl) rfl ?_
  refine G_if_ne C (off := 24) (tgt := 30) (by decide +kernel) rfl (fun c => ?_) (fun c => ?_)
  · rw [if_neg c] at h
    refine G_r C [(.aload_n 0, 1, 0, 0, .null)] 31 [(0, .ref 0), (1, .int x1), (2, .int x2), (3, .int x3)] [.ref 0] (wSR cy kb kn kf rK rf rg rpd rpn sK sf sg spd spn mc mm nc nm pd pn vo vd vs tl tb eo et ed em ef ez ek es en fi) (by decide +kernel) rfl rfl ?_
    refine G_ldc C co_6_105 (by decide +kernel) ?_
    obtain ⟨q2, hq2, h⟩ := obd h
    refine G_c0 C lk_6_73 ⟨Nat.le_of_ble_eq_true rfl, Nat.le_of_ble_eq_true rfl⟩ (by decide +kernel) [.int q2.1] (c_X6_refuse cy kb kn kf rK rf rg rpd rpn sK sf sg spd spn mc mm nc nm pd pn vo vd vs tl tb eo et ed em ef ez ek es en fi (-1000001 : Int32) q2 hq2) rfl rfl (Nat.le_of_ble_eq_true rfl) ⟨rfl, rfl⟩ rfl ?_
    have h := Option.some.inj h
    subst h
    exact G_iret C hR (by decide +kernel)
  · rw [if_pos c] at h
    refine G_r C [(.iload_n 2, 1, 0, 0, .null), (.iconst 0, 1, 0, 0, .int (0 : Int32)), (.iload_n 1, 1, 0, 0, .null), (.iconst 1, 1, 0, 0, .int (1 : Int32)), (.isub, 1, 0, 0, .null)] 14 [(0, .ref 0), (1, .int x1), (2, .int x2), (3, .int x3)] [.int (x1 - (1 : Int32)), .int (0 : Int32), .int x2] (wSR cy kb kn kf rK rf rg rpd rpn sK sf sg spd spn mc mm nc nm pd pn vo vd vs tl tb eo et ed em ef ez ek es en fi) (by decide +kernel) rfl rfl ?_
    obtain ⟨q3, hq3, h⟩ := obd h
    refine G_cS C lk_6_101 ⟨Nat.le_of_ble_eq_true rfl, Nat.le_of_ble_eq_true rfl⟩ (by decide +kernel) [.int (bI q3)] (c_X6_isOutside cy x2 (0 : Int32) (x1 - (1 : Int32)) q3 hq3) rfl rfl (Nat.le_of_ble_eq_true rfl) rfl ?_
    refine G_if_ne C (off := 13) (tgt := 30) (by decide +kernel) rfl (fun c => ?_) (fun c => ?_)
    · rw [if_neg c] at h
      refine G_r C [(.aload_n 0, 1, 0, 0, .null)] 31 [(0, .ref 0), (1, .int x1), (2, .int x2), (3, .int x3)] [.ref 0] (wSR cy kb kn kf rK rf rg rpd rpn sK sf sg spd spn mc mm nc nm pd pn vo vd vs tl tb eo et ed em ef ez ek es en fi) (by decide +kernel) rfl rfl ?_
      refine G_ldc C co_6_105 (by decide +kernel) ?_
      obtain ⟨q4, hq4, h⟩ := obd h
      refine G_c0 C lk_6_73 ⟨Nat.le_of_ble_eq_true rfl, Nat.le_of_ble_eq_true rfl⟩ (by decide +kernel) [.int q4.1] (c_X6_refuse cy kb kn kf rK rf rg rpd rpn sK sf sg spd spn mc mm nc nm pd pn vo vd vs tl tb eo et ed em ef ez ek es en fi (-1000001 : Int32) q4 hq4) rfl rfl (Nat.le_of_ble_eq_true rfl) ⟨rfl, rfl⟩ rfl ?_
      have h := Option.some.inj h
      subst h
      exact G_iret C hR (by decide +kernel)
    · rw [if_pos c] at h
      refine G_r C [(.iload_n 3, 1, 0, 0, .null), (.iconst 1, 1, 0, 0, .int (1 : Int32)), (.bipush 9, 2, 0, 0, .int (9 : Int32))] 24 [(0, .ref 0), (1, .int x1), (2, .int x2), (3, .int x3)] [.int (9 : Int32), .int (1 : Int32), .int x3] (wSR cy kb kn kf rK rf rg rpd rpn sK sf sg spd spn mc mm nc nm pd pn vo vd vs tl tb eo et ed em ef ez ek es en fi) (by decide +kernel) rfl rfl ?_
      obtain ⟨q5, hq5, h⟩ := obd h
      refine G_cS C lk_6_101 ⟨Nat.le_of_ble_eq_true rfl, Nat.le_of_ble_eq_true rfl⟩ (by decide +kernel) [.int (bI q5)] (c_X6_isOutside cy x3 (1 : Int32) (9 : Int32) q5 hq5) rfl rfl (Nat.le_of_ble_eq_true rfl) rfl ?_
      refine G_if_eq C (off := 10) (tgt := 37) (by decide +kernel) rfl (fun c => ?_) (fun c => ?_)
      · rw [if_pos c] at h
        refine G_r C [(.aload_n 0, 1, 0, 0, .null), (.iload_n 1, 1, 0, 0, .null)] 39 [(0, .ref 0), (1, .int x1), (2, .int x2), (3, .int x3)] [.int x1, .ref 0] (wSR cy kb kn kf rK rf rg rpd rpn sK sf sg spd spn mc mm nc nm pd pn vo vd vs tl tb eo et ed em ef ez ek es en fi) (by decide +kernel) rfl rfl ?_
        obtain ⟨q6, hq6, h⟩ := obd h
        refine G_c0 C lk_6_148 ⟨Nat.le_of_ble_eq_true rfl, Nat.le_of_ble_eq_true rfl⟩ (by decide +kernel) [.int (bI q6.1)] (c_X6_findZeros cy kb kn kf rK rf rg rpd rpn sK sf sg spd spn mc mm nc nm pd pn vo vd vs tl tb eo et ed em ef ez ek es en fi x1 q6 hq6) rfl rfl (Nat.le_of_ble_eq_true rfl) ⟨rfl, rfl⟩ rfl ?_
        refine G_if_ne C (off := 10) (tgt := 52) (by decide +kernel) rfl (fun c => ?_) (fun c => ?_)
        · rw [if_neg c] at h
          refine G_r C [(.aload_n 0, 1, 0, 0, .null), (.iload_n 1, 1, 0, 0, .null), (.iload_n 2, 1, 0, 0, .null), (.iload_n 3, 1, 0, 0, .null)] 56 [(0, .ref 0), (1, .int x1), (2, .int x2), (3, .int x3)] [.int x3, .int x2, .int x1, .ref 0] (wSR cy kb kn kf rK rf rg rpd rpn sK sf sg spd spn q6.2.1 q6.2.2 nc nm pd pn vo vd vs tl tb eo et ed em ef ez ek es en fi) (by decide +kernel) rfl rfl ?_
          obtain ⟨q7, hq7, h⟩ := obd h
          refine G_c0 C lk_6_155 ⟨Nat.le_of_ble_eq_true rfl, Nat.le_of_ble_eq_true rfl⟩ (by decide +kernel) [.int q7] (c_X6_enclose cy kb kn kf rK rf rg rpd rpn sK sf sg spd spn q6.2.1 q6.2.2 nc nm pd pn vo vd vs tl tb eo et ed em ef ez ek es en fi x1 x2 x3 q7 hq7) rfl rfl (Nat.le_of_ble_eq_true rfl) ⟨rfl, rfl⟩ rfl ?_
          have h := Option.some.inj h
          subst h
          exact G_iret C hR (by decide +kernel)
        · rw [if_pos c] at h
          refine G_r C [(.aload_n 0, 1, 0, 0, .null)] 46 [(0, .ref 0), (1, .int x1), (2, .int x2), (3, .int x3)] [.ref 0] (wSR cy kb kn kf rK rf rg rpd rpn sK sf sg spd spn q6.2.1 q6.2.2 nc nm pd pn vo vd vs tl tb eo et ed em ef ez ek es en fi) (by decide +kernel) rfl rfl ?_
          refine G_ldc C co_6_110 (by decide +kernel) ?_
          obtain ⟨q8, hq8, h⟩ := obd h
          refine G_c0 C lk_6_73 ⟨Nat.le_of_ble_eq_true rfl, Nat.le_of_ble_eq_true rfl⟩ (by decide +kernel) [.int q8.1] (c_X6_refuse cy kb kn kf rK rf rg rpd rpn sK sf sg spd spn q6.2.1 q6.2.2 nc nm pd pn vo vd vs tl tb eo et ed em ef ez ek es en fi (-1000002 : Int32) q8 hq8) rfl rfl (Nat.le_of_ble_eq_true rfl) ⟨rfl, rfl⟩ rfl ?_
          have h := Option.some.inj h
          subst h
          exact G_iret C hR (by decide +kernel)
      · rw [if_neg c] at h
        refine G_r C [(.aload_n 0, 1, 0, 0, .null)] 31 [(0, .ref 0), (1, .int x1), (2, .int x2), (3, .int x3)] [.ref 0] (wSR cy kb kn kf rK rf rg rpd rpn sK sf sg spd spn mc mm nc nm pd pn vo vd vs tl tb eo et ed em ef ez ek es en fi) (by decide +kernel) rfl rfl ?_
        refine G_ldc C co_6_105 (by decide +kernel) ?_
        obtain ⟨q9, hq9, h⟩ := obd h
        refine G_c0 C lk_6_73 ⟨Nat.le_of_ble_eq_true rfl, Nat.le_of_ble_eq_true rfl⟩ (by decide +kernel) [.int q9.1] (c_X6_refuse cy kb kn kf rK rf rg rpd rpn sK sf sg spd spn mc mm nc nm pd pn vo vd vs tl tb eo et ed em ef ez ek es en fi (-1000001 : Int32) q9 hq9) rfl rfl (Nat.le_of_ble_eq_true rfl) ⟨rfl, rfl⟩ rfl ?_
        have h := Option.some.inj h
        subst h
        exact G_iret C hR (by decide +kernel)
def f_X6_isNoSet (x0 : Int32) : Option Bool := (f_X6_isOutside x0 (1 : Int32) (524287 : Int32)).bind fun q1 => if (bI q1) = 0 then ((f_J6_bitCount_0f7a4 x0).bind fun q2 => if q2 ≤ (7 : Int32) then (some false) else (some true)) else (some true)
set_option maxHeartbeats 4000000 in
set_option maxRecDepth 100000 in
theorem c_X6_isNoSet (cy : Nat → ClassId)  (x0 : Int32) (res : Bool) (h : f_X6_isNoSet x0 = some res) : MG cy yX6_isNoSet cX6_isNoSet 1 (some .boolean) 1 22 [.int x0] [] (some (.int (bI res))) [] := by
  refine MG_of (o := 6) (lv := [(0, .int x0)]) ⟨by decide +kernel, rfl⟩ (Nat.le_of_ble_eq_true rfl) rfl (fun k C hR => ?_)
  rw [f_X6_isNoSet] at h
  refine G_r C [(.iload_n 0, 1, 0, 0, .null), (.iconst 1, 1, 0, 0, .int (1 : Int32))] 2 [(0, .int x0)] [.int (1 : Int32), .int x0] [] (by decide +kernel) rfl rfl ?_
  refine G_ldc C co_6_247 (by decide +kernel) ?_
  obtain ⟨q1, hq1, h⟩ := obd h
  refine G_cS C lk_6_101 ⟨Nat.le_of_ble_eq_true rfl, Nat.le_of_ble_eq_true rfl⟩ (by decide +kernel) [.int (bI q1)] (c_X6_isOutside cy x0 (1 : Int32) (524287 : Int32) q1 hq1) rfl rfl (Nat.le_of_ble_eq_true rfl) rfl ?_
  refine G_if_ne C (off := 12) (tgt := 19) (by decide +kernel) rfl (fun c => ?_) (fun c => ?_)
  · rw [if_neg c] at h
    refine G_r C [(.iconst 1, 1, 0, 0, .int (1 : Int32))] 20 [(0, .int x0)] [.int (1 : Int32)] [] (by decide +kernel) rfl rfl ?_
    refine G_goto C (off := 4) (tgt := 24) (by decide +kernel) rfl ?_
    have h := Option.some.inj h
    subst h
    exact G_zret C (v := true) hR (by decide +kernel)
  · rw [if_pos c] at h
    refine G_r C [(.iload_n 0, 1, 0, 0, .null)] 11 [(0, .int x0)] [.int x0] [] (by decide +kernel) rfl rfl ?_
    obtain ⟨q2, hq2, h⟩ := obd h
    refine G_cS C lk_6_164 ⟨Nat.le_of_ble_eq_true rfl, Nat.le_of_ble_eq_true rfl⟩ (by decide +kernel) [.int q2] (c_J6_bitCount_0f7a4 cy x0 q2 hq2) rfl rfl (Nat.le_of_ble_eq_true rfl) rfl ?_
    refine G_r C [(.bipush 7, 2, 0, 0, .int (7 : Int32))] 16 [(0, .int x0)] [.int (7 : Int32), .int q2] [] (by decide +kernel) rfl rfl ?_
    refine G_icmp_le C (off := 7) (tgt := 23) (by decide +kernel) rfl (fun c => ?_) (fun c => ?_)
    · rw [if_pos c] at h
      refine G_r C [(.iconst 0, 1, 0, 0, .int (0 : Int32))] 24 [(0, .int x0)] [.int (0 : Int32)] [] (by decide +kernel) rfl rfl ?_
      have h := Option.some.inj h
      subst h
      exact G_zret C (v := false) hR (by decide +kernel)
    · rw [if_neg c] at h
      refine G_r C [(.iconst 1, 1, 0, 0, .int (1 : Int32))] 20 [(0, .int x0)] [.int (1 : Int32)] [] (by decide +kernel) rfl rfl ?_
      refine G_goto C (off := 4) (tgt := 24) (by decide +kernel) rfl ?_
      have h := Option.some.inj h
      subst h
      exact G_zret C (v := true) hR (by decide +kernel)
def f_X6_bitOf (x0 : Int32) : Option Int32 := some ((1 : Int32) <<< ((x0 + (9 : Int32)) &&& 31))
set_option maxHeartbeats 4000000 in
set_option maxRecDepth 100000 in
theorem c_X6_bitOf (cy : Nat → ClassId)  (x0 : Int32) (res : Int32) (h : f_X6_bitOf x0 = some res) : MG cy yX6_bitOf cX6_bitOf 1 (some .int) 0 0 [.int x0] [] (some (.int res)) [] := by
  refine MG_of (o := 6) (lv := [(0, .int x0)]) ⟨by decide +kernel, rfl⟩ (Nat.le_of_ble_eq_true rfl) rfl (fun k C hR => ?_)
  rw [f_X6_bitOf] at h
  refine G_r C [(.iconst 1, 1, 0, 0, .int (1 : Int32)), (.iload_n 0, 1, 0, 0, .null), (.bipush 9, 2, 0, 0, .int (9 : Int32)), (.iadd, 1, 0, 0, .null), (.ishl, 1, 0, 0, .null)] 6 [(0, .int x0)] [.int ((1 : Int32) <<< ((x0 + (9 : Int32)) &&& 31))] [] (by decide +kernel) rfl rfl ?_
  have h := Option.some.inj h
  subst h
  exact G_iret C hR (by decide +kernel)
def f_X1_vanishAt_L7 : Nat → Int32 → Int32 → Int32 → (Nat → Int64) → Option (Int32 × (Nat → Int64))
  | 0, _, _, _, _ => none
  | fu + 1, x1, x2, pd, pn => if (9 : Int32) < x2 then (some (pd, pn)) else ((f_X6_bitOf x2).bind fun q2 => if (x1 &&& q2) = 0 then (f_X1_vanishAt_L7 fu x1 (x2 + (1 : Int32)) pd pn) else ((f_X1_times (-x2) pd pn).bind fun q3 => f_X1_vanishAt_L7 fu x1 (x2 + (1 : Int32)) q3.1 q3.2))
def f_X1_vanishAt (x1 : Int32) (pn : Nat → Int64) : Option (Int32 × (Nat → Int64)) := (f_X1_begin pn).bind fun q1 => (f_X1_vanishAt_L7 200 x1 (-9 : Int32) q1.1 q1.2).bind fun q4 => some (q4.1, q4.2)
set_option maxHeartbeats 4000000 in
set_option maxRecDepth 100000 in
theorem g_X1_vanishAt_L7 {k : KX} {cy : Nat → ClassId} (C : OK k cX1_vanishAt 1 3 cy 2 43) : ∀ (fu : Nat) (x1 : Int32) (x2 : Int32) (pd : Int32) (pn : Nat → Int64) (res : (Int32 × (Nat → Int64))), (f_X1_vanishAt_L7 fu x1 x2 pd pn = some res) → G k 3 34 [] [] (wProd cy 0 res.1 res.2) → G k 3 7 [(0, .ref 0), (1, .int x1), (2, .int x2)] [] (wProd cy 0 pd pn) := by
  intro fu
  induction fu with
  | zero =>
    intro x1 x2 pd pn res h hex
    rw [f_X1_vanishAt_L7] at h
    cases h
  | succ fu ih =>
    intro x1 x2 pd pn res h hex
    rw [f_X1_vanishAt_L7] at h
    refine G_r C [(.iload_n 2, 1, 0, 0, .null), (.bipush 9, 2, 0, 0, .int (9 : Int32))] 10 [(0, .ref 0), (1, .int x1), (2, .int x2)] [.int (9 : Int32), .int x2] (wProd cy 0 pd pn) (by decide +kernel) rfl rfl ?_
    refine G_icmp_gt C (off := 24) (tgt := 34) (by decide +kernel) rfl (fun c => ?_) (fun c => ?_)
    · rw [if_pos c] at h
      have h := Option.some.inj h
      subst h
      refine G_lv [] (lv' := []) rfl ?_
      exact hex
    · rw [if_neg c] at h
      refine G_r C [(.iload_n 1, 1, 0, 0, .null), (.iload_n 2, 1, 0, 0, .null)] 15 [(0, .ref 0), (1, .int x1), (2, .int x2)] [.int x2, .int x1] (wProd cy 0 pd pn) (by decide +kernel) rfl rfl ?_
      obtain ⟨q2, hq2, h⟩ := obd h
      refine G_cN C lk_1_26 ⟨Nat.le_of_ble_eq_true rfl, Nat.le_of_ble_eq_true rfl⟩ (by decide +kernel) [.int q2, .int x1] (c_X6_bitOf cy x2 q2 hq2) rfl rfl (Nat.le_of_ble_eq_true rfl) rfl ?_
      refine G_r C [(.iand, 1, 0, 0, .null)] 19 [(0, .ref 0), (1, .int x1), (2, .int x2)] [.int (x1 &&& q2)] (wProd cy 0 pd pn) (by decide +kernel) rfl rfl ?_
      refine G_if_eq C (off := 9) (tgt := 28) (by decide +kernel) rfl (fun c => ?_) (fun c => ?_)
      · rw [if_pos c] at h
        refine G_r C [(.iinc 2 1, 3, 0, 0, .int (1 : Int32))] 31 [(2, .int (x2 + (1 : Int32))), (0, .ref 0), (1, .int x1)] [] (wProd cy 0 pd pn) (by decide +kernel) rfl rfl ?_
        refine G_goto C (off := -24) (tgt := 7) (by decide +kernel) rfl ?_
        refine G_lv [1, 2, 0] (lv' := [(0, .ref 0), (1, .int x1), (2, .int (x2 + (1 : Int32)))]) rfl ?_
        exact ih x1 (x2 + (1 : Int32)) pd pn res h hex
      · rw [if_neg c] at h
        refine G_r C [(.aload_n 0, 1, 0, 0, .null), (.iload_n 2, 1, 0, 0, .null), (.ineg, 1, 0, 0, .null)] 25 [(0, .ref 0), (1, .int x1), (2, .int x2)] [.int (-x2), .ref 0] (wProd cy 0 pd pn) (by decide +kernel) rfl rfl ?_
        obtain ⟨q3, hq3, h⟩ := obd h
        refine G_c0 C lk_1_30 ⟨Nat.le_of_ble_eq_true rfl, Nat.le_of_ble_eq_true rfl⟩ (by decide +kernel) [] (c_X1_times cy pd pn (-x2) q3 hq3) rfl rfl (Nat.le_of_ble_eq_true rfl) ⟨rfl, rfl⟩ rfl ?_
        refine G_r C [(.iinc 2 1, 3, 0, 0, .int (1 : Int32))] 31 [(2, .int (x2 + (1 : Int32))), (0, .ref 0), (1, .int x1)] [] (wProd cy 0 q3.1 q3.2) (by decide +kernel) rfl rfl ?_
        refine G_goto C (off := -24) (tgt := 7) (by decide +kernel) rfl ?_
        refine G_lv [1, 2, 0] (lv' := [(0, .ref 0), (1, .int x1), (2, .int (x2 + (1 : Int32)))]) rfl ?_
        exact ih x1 (x2 + (1 : Int32)) q3.1 q3.2 res h hex
set_option maxHeartbeats 4000000 in
set_option maxRecDepth 100000 in
theorem c_X1_vanishAt (cy : Nat → ClassId) (pd : Int32) (pn : Nat → Int64) (x1 : Int32) (res : (Int32 × (Nat → Int64))) (h : f_X1_vanishAt x1 pn = some res) : MG cy yX1_vanishAt cX1_vanishAt 3 none 2 43 [.ref 0, .int x1] (wProd cy 0 pd pn) none (wProd cy 0 res.1 res.2) := by
  refine MG_of (o := 1) (lv := [(0, .ref 0), (1, .int x1)]) ⟨by decide +kernel, rfl⟩ (Nat.le_of_ble_eq_true rfl) rfl (fun k C hR => ?_)
  rw [f_X1_vanishAt] at h
  refine G_r C [(.aload_n 0, 1, 0, 0, .null)] 1 [(0, .ref 0), (1, .int x1)] [.ref 0] (wProd cy 0 pd pn) (by decide +kernel) rfl rfl ?_
  obtain ⟨q1, hq1, h⟩ := obd h
  refine G_c0 C lk_1_23 ⟨Nat.le_of_ble_eq_true rfl, Nat.le_of_ble_eq_true rfl⟩ (by decide +kernel) [] (c_X1_begin cy pd pn q1 hq1) rfl rfl (Nat.le_of_ble_eq_true rfl) ⟨rfl, rfl⟩ rfl ?_
  refine G_r C [(.bipush (-9), 2, 0, 0, .int (-9 : Int32)), (.istore_n 2, 1, 0, 0, .null)] 7 [(2, .int (-9 : Int32)), (0, .ref 0), (1, .int x1)] [] (wProd cy 0 q1.1 q1.2) (by decide +kernel) rfl rfl ?_
  obtain ⟨q4, hq4, h⟩ := obd h
  refine G_lv [1, 2, 0] (lv' := [(0, .ref 0), (1, .int x1), (2, .int (-9 : Int32))]) rfl ?_
  refine g_X1_vanishAt_L7 C 200 x1 (-9 : Int32) q1.1 q1.2 q4 hq4 ?_
  have h := Option.some.inj h
  subst h
  exact G_vret C hR (by decide +kernel)
def f_X3_mean_v1_L5 : Nat → Int32 → Int64 → Int32 → Int32 → (Nat → Int32) → Int32 → (Nat → Int64) → Option Int64
  | 0, _, _, _, _, _, _, _ => none
  | fu + 1, x2, x3, x5, rK, rf, pd, pn => (f_X1_degree pd).bind fun q1 => if q1 < x5 then (some x3) else ((f_X1_number x5 pd pn).bind fun q2 => (f_X3_at (x5 + x2) rK rf).bind fun q3 => f_X3_mean_v1_L5 fu x2 (x3 + (q2 * q3.toInt64)) (x5 + (1 : Int32)) rK rf pd pn)
def f_X3_mean_v1 (x2 : Int32) (rK : Int32) (rf : Nat → Int32) (pd : Int32) (pn : Nat → Int64) : Option Int64 := (f_X3_mean_v1_L5 200 x2 (0 : Int64) (0 : Int32) rK rf pd pn).bind fun q4 => some q4
set_option maxHeartbeats 4000000 in
set_option maxRecDepth 100000 in
theorem g_X3_mean_v1_L5 {k : KX} {cy : Nat → ClassId} (C : OK k cX3_mean 3 6 cy 1 21) : ∀ (fu : Nat) (x2 : Int32) (x3 : Int64) (x5 : Int32) (rK : Int32) (rf : Nat → Int32) (rg : Nat → Int64) (rpd : Int32) (rpn : Nat → Int64) (pd : Int32) (pn : Nat → Int64) (res : Int64), (f_X3_mean_v1_L5 fu x2 x3 x5 rK rf pd pn = some res) → G k 6 39 [(3, .long res)] [] ((wRow cy 0 rK rf rg rpd rpn) ++ (wProd cy 5 pd pn)) → G k 6 5 [(0, .ref 0), (1, .ref 5), (2, .int x2), (3, .long x3), (5, .int x5)] [] ((wRow cy 0 rK rf rg rpd rpn) ++ (wProd cy 5 pd pn)) := by
  intro fu
  induction fu with
  | zero =>
    intro x2 x3 x5 rK rf rg rpd rpn pd pn res h hex
    rw [f_X3_mean_v1_L5] at h
    cases h
  | succ fu ih =>
    intro x2 x3 x5 rK rf rg rpd rpn pd pn res h hex
    rw [f_X3_mean_v1_L5] at h
    refine G_r C [(.iload 5, 2, 0, 0, .null), (.aload_n 1, 1, 0, 0, .null)] 8 [(0, .ref 0), (1, .ref 5), (2, .int x2), (3, .long x3), (5, .int x5)] [.ref 5, .int x5] ((wRow cy 0 rK rf rg rpd rpn) ++ (wProd cy 5 pd pn)) (by decide +kernel) rfl rfl ?_
    obtain ⟨q1, hq1, h⟩ := obd h
    refine G_cV C lk_3_30 ⟨Nat.le_of_ble_eq_true rfl, Nat.le_of_ble_eq_true rfl⟩ (by decide +kernel) [5, 6] [.int q1, .int x5] ((wRow cy 0 rK rf rg rpd rpn) ++ (wProd cy 5 pd pn)) (c_X1_degree cy pd pn q1 hq1) rfl rfl (Nat.le_of_ble_eq_true rfl) rfl rfl ⟨rfl, rfl⟩ rfl rfl rfl ?_
    refine G_icmp_gt C (off := 28) (tgt := 39) (by decide +kernel) rfl (fun c => ?_) (fun c => ?_)
    · rw [if_pos c] at h
      have h := Option.some.inj h
      subst h
      refine G_lv [3] (lv' := [(3, .long x3)]) rfl ?_
      exact hex
    · rw [if_neg c] at h
      refine G_r C [(.lload_n 3, 1, 0, 0, .null), (.aload_n 1, 1, 0, 0, .null), (.iload 5, 2, 0, 0, .null)] 18 [(0, .ref 0), (1, .ref 5), (2, .int x2), (3, .long x3), (5, .int x5)] [.int x5, .ref 5, .long x3] ((wRow cy 0 rK rf rg rpd rpn) ++ (wProd cy 5 pd pn)) (by decide +kernel) rfl rfl ?_
      obtain ⟨q2, hq2, h⟩ := obd h
      refine G_cV C lk_3_34 ⟨Nat.le_of_ble_eq_true rfl, Nat.le_of_ble_eq_true rfl⟩ (by decide +kernel) [5, 6] [.long q2, .long x3] ((wRow cy 0 rK rf rg rpd rpn) ++ (wProd cy 5 pd pn)) (c_X1_number cy pd pn x5 q2 hq2) rfl rfl (Nat.le_of_ble_eq_true rfl) rfl rfl ⟨rfl, rfl⟩ rfl rfl rfl ?_
      refine G_r C [(.aload_n 0, 1, 0, 0, .null), (.iload 5, 2, 0, 0, .null), (.iload_n 2, 1, 0, 0, .null), (.iadd, 1, 0, 0, .null)] 26 [(0, .ref 0), (1, .ref 5), (2, .int x2), (3, .long x3), (5, .int x5)] [.int (x5 + x2), .ref 0, .long q2, .long x3] ((wRow cy 0 rK rf rg rpd rpn) ++ (wProd cy 5 pd pn)) (by decide +kernel) rfl rfl ?_
      obtain ⟨q3, hq3, h⟩ := obd h
      refine G_cV C lk_3_38 ⟨Nat.le_of_ble_eq_true rfl, Nat.le_of_ble_eq_true rfl⟩ (by decide +kernel) [0, 1, 2, 3, 4] [.int q3, .long q2, .long x3] ((wRow cy 0 rK rf rg rpd rpn) ++ (wProd cy 5 pd pn)) (c_X3_at cy rK rf rg rpd rpn (x5 + x2) q3 hq3) rfl rfl (Nat.le_of_ble_eq_true rfl) rfl rfl ⟨rfl, rfl⟩ rfl rfl rfl ?_
      refine G_r C [(.i2l, 1, 0, 0, .null), (.lmul, 1, 0, 0, .null), (.ladd, 1, 0, 0, .null), (.lstore_n 3, 1, 0, 0, .null), (.iinc 5 1, 3, 0, 0, .int (1 : Int32))] 36 [(5, .int (x5 + (1 : Int32))), (3, .long (x3 + (q2 * q3.toInt64))), (0, .ref 0), (1, .ref 5), (2, .int x2)] [] ((wRow cy 0 rK rf rg rpd rpn) ++ (wProd cy 5 pd pn)) (by decide +kernel) rfl rfl ?_
      refine G_goto C (off := -31) (tgt := 5) (by decide +kernel) rfl ?_
      refine G_lv [2, 3, 4, 1, 0] (lv' := [(0, .ref 0), (1, .ref 5), (2, .int x2), (3, .long (x3 + (q2 * q3.toInt64))), (5, .int (x5 + (1 : Int32)))]) rfl ?_
      exact ih x2 (x3 + (q2 * q3.toInt64)) (x5 + (1 : Int32)) rK rf rg rpd rpn pd pn res h hex
set_option maxHeartbeats 4000000 in
set_option maxRecDepth 100000 in
theorem c_X3_mean_v1 (cy : Nat → ClassId) (rK : Int32) (rf : Nat → Int32) (rg : Nat → Int64) (rpd : Int32) (rpn : Nat → Int64) (pd : Int32) (pn : Nat → Int64) (x2 : Int32) (res : Int64) (h : f_X3_mean_v1 x2 rK rf pd pn = some res) : MG cy yX3_mean cX3_mean 6 (some .long) 1 21 [.ref 0, .ref 5, .int x2] ((wRow cy 0 rK rf rg rpd rpn) ++ (wProd cy 5 pd pn)) (some (.long res)) ((wRow cy 0 rK rf rg rpd rpn) ++ (wProd cy 5 pd pn)) := by
  refine MG_of (o := 3) (lv := [(0, .ref 0), (1, .ref 5), (2, .int x2)]) ⟨by decide +kernel, rfl⟩ (Nat.le_of_ble_eq_true rfl) rfl (fun k C hR => ?_)
  rw [f_X3_mean_v1] at h
  refine G_r C [(.lconst 0, 1, 0, 0, .long (0 : Int64)), (.lstore_n 3, 1, 0, 0, .null), (.iconst 0, 1, 0, 0, .int (0 : Int32)), (.istore 5, 2, 0, 0, .null)] 5 [(5, .int (0 : Int32)), (3, .long (0 : Int64)), (0, .ref 0), (1, .ref 5), (2, .int x2)] [] ((wRow cy 0 rK rf rg rpd rpn) ++ (wProd cy 5 pd pn)) (by decide +kernel) rfl rfl ?_
  obtain ⟨q4, hq4, h⟩ := obd h
  refine G_lv [2, 3, 4, 1, 0] (lv' := [(0, .ref 0), (1, .ref 5), (2, .int x2), (3, .long (0 : Int64)), (5, .int (0 : Int32))]) rfl ?_
  refine g_X3_mean_v1_L5 C 200 x2 (0 : Int64) (0 : Int32) rK rf rg rpd rpn pd pn q4 hq4 ?_
  refine G_r C [(.lload_n 3, 1, 0, 0, .null)] 40 [(3, .long q4)] [.long q4] ((wRow cy 0 rK rf rg rpd rpn) ++ (wProd cy 5 pd pn)) (by decide +kernel) rfl rfl ?_
  have h := Option.some.inj h
  subst h
  exact G_lret C hR (by decide +kernel)
def f_X1_evaluate_L8 : Nat → Int32 → Int64 → Int32 → Int32 → (Nat → Int64) → Option Int64
  | 0, _, _, _, _, _ => none
  | fu + 1, x1, x2, x4, pd, pn => if x4 < 0 then (some x2) else ((f_X1_number x4 pd pn).bind fun q1 => f_X1_evaluate_L8 fu x1 ((x2 * x1.toInt64) + q1) (x4 + (-1 : Int32)) pd pn)
def f_X1_evaluate (x1 : Int32) (pd : Int32) (pn : Nat → Int64) : Option Int64 := (f_X1_evaluate_L8 200 x1 (0 : Int64) pd pd pn).bind fun q2 => some q2
set_option maxHeartbeats 4000000 in
set_option maxRecDepth 100000 in
theorem g_X1_evaluate_L8 {k : KX} {cy : Nat → ClassId} (C : OK k cX1_evaluate 1 5 cy 1 21) : ∀ (fu : Nat) (x1 : Int32) (x2 : Int64) (x4 : Int32) (pd : Int32) (pn : Nat → Int64) (res : Int64), (f_X1_evaluate_L8 fu x1 x2 x4 pd pn = some res) → G k 5 31 [(2, .long res)] [] (wProd cy 0 pd pn) → G k 5 8 [(0, .ref 0), (1, .int x1), (2, .long x2), (4, .int x4)] [] (wProd cy 0 pd pn) := by
  intro fu
  induction fu with
  | zero =>
    intro x1 x2 x4 pd pn res h hex
    rw [f_X1_evaluate_L8] at h
    cases h
  | succ fu ih =>
    intro x1 x2 x4 pd pn res h hex
    rw [f_X1_evaluate_L8] at h
    refine G_r C [(.iload 4, 2, 0, 0, .null)] 10 [(0, .ref 0), (1, .int x1), (2, .long x2), (4, .int x4)] [.int x4] (wProd cy 0 pd pn) (by decide +kernel) rfl rfl ?_
    refine G_if_lt C (off := 21) (tgt := 31) (by decide +kernel) rfl (fun c => ?_) (fun c => ?_)
    · rw [if_pos c] at h
      have h := Option.some.inj h
      subst h
      refine G_lv [2] (lv' := [(2, .long x2)]) rfl ?_
      exact hex
    · rw [if_neg c] at h
      refine G_r C [(.lload_n 2, 1, 0, 0, .null), (.iload_n 1, 1, 0, 0, .null), (.i2l, 1, 0, 0, .null), (.lmul, 1, 0, 0, .null), (.aload_n 0, 1, 0, 0, .null), (.iload 4, 2, 0, 0, .null)] 20 [(0, .ref 0), (1, .int x1), (2, .long x2), (4, .int x4)] [.int x4, .ref 0, .long (x2 * x1.toInt64)] (wProd cy 0 pd pn) (by decide +kernel) rfl rfl ?_
      obtain ⟨q1, hq1, h⟩ := obd h
      refine G_c0 C lk_1_19 ⟨Nat.le_of_ble_eq_true rfl, Nat.le_of_ble_eq_true rfl⟩ (by decide +kernel) [.long q1, .long (x2 * x1.toInt64)] (c_X1_number cy pd pn x4 q1 hq1) rfl rfl (Nat.le_of_ble_eq_true rfl) ⟨rfl, rfl⟩ rfl ?_
      refine G_r C [(.ladd, 1, 0, 0, .null), (.lstore_n 2, 1, 0, 0, .null), (.iinc 4 (-1), 3, 0, 0, .int (-1 : Int32))] 28 [(4, .int (x4 + (-1 : Int32))), (2, .long ((x2 * x1.toInt64) + q1)), (0, .ref 0), (1, .int x1)] [] (wProd cy 0 pd pn) (by decide +kernel) rfl rfl ?_
      refine G_goto C (off := -20) (tgt := 8) (by decide +kernel) rfl ?_
      refine G_lv [2, 3, 1, 0] (lv' := [(0, .ref 0), (1, .int x1), (2, .long ((x2 * x1.toInt64) + q1)), (4, .int (x4 + (-1 : Int32)))]) rfl ?_
      exact ih x1 ((x2 * x1.toInt64) + q1) (x4 + (-1 : Int32)) pd pn res h hex
set_option maxHeartbeats 4000000 in
set_option maxRecDepth 100000 in
theorem c_X1_evaluate (cy : Nat → ClassId) (pd : Int32) (pn : Nat → Int64) (x1 : Int32) (res : Int64) (h : f_X1_evaluate x1 pd pn = some res) : MG cy yX1_evaluate cX1_evaluate 5 (some .long) 1 21 [.ref 0, .int x1] (wProd cy 0 pd pn) (some (.long res)) (wProd cy 0 pd pn) := by
  refine MG_of (o := 1) (lv := [(0, .ref 0), (1, .int x1)]) ⟨by decide +kernel, rfl⟩ (Nat.le_of_ble_eq_true rfl) rfl (fun k C hR => ?_)
  rw [f_X1_evaluate] at h
  refine G_r C [(.lconst 0, 1, 0, 0, .long (0 : Int64)), (.lstore_n 2, 1, 0, 0, .null), (.aload_n 0, 1, 0, 0, .null), (.getfield 15, 3, 1, 1, .null), (.istore 4, 2, 0, 0, .null)] 8 [(4, .int pd), (2, .long (0 : Int64)), (0, .ref 0), (1, .int x1)] [] (wProd cy 0 pd pn) (by decide +kernel) rfl rfl ?_
  obtain ⟨q2, hq2, h⟩ := obd h
  refine G_lv [2, 3, 1, 0] (lv' := [(0, .ref 0), (1, .int x1), (2, .long (0 : Int64)), (4, .int pd)]) rfl ?_
  refine g_X1_evaluate_L8 C 200 x1 (0 : Int64) pd pd pn q2 hq2 ?_
  refine G_r C [(.lload_n 2, 1, 0, 0, .null)] 32 [(2, .long q2)] [.long q2] (wProd cy 0 pd pn) (by decide +kernel) rfl rfl ?_
  have h := Option.some.inj h
  subst h
  exact G_lret C hR (by decide +kernel)
