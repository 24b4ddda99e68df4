def f_X6_weight (x1 : Int32) (x2 : Int32) (x3 : Int32) (kb : Int32) (kn : Int32) (kf : Int32) (rK : Int32) (rf : Nat → Int32) (pd : Int32) (pn : Nat → Int64) : Option (Int64 × Int32 × Int32 × Int32 × Int32 × (Nat → Int64)) := (f_X6_isNoSet x1).bind fun q1 => if (bI q1) = 0 then ((f_X6_isOutside x2 (-9 : Int32) (9 : Int32)).bind fun q3 => if (bI q3) = 0 then ((f_X6_bitOf x2).bind fun q5 => if (x1 &&& q5) = 0 then ((f_X6_refuse (-1000001 : Int32) kb kn kf).bind fun q6 => some (q6.1.toInt64, q6.2.1, q6.2.2.1, q6.2.2.2, pd, pn)) else ((f_X6_isOutside x3 (0 : Int32) (1 : Int32)).bind fun q7 => if (bI q7) = 0 then ((f_J6_bitCount_0f7a4 x1).bind fun q8 => (f_X3_size rK).bind fun q9 => if q8 ≤ q9 then ((f_X6_bitOf x2).bind fun q10 => (f_X1_vanishAt (x1 ^^^ q10) pn).bind fun q11 => (f_X3_mean_v1 (0 : Int32) rK rf q11.1 q11.2).bind fun q12 => (f_X1_evaluate x2 q11.1 q11.2).bind fun q13 => (f_X6_part q12 q13 x3).bind fun q14 => some (q14, kb, kn, kf, q11.1, q11.2)) else ((f_X6_refuse (-1000002 : Int32) kb kn kf).bind fun q15 => some (q15.1.toInt64, q15.2.1, q15.2.2.1, q15.2.2.2, pd, pn))) else ((f_X6_refuse (-1000001 : Int32) kb kn kf).bind fun q16 => some (q16.1.toInt64, q16.2.1, q16.2.2.1, q16.2.2.2, pd, pn)))) else ((f_X6_refuse (-1000001 : Int32) kb kn kf).bind fun q4 => some (q4.1.toInt64, q4.2.1, q4.2.2.1, q4.2.2.2, pd, pn))) else ((f_X6_refuse (-1000001 : Int32) kb kn kf).bind fun q2 => some (q2.1.toInt64, q2.2.1, q2.2.2.1, q2.2.2.2, pd, pn))
set_option maxHeartbeats 4000000 in
set_option maxRecDepth 100000 in
theorem c_X6_weight (cy : Nat → ClassId) (kb : Int32) (kn : Int32) (kf : Int32) (rK : Int32) (rf : Nat → Int32) (rg : Nat → Int64) (rpd : Int32) (rpn : Nat → Int64) (sK : Int32) (sf : Nat → Int32) (sg : Nat → Int64) (spd : Int32) (spn : Nat → Int64) (mc : Int32) (mm : Nat → Int64) (nc : Int32) (nm : Nat → Int64) (pd : Int32) (pn : Nat → Int64) (vo : Int32) (vd : Int32) (vs : Nat → Int32) (tl : Int32) (tb : Nat → Int32) (eo : Int32) (et : Int32) (ed : Int32) (em : Bool) (ef : Int32) (ez : Int32) (ek : Nat → Int32) (es : Nat → Int32) (en : Nat → Int32) (fi : Nat → Int32) (x1 : Int32) (x2 : Int32) (x3 : Int32) (res : (Int64 × Int32 × Int32 × Int32 × Int32 × (Nat → Int64))) (h : f_X6_weight x1 x2 x3 kb kn kf rK rf pd pn = some res) : MG cy yX6_weight cX6_weight 4 (some .long) 3 65 [.ref 0, .int x1, .int x2, .int x3] (wSR cy kb kn kf rK rf rg rpd rpn sK sf sg spd spn mc mm nc nm pd pn vo vd vs tl tb eo et ed em ef ez ek es en fi) (some (.long res.1)) (wSR cy res.2.1 res.2.2.1 res.2.2.2.1 rK rf rg rpd rpn sK sf sg spd spn mc mm nc nm res.2.2.2.2.1 res.2.2.2.2.2 vo vd vs tl tb eo et ed em ef ez ek es en fi) := by
  refine MG_of (o := 6) (lv := [(0, .ref 0), (1, .int x1), (2, .int x2), (3, .int x3)]) ⟨by decide +kernel, rfl⟩ (Nat.le_of_ble_eq_true rfl) rfl (fun k C hR => ?_)
  rw [f_X6_weight] at h
  refine G_r C [(.iload_n 1, 1, 0, 0, .null)] 1 [(0, .ref 0), (1, .int x1), (2, .int x2), (3, .int x3)] [.int x1] (wSR cy kb kn kf rK rf rg rpd rpn sK sf sg spd spn mc mm nc nm pd pn vo vd vs tl tb eo et ed em ef ez ek es en fi) (by decide +kernel) rfl rfl ?_
  obtain ⟨q1, hq1, h⟩ := obd h
  refine G_cS C lk_6_158 ⟨Nat.le_of_ble_eq_true rfl, Nat.le_of_ble_eq_true rfl⟩ (by decide +kernel) [.int (bI q1)] (c_X6_isNoSet cy x1 q1 hq1) rfl rfl (Nat.le_of_ble_eq_true rfl) rfl ?_
  refine G_if_ne C (off := 32) (tgt := 36) (by decide +kernel) rfl (fun c => ?_) (fun c => ?_)
  · rw [if_neg c] at h
    refine G_r C [(.aload_n 0, 1, 0, 0, .null)] 37 [(0, .ref 0), (1, .int x1), (2, .int x2), (3, .int x3)] [.ref 0] (wSR cy kb kn kf rK rf rg rpd rpn sK sf sg spd spn mc mm nc nm pd pn vo vd vs tl tb eo et ed em ef ez ek es en fi) (by decide +kernel) rfl rfl ?_
    refine G_ldc C co_6_105 (by decide +kernel) ?_
    obtain ⟨q2, hq2, h⟩ := obd h
    refine G_c0 C lk_6_73 ⟨Nat.le_of_ble_eq_true rfl, Nat.le_of_ble_eq_true rfl⟩ (by decide +kernel) [.int q2.1] (c_X6_refuse cy kb kn kf rK rf rg rpd rpn sK sf sg spd spn mc mm nc nm pd pn vo vd vs tl tb eo et ed em ef ez ek es en fi (-1000001 : Int32) q2 hq2) rfl rfl (Nat.le_of_ble_eq_true rfl) ⟨rfl, rfl⟩ rfl ?_
    refine G_r C [(.i2l, 1, 0, 0, .null)] 43 [(0, .ref 0), (1, .int x1), (2, .int x2), (3, .int x3)] [.long q2.1.toInt64] (wSR cy q2.2.1 q2.2.2.1 q2.2.2.2 rK rf rg rpd rpn sK sf sg spd spn mc mm nc nm pd pn vo vd vs tl tb eo et ed em ef ez ek es en fi) (by decide +kernel) rfl rfl ?_
    have h := Option.some.inj h
    subst h
    exact G_lret C hR (by decide +kernel)
  · rw [if_pos c] at h
    refine G_r C [(.iload_n 2, 1, 0, 0, .null), (.bipush (-9), 2, 0, 0, .int (-9 : Int32)), (.bipush 9, 2, 0, 0, .int (9 : Int32))] 12 [(0, .ref 0), (1, .int x1), (2, .int x2), (3, .int x3)] [.int (9 : Int32), .int (-9 : Int32), .int x2] (wSR cy kb kn kf rK rf rg rpd rpn sK sf sg spd spn mc mm nc nm pd pn vo vd vs tl tb eo et ed em ef ez ek es en fi) (by decide +kernel) rfl rfl ?_
    obtain ⟨q3, hq3, h⟩ := obd h
    refine G_cS C lk_6_101 ⟨Nat.le_of_ble_eq_true rfl, Nat.le_of_ble_eq_true rfl⟩ (by decide +kernel) [.int (bI q3)] (c_X6_isOutside cy x2 (-9 : Int32) (9 : Int32) q3 hq3) rfl rfl (Nat.le_of_ble_eq_true rfl) rfl ?_
    refine G_if_ne C (off := 21) (tgt := 36) (by decide +kernel) rfl (fun c => ?_) (fun c => ?_)
    · rw [if_neg c] at h
      refine G_r C [(.aload_n 0, 1, 0, 0, .null)] 37 [(0, .ref 0), (1, .int x1), (2, .int x2), (3, .int x3)] [.ref 0] (wSR cy kb kn kf rK rf rg rpd rpn sK sf sg spd spn mc mm nc nm pd pn vo vd vs tl tb eo et ed em ef ez ek es en fi) (by decide +kernel) rfl rfl ?_
      refine G_ldc C co_6_105 (by decide +kernel) ?_
      obtain ⟨q4, hq4, h⟩ := obd h
      refine G_c0 C lk_6_73 ⟨Nat.le_of_ble_eq_true rfl, Nat.le_of_ble_eq_true rfl⟩ (by decide +kernel) [.int q4.1] (c_X6_refuse cy kb kn kf rK rf rg rpd rpn sK sf sg spd spn mc mm nc nm pd pn vo vd vs tl tb eo et ed em ef ez ek es en fi (-1000001 : Int32) q4 hq4) rfl rfl (Nat.le_of_ble_eq_true rfl) ⟨rfl, rfl⟩ rfl ?_
      refine G_r C [(.i2l, 1, 0, 0, .null)] 43 [(0, .ref 0), (1, .int x1), (2, .int x2), (3, .int x3)] [.long q4.1.toInt64] (wSR cy q4.2.1 q4.2.2.1 q4.2.2.2 rK rf rg rpd rpn sK sf sg spd spn mc mm nc nm pd pn vo vd vs tl tb eo et ed em ef ez ek es en fi) (by decide +kernel) rfl rfl ?_
      have h := Option.some.inj h
      subst h
      exact G_lret C hR (by decide +kernel)
    · rw [if_pos c] at h
      refine G_r C [(.iload_n 1, 1, 0, 0, .null), (.iload_n 2, 1, 0, 0, .null)] 20 [(0, .ref 0), (1, .int x1), (2, .int x2), (3, .int x3)] [.int x2, .int x1] (wSR cy kb kn kf rK rf rg rpd rpn sK sf sg spd spn mc mm nc nm pd pn vo vd vs tl tb eo et ed em ef ez ek es en fi) (by decide +kernel) rfl rfl ?_
      obtain ⟨q5, hq5, h⟩ := obd h
      refine G_cS C lk_6_161 ⟨Nat.le_of_ble_eq_true rfl, Nat.le_of_ble_eq_true rfl⟩ (by decide +kernel) [.int q5, .int x1] (c_X6_bitOf cy x2 q5 hq5) rfl rfl (Nat.le_of_ble_eq_true rfl) rfl ?_
      refine G_r C [(.iand, 1, 0, 0, .null)] 24 [(0, .ref 0), (1, .int x1), (2, .int x2), (3, .int x3)] [.int (x1 &&& q5)] (wSR cy kb kn kf rK rf rg rpd rpn sK sf sg spd spn mc mm nc nm pd pn vo vd vs tl tb eo et ed em ef ez ek es en fi) (by decide +kernel) rfl rfl ?_
      refine G_if_eq C (off := 12) (tgt := 36) (by decide +kernel) rfl (fun c => ?_) (fun c => ?_)
      · rw [if_pos c] at h
        refine G_r C [(.aload_n 0, 1, 0, 0, .null)] 37 [(0, .ref 0), (1, .int x1), (2, .int x2), (3, .int x3)] [.ref 0] (wSR cy kb kn kf rK rf rg rpd rpn sK sf sg spd spn mc mm nc nm pd pn vo vd vs tl tb eo et ed em ef ez ek es en fi) (by decide +kernel) rfl rfl ?_
        refine G_ldc C co_6_105 (by decide +kernel) ?_
        obtain ⟨q6, hq6, h⟩ := obd h
        refine G_c0 C lk_6_73 ⟨Nat.le_of_ble_eq_true rfl, Nat.le_of_ble_eq_true rfl⟩ (by decide +kernel) [.int q6.1] (c_X6_refuse cy kb kn kf rK rf rg rpd rpn sK sf sg spd spn mc mm nc nm pd pn vo vd vs tl tb eo et ed em ef ez ek es en fi (-1000001 : Int32) q6 hq6) rfl rfl (Nat.le_of_ble_eq_true rfl) ⟨rfl, rfl⟩ rfl ?_
        refine G_r C [(.i2l, 1, 0, 0, .null)] 43 [(0, .ref 0), (1, .int x1), (2, .int x2), (3, .int x3)] [.long q6.1.toInt64] (wSR cy q6.2.1 q6.2.2.1 q6.2.2.2 rK rf rg rpd rpn sK sf sg spd spn mc mm nc nm pd pn vo vd vs tl tb eo et ed em ef ez ek es en fi) (by decide +kernel) rfl rfl ?_
        have h := Option.some.inj h
        subst h
        exact G_lret C hR (by decide +kernel)
      · rw [if_neg c] at h
        refine G_r C [(.iload_n 3, 1, 0, 0, .null), (.iconst 0, 1, 0, 0, .int (0 : Int32)), (.iconst 1, 1, 0, 0, .int (1 : Int32))] 30 [(0, .ref 0), (1, .int x1), (2, .int x2), (3, .int x3)] [.int (1 : Int32), .int (0 : Int32), .int x3] (wSR cy kb kn kf rK rf rg rpd rpn sK sf sg spd spn mc mm nc nm pd pn vo vd vs tl tb eo et ed em ef ez ek es en fi) (by decide +kernel) rfl rfl ?_
        obtain ⟨q7, hq7, h⟩ := obd h
        refine G_cS C lk_6_101 ⟨Nat.le_of_ble_eq_true rfl, Nat.le_of_ble_eq_true rfl⟩ (by decide +kernel) [.int (bI q7)] (c_X6_isOutside cy x3 (0 : Int32) (1 : Int32) q7 hq7) rfl rfl (Nat.le_of_ble_eq_true rfl) rfl ?_
        refine G_if_eq C (off := 11) (tgt := 44) (by decide +kernel) rfl (fun c => ?_) (fun c => ?_)
        · rw [if_pos c] at h
          refine G_r C [(.iload_n 1, 1, 0, 0, .null)] 45 [(0, .ref 0), (1, .int x1), (2, .int x2), (3, .int x3)] [.int x1] (wSR cy kb kn kf rK rf rg rpd rpn sK sf sg spd spn mc mm nc nm pd pn vo vd vs tl tb eo et ed em ef ez ek es en fi) (by decide +kernel) rfl rfl ?_
          obtain ⟨q8, hq8, h⟩ := obd h
          refine G_cS C lk_6_164 ⟨Nat.le_of_ble_eq_true rfl, Nat.le_of_ble_eq_true rfl⟩ (by decide +kernel) [.int q8] (c_J6_bitCount_0f7a4 cy x1 q8 hq8) rfl rfl (Nat.le_of_ble_eq_true rfl) rfl ?_
          refine G_r C [(.aload_n 0, 1, 0, 0, .null), (.getfield 12, 3, 6, 0, .null)] 52 [(0, .ref 0), (1, .int x1), (2, .int x2), (3, .int x3)] [.ref 1, .int q8] (wSR cy kb kn kf rK rf rg rpd rpn sK sf sg spd spn mc mm nc nm pd pn vo vd vs tl tb eo et ed em ef ez ek es en fi) (by decide +kernel) rfl rfl ?_
          obtain ⟨q9, hq9, h⟩ := obd h
          refine G_cV C lk_6_82 ⟨Nat.le_of_ble_eq_true rfl, Nat.le_of_ble_eq_true rfl⟩ (by decide +kernel) [1, 2, 3, 4, 5] [.int q9, .int q8] (wSR cy kb kn kf rK rf rg rpd rpn sK sf sg spd spn mc mm nc nm pd pn vo vd vs tl tb eo et ed em ef ez ek es en fi) (c_X3_size cy rK rf rg rpd rpn q9 hq9) rfl rfl (Nat.le_of_ble_eq_true rfl) rfl rfl ⟨rfl, rfl⟩ rfl rfl rfl ?_
          refine G_icmp_le C (off := 11) (tgt := 66) (by decide +kernel) rfl (fun c => ?_) (fun c => ?_)
          · rw [if_pos c] at h
            refine G_r C [(.aload_n 0, 1, 0, 0, .null), (.getfield 32, 3, 6, 4, .null), (.iload_n 1, 1, 0, 0, .null), (.iload_n 2, 1, 0, 0, .null)] 72 [(0, .ref 0), (1, .int x1), (2, .int x2), (3, .int x3)] [.int x2, .int x1, .ref 15] (wSR cy kb kn kf rK rf rg rpd rpn sK sf sg spd spn mc mm nc nm pd pn vo vd vs tl tb eo et ed em ef ez ek es en fi) (by decide +kernel) rfl rfl ?_
            obtain ⟨q10, hq10, h⟩ := obd h
            refine G_cS C lk_6_161 ⟨Nat.le_of_ble_eq_true rfl, Nat.le_of_ble_eq_true rfl⟩ (by decide +kernel) [.int q10, .int x1, .ref 15] (c_X6_bitOf cy x2 q10 hq10) rfl rfl (Nat.le_of_ble_eq_true rfl) rfl ?_
            refine G_r C [(.ixor, 1, 0, 0, .null)] 76 [(0, .ref 0), (1, .int x1), (2, .int x2), (3, .int x3)] [.int (x1 ^^^ q10), .ref 15] (wSR cy kb kn kf rK rf rg rpd rpn sK sf sg spd spn mc mm nc nm pd pn vo vd vs tl tb eo et ed em ef ez ek es en fi) (by decide +kernel) rfl rfl ?_
            obtain ⟨q11, hq11, h⟩ := obd h
            refine G_cV C lk_6_169 ⟨Nat.le_of_ble_eq_true rfl, Nat.le_of_ble_eq_true rfl⟩ (by decide +kernel) [15, 16] [] (wSR cy kb kn kf rK rf rg rpd rpn sK sf sg spd spn mc mm nc nm q11.1 q11.2 vo vd vs tl tb eo et ed em ef ez ek es en fi) (c_X1_vanishAt cy pd pn (x1 ^^^ q10) q11 hq11) rfl rfl (Nat.le_of_ble_eq_true rfl) rfl rfl ⟨rfl, rfl⟩ rfl rfl rfl ?_
            refine G_r C [(.aload_n 0, 1, 0, 0, .null), (.getfield 12, 3, 6, 0, .null), (.aload_n 0, 1, 0, 0, .null), (.getfield 32, 3, 6, 4, .null), (.iconst 0, 1, 0, 0, .int (0 : Int32))] 88 [(0, .ref 0), (1, .int x1), (2, .int x2), (3, .int x3)] [.int (0 : Int32), .ref 15, .ref 1] (wSR cy kb kn kf rK rf rg rpd rpn sK sf sg spd spn mc mm nc nm q11.1 q11.2 vo vd vs tl tb eo et ed em ef ez ek es en fi) (by decide +kernel) rfl rfl ?_
            obtain ⟨q12, hq12, h⟩ := obd h
            refine G_cV C lk_6_173 ⟨Nat.le_of_ble_eq_true rfl, Nat.le_of_ble_eq_true rfl⟩ (by decide +kernel) [1, 2, 3, 4, 5, 15, 16] [.long q12] (wSR cy kb kn kf rK rf rg rpd rpn sK sf sg spd spn mc mm nc nm q11.1 q11.2 vo vd vs tl tb eo et ed em ef ez ek es en fi) (c_X3_mean_v1 cy rK rf rg rpd rpn q11.1 q11.2 (0 : Int32) q12 hq12) rfl rfl (Nat.le_of_ble_eq_true rfl) rfl rfl ⟨rfl, rfl⟩ rfl rfl rfl ?_
            refine G_r C [(.aload_n 0, 1, 0, 0, .null), (.getfield 32, 3, 6, 4, .null), (.iload_n 2, 1, 0, 0, .null)] 96 [(0, .ref 0), (1, .int x1), (2, .int x2), (3, .int x3)] [.int x2, .ref 15, .long q12] (wSR cy kb kn kf rK rf rg rpd rpn sK sf sg spd spn mc mm nc nm q11.1 q11.2 vo vd vs tl tb eo et ed em ef ez ek es en fi) (by decide +kernel) rfl rfl ?_
            obtain ⟨q13, hq13, h⟩ := obd h
            refine G_cV C lk_6_177 ⟨Nat.le_of_ble_eq_true rfl, Nat.le_of_ble_eq_true rfl⟩ (by decide +kernel) [15, 16] [.long q13, .long q12] (wSR cy kb kn kf rK rf rg rpd rpn sK sf sg spd spn mc mm nc nm q11.1 q11.2 vo vd vs tl tb eo et ed em ef ez ek es en fi) (c_X1_evaluate cy q11.1 q11.2 x2 q13 hq13) rfl rfl (Nat.le_of_ble_eq_true rfl) rfl rfl ⟨rfl, rfl⟩ rfl rfl rfl ?_
            refine G_r C [(.iload_n 3, 1, 0, 0, .null)] 100 [(0, .ref 0), (1, .int x1), (2, .int x2), (3, .int x3)] [.int x3, .long q13, .long q12] (wSR cy kb kn kf rK rf rg rpd rpn sK sf sg spd spn mc mm nc nm q11.1 q11.2 vo vd vs tl tb eo et ed em ef ez ek es en fi) (by decide +kernel) rfl rfl ?_
            obtain ⟨q14, hq14, h⟩ := obd h
            refine G_cS C lk_6_127 ⟨Nat.le_of_ble_eq_true rfl, Nat.le_of_ble_eq_true rfl⟩ (by decide +kernel) [.long q14] (c_X6_part cy q12 q13 x3 q14 hq14) rfl rfl (Nat.le_of_ble_eq_true rfl) rfl ?_
            have h := Option.some.inj h
            subst h
            exact G_lret C hR (by decide +kernel)
          · rw [if_neg c] at h
            refine G_r C [(.aload_n 0, 1, 0, 0, .null)] 59 [(0, .ref 0), (1, .int x1), (2, .int x2), (3, .int x3)] [.ref 0] (wSR cy kb kn kf rK rf rg rpd rpn sK sf sg spd spn mc mm nc nm pd pn vo vd vs tl tb eo et ed em ef ez ek es en fi) (by decide +kernel) rfl rfl ?_
            refine G_ldc C co_6_110 (by decide +kernel) ?_
            obtain ⟨q15, hq15, h⟩ := obd h
            refine G_c0 C lk_6_73 ⟨Nat.le_of_ble_eq_true rfl, Nat.le_of_ble_eq_true rfl⟩ (by decide +kernel) [.int q15.1] (c_X6_refuse cy kb kn kf rK rf rg rpd rpn sK sf sg spd spn mc mm nc nm pd pn vo vd vs tl tb eo et ed em ef ez ek es en fi (-1000002 : Int32) q15 hq15) rfl rfl (Nat.le_of_ble_eq_true rfl) ⟨rfl, rfl⟩ rfl ?_
            refine G_r C [(.i2l, 1, 0, 0, .null)] 65 [(0, .ref 0), (1, .int x1), (2, .int x2), (3, .int x3)] [.long q15.1.toInt64] (wSR cy q15.2.1 q15.2.2.1 q15.2.2.2 rK rf rg rpd rpn sK sf sg spd spn mc mm nc nm pd pn vo vd vs tl tb eo et ed em ef ez ek es en fi) (by decide +kernel) rfl rfl ?_
            have h := Option.some.inj h
            subst h
            exact G_lret C hR (by decide +kernel)
        · rw [if_neg c] at h
          refine G_r C [(.aload_n 0, 1, 0, 0, .null)] 37 [(0, .ref 0), (1, .int x1), (2, .int x2), (3, .int x3)] [.ref 0] (wSR cy kb kn kf rK rf rg rpd rpn sK sf sg spd spn mc mm nc nm pd pn vo vd vs tl tb eo et ed em ef ez ek es en fi) (by decide +kernel) rfl rfl ?_
          refine G_ldc C co_6_105 (by decide +kernel) ?_
          obtain ⟨q16, hq16, h⟩ := obd h
          refine G_c0 C lk_6_73 ⟨Nat.le_of_ble_eq_true rfl, Nat.le_of_ble_eq_true rfl⟩ (by decide +kernel) [.int q16.1] (c_X6_refuse cy kb kn kf rK rf rg rpd rpn sK sf sg spd spn mc mm nc nm pd pn vo vd vs tl tb eo et ed em ef ez ek es en fi (-1000001 : Int32) q16 hq16) rfl rfl (Nat.le_of_ble_eq_true rfl) ⟨rfl, rfl⟩ rfl ?_
          refine G_r C [(.i2l, 1, 0, 0, .null)] 43 [(0, .ref 0), (1, .int x1), (2, .int x2), (3, .int x3)] [.long q16.1.toInt64] (wSR cy q16.2.1 q16.2.2.1 q16.2.2.2 rK rf rg rpd rpn sK sf sg spd spn mc mm nc nm pd pn vo vd vs tl tb eo et ed em ef ez ek es en fi) (by decide +kernel) rfl rfl ?_
          have h := Option.some.inj h
          subst h
          exact G_lret C hR (by decide +kernel)
def f_X6_exact_L49 : Nat → Int32 → Int32 → Int32 → (Nat → Int32) → Int32 → (Nat → Int64) → Option Int32
  | 0, _, _, _, _, _, _ => none
  | fu + 1, x2, x3, rK, rf, pd, pn => (f_X3_size rK).bind fun q5 => if q5 ≤ (x3 + (1 : Int32)) then (some x3) else ((f_X3_mean_v1 ((x3 + (1 : Int32)) - x2) rK rf pd pn).bind fun q6 => if q6 = (0 : Int64) then (f_X6_exact_L49 fu x2 (x3 + (1 : Int32)) rK rf pd pn) else (some x3))
def f_X6_exact (x1 : Int32) (kb : Int32) (kn : Int32) (kf : Int32) (rK : Int32) (rf : Nat → Int32) (pd : Int32) (pn : Nat → Int64) : Option (Int32 × Int32 × Int32 × Int32 × Int32 × (Nat → Int64)) := (f_X6_isNoSet x1).bind fun q1 => if (bI q1) = 0 then ((f_J6_bitCount_0f7a4 x1).bind fun q2 => (f_X3_size rK).bind fun q3 => if q2 ≤ q3 then ((f_X1_vanishAt x1 pn).bind fun q4 => (f_X6_exact_L49 200 q2 (q2 - (1 : Int32)) rK rf q4.1 q4.2).bind fun q7 => some (q7, kb, kn, kf, q4.1, q4.2)) else ((f_X6_refuse (-1000002 : Int32) kb kn kf).bind fun q8 => some (q8.1, q8.2.1, q8.2.2.1, q8.2.2.2, pd, pn))) else ((f_X6_refuse (-1000001 : Int32) kb kn kf).bind fun q9 => some (q9.1, q9.2.1, q9.2.2.1, q9.2.2.2, pd, pn))
set_option maxHeartbeats 4000000 in
set_option maxRecDepth 100000 in
theorem g_X6_exact_L49 {k : KX} {cy : Nat → ClassId} (C : OK k cX6_exact 6 4 cy 3 65) : ∀ (fu : Nat) (x2 : Int32) (x3 : Int32) (kb : Int32) (kn : Int32) (kf : Int32) (rK : Int32) (rf : Nat → Int32) (rg : Nat → Int64) (rpd : Int32) (rpn : Nat → Int64) (sK : Int32) (sf : Nat → Int32) (sg : Nat → Int64) (spd : Int32) (spn : Nat → Int64) (mc : Int32) (mm : Nat → Int64) (nc : Int32) (nm : Nat → Int64) (pd : Int32) (pn : Nat → Int64) (vo : Int32) (vd : Int32) (vs : Nat → Int32) (tl : Int32) (tb : Nat → Int32) (eo : Int32) (et : Int32) (ed : Int32) (em : Bool) (ef : Int32) (ez : Int32) (ek : Nat → Int32) (es : Nat → Int32) (en : Nat → Int32) (fi : Nat → Int32) (res : Int32), (f_X6_exact_L49 fu x2 x3 rK rf pd pn = some res) → G k 4 89 [(3, .int res)] [] (wSR cy kb kn kf rK rf rg rpd rpn sK sf sg spd spn mc mm nc nm pd pn vo vd vs tl tb eo et ed em ef ez ek es en fi) → G k 4 49 [(0, .ref 0), (2, .int x2), (3, .int x3)] [] (wSR cy kb kn kf rK rf rg rpd rpn sK sf sg spd spn mc mm nc nm pd pn vo vd vs tl tb eo et ed em ef ez ek es en fi) := by
  intro fu
  induction fu with
  | zero =>
    intro x2 x3 kb kn kf rK rf rg rpd rpn sK sf sg spd spn mc mm nc nm pd pn vo vd vs tl tb eo et ed em ef ez ek es en fi res h hex
    rw [f_X6_exact_L49] at h
    cases h
  | succ fu ih =>
    intro x2 x3 kb kn kf rK rf rg rpd rpn sK sf sg spd spn mc mm nc nm pd pn vo vd vs tl tb eo et ed em ef ez ek es en fi res h hex
    rw [f_X6_exact_L49] at h
    refine G_r C [(.iload_n 3, 1, 0, 0, .null), (.iconst 1, 1, 0, 0, .int (1 : Int32)), (.iadd, 1, 0, 0, .null), (.aload_n 0, 1, 0, 0, .null), (.getfield 12, 3, 6, 0, .null)] 56 [(0, .ref 0), (2, .int x2), (3, .int x3)] [.ref 1, .int (x3 + (1 : Int32))] (wSR cy kb kn kf rK rf rg rpd rpn sK sf sg spd spn mc mm nc nm pd pn vo vd vs tl tb eo et ed em ef ez ek es en fi) (by decide +kernel) rfl rfl ?_
    obtain ⟨q5, hq5, h⟩ := obd h
    refine G_cV C lk_6_82 ⟨Nat.le_of_ble_eq_true rfl, Nat.le_of_ble_eq_true rfl⟩ (by decide +kernel) [1, 2, 3, 4, 5] [.int q5, .int (x3 + (1 : Int32))] (wSR cy kb kn kf rK rf rg rpd rpn sK sf sg spd spn mc mm nc nm pd pn vo vd vs tl tb eo et ed em ef ez ek es en fi) (c_X3_size cy rK rf rg rpd rpn q5 hq5) rfl rfl (Nat.le_of_ble_eq_true rfl) rfl rfl ⟨rfl, rfl⟩ rfl rfl rfl ?_
    refine G_icmp_ge C (off := 30) (tgt := 89) (by decide +kernel) rfl (fun c => ?_) (fun c => ?_)
    · rw [if_pos c] at h
      have h := Option.some.inj h
      subst h
      refine G_lv [2] (lv' := [(3, .int x3)]) rfl ?_
      exact hex
    · rw [if_neg c] at h
      refine G_r C [(.aload_n 0, 1, 0, 0, .null), (.getfield 12, 3, 6, 0, .null), (.aload_n 0, 1, 0, 0, .null), (.getfield 32, 3, 6, 4, .null), (.iload_n 3, 1, 0, 0, .null), (.iconst 1, 1, 0, 0, .int (1 : Int32)), (.iadd, 1, 0, 0, .null), (.iload_n 2, 1, 0, 0, .null), (.isub, 1, 0, 0, .null)] 75 [(0, .ref 0), (2, .int x2), (3, .int x3)] [.int ((x3 + (1 : Int32)) - x2), .ref 15, .ref 1] (wSR cy kb kn kf rK rf rg rpd rpn sK sf sg spd spn mc mm nc nm pd pn vo vd vs tl tb eo et ed em ef ez ek es en fi) (by decide +kernel) rfl rfl ?_
      obtain ⟨q6, hq6, h⟩ := obd h
      refine G_cV C lk_6_173 ⟨Nat.le_of_ble_eq_true rfl, Nat.le_of_ble_eq_true rfl⟩ (by decide +kernel) [1, 2, 3, 4, 5, 15, 16] [.long q6] (wSR cy kb kn kf rK rf rg rpd rpn sK sf sg spd spn mc mm nc nm pd pn vo vd vs tl tb eo et ed em ef ez ek es en fi) (c_X3_mean_v1 cy rK rf rg rpd rpn pd pn ((x3 + (1 : Int32)) - x2) q6 hq6) rfl rfl (Nat.le_of_ble_eq_true rfl) rfl rfl ⟨rfl, rfl⟩ rfl rfl rfl ?_
      refine G_r C [(.lconst 0, 1, 0, 0, .long (0 : Int64))] 79 [(0, .ref 0), (2, .int x2), (3, .int x3)] [.long (0 : Int64), .long q6] (wSR cy kb kn kf rK rf rg rpd rpn sK sf sg spd spn mc mm nc nm pd pn vo vd vs tl tb eo et ed em ef ez ek es en fi) (by decide +kernel) rfl rfl ?_
      refine G_lcmp_ne C (off := 9) (tgt := 89) (by decide +kernel) (by decide +kernel) rfl (fun c => ?_) (fun c => ?_)
      · rw [if_neg c] at h
        have h := Option.some.inj h
        subst h
        refine G_lv [2] (lv' := [(3, .int x3)]) rfl ?_
        exact hex
      · rw [if_pos c] at h
        refine G_r C [(.iinc 3 1, 3, 0, 0, .int (1 : Int32))] 86 [(3, .int (x3 + (1 : Int32))), (0, .ref 0), (2, .int x2)] [] (wSR cy kb kn kf rK rf rg rpd rpn sK sf sg spd spn mc mm nc nm pd pn vo vd vs tl tb eo et ed em ef ez ek es en fi) (by decide +kernel) rfl rfl ?_
        refine G_goto C (off := -37) (tgt := 49) (by decide +kernel) rfl ?_
        refine G_lv [1, 2, 0] (lv' := [(0, .ref 0), (2, .int x2), (3, .int (x3 + (1 : Int32)))]) rfl ?_
        exact ih x2 (x3 + (1 : Int32)) kb kn kf rK rf rg rpd rpn sK sf sg spd spn mc mm nc nm pd pn vo vd vs tl tb eo et ed em ef ez ek es en fi res h hex
set_option maxHeartbeats 4000000 in
set_option maxRecDepth 100000 in
theorem c_X6_exact (cy : Nat → ClassId) (kb : Int32) (kn : Int32) (kf : Int32) (rK : Int32) (rf : Nat → Int32) (rg : Nat → Int64) (rpd : Int32) (rpn : Nat → Int64) (sK : Int32) (sf : Nat → Int32) (sg : Nat → Int64) (spd : Int32) (spn : Nat → Int64) (mc : Int32) (mm : Nat → Int64) (nc : Int32) (nm : Nat → Int64) (pd : Int32) (pn : Nat → Int64) (vo : Int32) (vd : Int32) (vs : Nat → Int32) (tl : Int32) (tb : Nat → Int32) (eo : Int32) (et : Int32) (ed : Int32) (em : Bool) (ef : Int32) (ez : Int32) (ek : Nat → Int32) (es : Nat → Int32) (en : Nat → Int32) (fi : Nat → Int32) (x1 : Int32) (res : (Int32 × Int32 × Int32 × Int32 × Int32 × (Nat → Int64))) (h : f_X6_exact x1 kb kn kf rK rf pd pn = some res) : MG cy yX6_exact cX6_exact 4 (some .int) 3 65 [.ref 0, .int x1] (wSR cy kb kn kf rK rf rg rpd rpn sK sf sg spd spn mc mm nc nm pd pn vo vd vs tl tb eo et ed em ef ez ek es en fi) (some (.int res.1)) (wSR cy res.2.1 res.2.2.1 res.2.2.2.1 rK rf rg rpd rpn sK sf sg spd spn mc mm nc nm res.2.2.2.2.1 res.2.2.2.2.2 vo vd vs tl tb eo et ed em ef ez ek es en fi) := by
  refine MG_of (o := 6) (lv := [(0, .ref 0), (1, .int x1)]) ⟨by decide +kernel, rfl⟩ (Nat.le_of_ble_eq_true rfl) rfl (fun k C hR => ?_)
  rw [f_X6_exact] at h
  refine G_r C [(.iload_n 1, 1, 0, 0, .null)] 1 [(0, .ref 0), (1, .int x1)] [.int x1] (wSR cy kb kn kf rK rf rg rpd rpn sK sf sg spd spn mc mm nc nm pd pn vo vd vs tl tb eo et ed em ef ez ek es en fi) (by decide +kernel) rfl rfl ?_
  obtain ⟨q1, hq1, h⟩ := obd h
  refine G_cS C lk_6_158 ⟨Nat.le_of_ble_eq_true rfl, Nat.le_of_ble_eq_true rfl⟩ (by decide +kernel) [.int (bI q1)] (c_X6_isNoSet cy x1 q1 hq1) rfl rfl (Nat.le_of_ble_eq_true rfl) rfl ?_
  refine G_if_eq C (off := 10) (tgt := 14) (by decide +kernel) rfl (fun c => ?_) (fun c => ?_)
  · rw [if_pos c] at h
    refine G_r C [(.iload_n 1, 1, 0, 0, .null)] 15 [(0, .ref 0), (1, .int x1)] [.int x1] (wSR cy kb kn kf rK rf rg rpd rpn sK sf sg spd spn mc mm nc nm pd pn vo vd vs tl tb eo et ed em ef ez ek es en fi) (by decide +kernel) rfl rfl ?_
    obtain ⟨q2, hq2, h⟩ := obd h
    refine G_cS C lk_6_164 ⟨Nat.le_of_ble_eq_true rfl, Nat.le_of_ble_eq_true rfl⟩ (by decide +kernel) [.int q2] (c_J6_bitCount_0f7a4 cy x1 q2 hq2) rfl rfl (Nat.le_of_ble_eq_true rfl) rfl ?_
    refine G_r C [(.istore_n 2, 1, 0, 0, .null), (.iload_n 2, 1, 0, 0, .null), (.aload_n 0, 1, 0, 0, .null), (.getfield 12, 3, 6, 0, .null)] 24 [(2, .int q2), (0, .ref 0), (1, .int x1)] [.ref 1, .int q2] (wSR cy kb kn kf rK rf rg rpd rpn sK sf sg spd spn mc mm nc nm pd pn vo vd vs tl tb eo et ed em ef ez ek es en fi) (by decide +kernel) rfl rfl ?_
    obtain ⟨q3, hq3, h⟩ := obd h
    refine G_cV C lk_6_82 ⟨Nat.le_of_ble_eq_true rfl, Nat.le_of_ble_eq_true rfl⟩ (by decide +kernel) [1, 2, 3, 4, 5] [.int q3, .int q2] (wSR cy kb kn kf rK rf rg rpd rpn sK sf sg spd spn mc mm nc nm pd pn vo vd vs tl tb eo et ed em ef ez ek es en fi) (c_X3_size cy rK rf rg rpd rpn q3 hq3) rfl rfl (Nat.le_of_ble_eq_true rfl) rfl rfl ⟨rfl, rfl⟩ rfl rfl rfl ?_
    refine G_icmp_le C (off := 10) (tgt := 37) (by decide +kernel) rfl (fun c => ?_) (fun c => ?_)
    · rw [if_pos c] at h
      refine G_r C [(.aload_n 0, 1, 0, 0, .null), (.getfield 32, 3, 6, 4, .null), (.iload_n 1, 1, 0, 0, .null)] 42 [(2, .int q2), (0, .ref 0), (1, .int x1)] [.int x1, .ref 15] (wSR cy kb kn kf rK rf rg rpd rpn sK sf sg spd spn mc mm nc nm pd pn vo vd vs tl tb eo et ed em ef ez ek es en fi) (by decide +kernel) rfl rfl ?_
      obtain ⟨q4, hq4, h⟩ := obd h
      refine G_cV C lk_6_169 ⟨Nat.le_of_ble_eq_true rfl, Nat.le_of_ble_eq_true rfl⟩ (by decide +kernel) [15, 16] [] (wSR cy kb kn kf rK rf rg rpd rpn sK sf sg spd spn mc mm nc nm q4.1 q4.2 vo vd vs tl tb eo et ed em ef ez ek es en fi) (c_X1_vanishAt cy pd pn x1 q4 hq4) rfl rfl (Nat.le_of_ble_eq_true rfl) rfl rfl ⟨rfl, rfl⟩ rfl rfl rfl ?_
      refine G_r C [(.iload_n 2, 1, 0, 0, .null), (.iconst 1, 1, 0, 0, .int (1 : Int32)), (.isub, 1, 0, 0, .null), (.istore_n 3, 1, 0, 0, .null)] 49 [(3, .int (q2 - (1 : Int32))), (2, .int q2), (0, .ref 0), (1, .int x1)] [] (wSR cy kb kn kf rK rf rg rpd rpn sK sf sg spd spn mc mm nc nm q4.1 q4.2 vo vd vs tl tb eo et ed em ef ez ek es en fi) (by decide +kernel) rfl rfl ?_
      obtain ⟨q7, hq7, h⟩ := obd h
      refine G_lv [2, 1, 0] (lv' := [(0, .ref 0), (2, .int q2), (3, .int (q2 - (1 : Int32)))]) rfl ?_
      refine g_X6_exact_L49 C 200 q2 (q2 - (1 : Int32)) kb kn kf rK rf rg rpd rpn sK sf sg spd spn mc mm nc nm q4.1 q4.2 vo vd vs tl tb eo et ed em ef ez ek es en fi q7 hq7 ?_
      refine G_r C [(.iload_n 3, 1, 0, 0, .null)] 90 [(3, .int q7)] [.int q7] (wSR cy kb kn kf rK rf rg rpd rpn sK sf sg spd spn mc mm nc nm q4.1 q4.2 vo vd vs tl tb eo et ed em ef ez ek es en fi) (by decide +kernel) rfl rfl ?_
      have h := Option.some.inj h
      subst h
      exact G_iret C hR (by decide +kernel)
    · rw [if_neg c] at h
      refine G_r C [(.aload_n 0, 1, 0, 0, .null)] 31 [(2, .int q2), (0, .ref 0), (1, .int x1)] [.ref 0] (wSR cy kb kn kf rK rf rg rpd rpn sK sf sg spd spn mc mm nc nm pd pn vo vd vs tl tb eo et ed em ef ez ek es en fi) (by decide +kernel) rfl rfl ?_
      refine G_ldc C co_6_110 (by decide +kernel) ?_
      obtain ⟨q8, hq8, h⟩ := obd h
      refine G_c0 C lk_6_73 ⟨Nat.le_of_ble_eq_true rfl, Nat.le_of_ble_eq_true rfl⟩ (by decide +kernel) [.int q8.1] (c_X6_refuse cy kb kn kf rK rf rg rpd rpn sK sf sg spd spn mc mm nc nm pd pn vo vd vs tl tb eo et ed em ef ez ek es en fi (-1000002 : Int32) q8 hq8) rfl rfl (Nat.le_of_ble_eq_true rfl) ⟨rfl, rfl⟩ rfl ?_
      have h := Option.some.inj h
      subst h
      exact G_iret C hR (by decide +kernel)
  · rw [if_neg c] at h
    refine G_r C [(.aload_n 0, 1, 0, 0, .null)] 8 [(0, .ref 0), (1, .int x1)] [.ref 0] (wSR cy kb kn kf rK rf rg rpd rpn sK sf sg spd spn mc mm nc nm pd pn vo vd vs tl tb eo et ed em ef ez ek es en fi) (by decide +kernel) rfl rfl ?_
    refine G_ldc C co_6_105 (by decide +kernel) ?_
    obtain ⟨q9, hq9, h⟩ := obd h
    refine G_c0 C lk_6_73 ⟨Nat.le_of_ble_eq_true rfl, Nat.le_of_ble_eq_true rfl⟩ (by decide +kernel) [.int q9.1] (c_X6_refuse cy kb kn kf rK rf rg rpd rpn sK sf sg spd spn mc mm nc nm pd pn vo vd vs tl tb eo et ed em ef ez ek es en fi (-1000001 : Int32) q9 hq9) rfl rfl (Nat.le_of_ble_eq_true rfl) ⟨rfl, rfl⟩ rfl ?_
    have h := Option.some.inj h
    subst h
    exact G_iret C hR (by decide +kernel)
def f_X0_quotientMean_L12 : Nat → Int32 → Int32 → Int32 → Int64 → Int64 → Int64 → Int32 → (Nat → Int64) → Int32 → (Nat → Int32) → Option Int64
  | 0, _, _, _, _, _, _, _, _, _, _ => none
  | fu + 1, x2, x3, x4, x5, x7, x9, x11, mm, rK, rf => if x11 < (1 : Int32) then (some x5) else ((f_X0_coefficient x2 x11 mm).bind fun q1 => (f_X6_power x4.toInt64 (x11 - (1 : Int32))).bind fun q2 => (f_X3_at (x11 - (1 : Int32)) rK rf).bind fun q3 => f_X0_quotientMean_L12 fu x2 x3 x4 (x5 + ((((x7 * x3.toInt64) + (q1 * x9)) * q2) * q3.toInt64)) ((x7 * x3.toInt64) + (q1 * x9)) (x9 * x4.toInt64) (x11 + (-1 : Int32)) mm rK rf)
def f_X0_quotientMean (x2 : Int32) (x3 : Int32) (x4 : Int32) (mm : Nat → Int64) (rK : Int32) (rf : Nat → Int32) : Option Int64 := (f_X0_quotientMean_L12 200 x2 x3 x4 (0 : Int64) (0 : Int64) (1 : Int64) x2 mm rK rf).bind fun q4 => some q4
set_option maxHeartbeats 4000000 in
set_option maxRecDepth 100000 in
theorem g_X0_quotientMean_L12 {k : KX} {cy : Nat → ClassId} (C : OK k cX0_quotientMean 0 12 cy 2 46) : ∀ (fu : Nat) (x2 : Int32) (x3 : Int32) (x4 : Int32) (x5 : Int64) (x7 : Int64) (x9 : Int64) (x11 : Int32) (mc : Int32) (mm : Nat → Int64) (rK : Int32) (rf : Nat → Int32) (rg : Nat → Int64) (rpd : Int32) (rpn : Nat → Int64) (res : Int64), (f_X0_quotientMean_L12 fu x2 x3 x4 x5 x7 x9 x11 mm rK rf = some res) → G k 12 78 [(5, .long res)] [] ((wMin cy 0 mc mm) ++ (wRow cy 2 rK rf rg rpd rpn)) → G k 12 12 [(0, .ref 0), (1, .ref 2), (2, .int x2), (3, .int x3), (4, .int x4), (5, .long x5), (7, .long x7), (9, .long x9), (11, .int x11)] [] ((wMin cy 0 mc mm) ++ (wRow cy 2 rK rf rg rpd rpn)) := by
  intro fu
  induction fu with
  | zero =>
    intro x2 x3 x4 x5 x7 x9 x11 mc mm rK rf rg rpd rpn res h hex
    rw [f_X0_quotientMean_L12] at h
    cases h
  | succ fu ih =>
    intro x2 x3 x4 x5 x7 x9 x11 mc mm rK rf rg rpd rpn res h hex
    rw [f_X0_quotientMean_L12] at h
    refine G_r C [(.iload 11, 2, 0, 0, .null), (.iconst 1, 1, 0, 0, .int (1 : Int32))] 15 [(0, .ref 0), (1, .ref 2), (2, .int x2), (3, .int x3), (4, .int x4), (5, .long x5), (7, .long x7), (9, .long x9), (11, .int x11)] [.int (1 : Int32), .int x11] ((wMin cy 0 mc mm) ++ (wRow cy 2 rK rf rg rpd rpn)) (by decide +kernel) rfl rfl ?_
    refine G_icmp_lt C (off := 63) (tgt := 78) (by decide +kernel) rfl (fun c => ?_) (fun c => ?_)
    · rw [if_pos c] at h
      have h := Option.some.inj h
      subst h
      refine G_lv [5] (lv' := [(5, .long x5)]) rfl ?_
      exact hex
    · rw [if_neg c] at h
      refine G_r C [(.lload 7, 2, 0, 0, .null), (.iload_n 3, 1, 0, 0, .null), (.i2l, 1, 0, 0, .null), (.lmul, 1, 0, 0, .null), (.aload_n 0, 1, 0, 0, .null), (.iload_n 2, 1, 0, 0, .null), (.iload 11, 2, 0, 0, .null)] 27 [(0, .ref 0), (1, .ref 2), (2, .int x2), (3, .int x3), (4, .int x4), (5, .long x5), (7, .long x7), (9, .long x9), (11, .int x11)] [.int x11, .int x2, .ref 0, .long (x7 * x3.toInt64)] ((wMin cy 0 mc mm) ++ (wRow cy 2 rK rf rg rpd rpn)) (by decide +kernel) rfl rfl ?_
      obtain ⟨q1, hq1, h⟩ := obd h
      refine G_cV C lk_0_49 ⟨Nat.le_of_ble_eq_true rfl, Nat.le_of_ble_eq_true rfl⟩ (by decide +kernel) [0, 1] [.long q1, .long (x7 * x3.toInt64)] ((wMin cy 0 mc mm) ++ (wRow cy 2 rK rf rg rpd rpn)) (c_X0_coefficient cy mc mm x2 x11 q1 hq1) rfl rfl (Nat.le_of_ble_eq_true rfl) rfl rfl ⟨rfl, rfl⟩ rfl rfl rfl ?_
      refine G_r C [(.lload 9, 2, 0, 0, .null), (.lmul, 1, 0, 0, .null), (.ladd, 1, 0, 0, .null), (.lstore 7, 2, 0, 0, .null), (.lload 9, 2, 0, 0, .null), (.iload 4, 2, 0, 0, .null), (.i2l, 1, 0, 0, .null), (.lmul, 1, 0, 0, .null), (.lstore 9, 2, 0, 0, .null), (.lload 5, 2, 0, 0, .null), (.lload 7, 2, 0, 0, .null), (.iload 4, 2, 0, 0, .null), (.i2l, 1, 0, 0, .null), (.iload 11, 2, 0, 0, .null), (.iconst 1, 1, 0, 0, .int (1 : Int32)), (.isub, 1, 0, 0, .null)] 55 [(9, .long (x9 * x4.toInt64)), (7, .long ((x7 * x3.toInt64) + (q1 * x9))), (0, .ref 0), (1, .ref 2), (2, .int x2), (3, .int x3), (4, .int x4), (5, .long x5), (11, .int x11)] [.int (x11 - (1 : Int32)), .long x4.toInt64, .long ((x7 * x3.toInt64) + (q1 * x9)), .long x5] ((wMin cy 0 mc mm) ++ (wRow cy 2 rK rf rg rpd rpn)) (by decide +kernel) rfl rfl ?_
      obtain ⟨q2, hq2, h⟩ := obd h
      refine G_cN C lk_0_53 ⟨Nat.le_of_ble_eq_true rfl, Nat.le_of_ble_eq_true rfl⟩ (by decide +kernel) [.long q2, .long ((x7 * x3.toInt64) + (q1 * x9)), .long x5] (c_X6_power cy x4.toInt64 (x11 - (1 : Int32)) q2 hq2) rfl rfl (Nat.le_of_ble_eq_true rfl) rfl ?_
      refine G_r C [(.lmul, 1, 0, 0, .null), (.aload_n 1, 1, 0, 0, .null), (.iload 11, 2, 0, 0, .null), (.iconst 1, 1, 0, 0, .int (1 : Int32)), (.isub, 1, 0, 0, .null)] 64 [(9, .long (x9 * x4.toInt64)), (7, .long ((x7 * x3.toInt64) + (q1 * x9))), (0, .ref 0), (1, .ref 2), (2, .int x2), (3, .int x3), (4, .int x4), (5, .long x5), (11, .int x11)] [.int (x11 - (1 : Int32)), .ref 2, .long (((x7 * x3.toInt64) + (q1 * x9)) * q2), .long x5] ((wMin cy 0 mc mm) ++ (wRow cy 2 rK rf rg rpd rpn)) (by decide +kernel) rfl rfl ?_
      obtain ⟨q3, hq3, h⟩ := obd h
      refine G_cV C lk_0_35 ⟨Nat.le_of_ble_eq_true rfl, Nat.le_of_ble_eq_true rfl⟩ (by decide +kernel) [2, 3, 4, 5, 6] [.int q3, .long (((x7 * x3.toInt64) + (q1 * x9)) * q2), .long x5] ((wMin cy 0 mc mm) ++ (wRow cy 2 rK rf rg rpd rpn)) (c_X3_at cy rK rf rg rpd rpn (x11 - (1 : Int32)) q3 hq3) rfl rfl (Nat.le_of_ble_eq_true rfl) rfl rfl ⟨rfl, rfl⟩ rfl rfl rfl ?_
      refine G_r C [(.i2l, 1, 0, 0, .null), (.lmul, 1, 0, 0, .null), (.ladd, 1, 0, 0, .null), (.lstore 5, 2, 0, 0, .null), (.iinc 11 (-1), 3, 0, 0, .int (-1 : Int32))] 75 [(11, .int (x11 + (-1 : Int32))), (5, .long (x5 + ((((x7 * x3.toInt64) + (q1 * x9)) * q2) * q3.toInt64))), (9, .long (x9 * x4.toInt64)), (7, .long ((x7 * x3.toInt64) + (q1 * x9))), (0, .ref 0), (1, .ref 2), (2, .int x2), (3, .int x3), (4, .int x4)] [] ((wMin cy 0 mc mm) ++ (wRow cy 2 rK rf rg rpd rpn)) (by decide +kernel) rfl rfl ?_
      refine G_goto C (off := -63) (tgt := 12) (by decide +kernel) rfl ?_
      refine G_lv [4, 5, 6, 7, 8, 1, 3, 2, 0] (lv' := [(0, .ref 0), (1, .ref 2), (2, .int x2), (3, .int x3), (4, .int x4), (5, .long (x5 + ((((x7 * x3.toInt64) + (q1 * x9)) * q2) * q3.toInt64))), (7, .long ((x7 * x3.toInt64) + (q1 * x9))), (9, .long (x9 * x4.toInt64)), (11, .int (x11 + (-1 : Int32)))]) rfl ?_
      exact ih x2 x3 x4 (x5 + ((((x7 * x3.toInt64) + (q1 * x9)) * q2) * q3.toInt64)) ((x7 * x3.toInt64) + (q1 * x9)) (x9 * x4.toInt64) (x11 + (-1 : Int32)) mc mm rK rf rg rpd rpn res h hex
set_option maxHeartbeats 4000000 in
set_option maxRecDepth 100000 in
theorem c_X0_quotientMean (cy : Nat → ClassId) (mc : Int32) (mm : Nat → Int64) (rK : Int32) (rf : Nat → Int32) (rg : Nat → Int64) (rpd : Int32) (rpn : Nat → Int64) (x2 : Int32) (x3 : Int32) (x4 : Int32) (res : Int64) (h : f_X0_quotientMean x2 x3 x4 mm rK rf = some res) : MG cy yX0_quotientMean cX0_quotientMean 12 (some .long) 2 46 [.ref 0, .ref 2, .int x2, .int x3, .int x4] ((wMin cy 0 mc mm) ++ (wRow cy 2 rK rf rg rpd rpn)) (some (.long res)) ((wMin cy 0 mc mm) ++ (wRow cy 2 rK rf rg rpd rpn)) := by
  refine MG_of (o := 0) (lv := [(0, .ref 0), (1, .ref 2), (2, .int x2), (3, .int x3), (4, .int x4)]) ⟨by decide +kernel, rfl⟩ (Nat.le_of_ble_eq_true rfl) rfl (fun k C hR => ?_)
  rw [f_X0_quotientMean] at h
  refine G_r C [(.lconst 0, 1, 0, 0, .long (0 : Int64)), (.lstore 5, 2, 0, 0, .null), (.lconst 0, 1, 0, 0, .long (0 : Int64)), (.lstore 7, 2, 0, 0, .null), (.lconst 1, 1, 0, 0, .long (1 : Int64)), (.lstore 9, 2, 0, 0, .null), (.iload_n 2, 1, 0, 0, .null), (.istore 11, 2, 0, 0, .null)] 12 [(11, .int x2), (9, .long (1 : Int64)), (7, .long (0 : Int64)), (5, .long (0 : Int64)), (0, .ref 0), (1, .ref 2), (2, .int x2), (3, .int x3), (4, .int x4)] [] ((wMin cy 0 mc mm) ++ (wRow cy 2 rK rf rg rpd rpn)) (by decide +kernel) rfl rfl ?_
  obtain ⟨q4, hq4, h⟩ := obd h
  refine G_lv [4, 5, 6, 7, 8, 3, 2, 1, 0] (lv' := [(0, .ref 0), (1, .ref 2), (2, .int x2), (3, .int x3), (4, .int x4), (5, .long (0 : Int64)), (7, .long (0 : Int64)), (9, .long (1 : Int64)), (11, .int x2)]) rfl ?_
  refine g_X0_quotientMean_L12 C 200 x2 x3 x4 (0 : Int64) (0 : Int64) (1 : Int64) x2 mc mm rK rf rg rpd rpn q4 hq4 ?_
  refine G_r C [(.lload 5, 2, 0, 0, .null)] 80 [(5, .long q4)] [.long q4] ((wMin cy 0 mc mm) ++ (wRow cy 2 rK rf rg rpd rpn)) (by decide +kernel) rfl rfl ?_
  have h := Option.some.inj h
  subst h
  exact G_lret C hR (by decide +kernel)
def f_X6_fraction (x1 : Int32) (x2 : Int32) (x3 : Int32) (x4 : Int32) (kb : Int32) (kn : Int32) (kf : Int32) (rK : Int32) (rf : Nat → Int32) (mc : Int32) (mm : Nat → Int64) : Option (Int64 × Int32 × Int32 × Int32 × Int32 × (Nat → Int64)) := (f_X6_isOutside x1 (1 : Int32) (3 : Int32)).bind fun q1 => if (bI q1) = 0 then ((f_X6_isOutside x2 (-20 : Int32) (20 : Int32)).bind fun q3 => if (bI q3) = 0 then ((f_X6_isOutside x3 (1 : Int32) (4 : Int32)).bind fun q5 => if (bI q5) = 0 then ((f_X6_isOutside x4 (0 : Int32) (1 : Int32)).bind fun q7 => if (bI q7) = 0 then ((f_X6_findPolynomial x1 rK rf mm).bind fun q8 => if (bI q8.1) = 0 then ((f_X6_refuse (-1000002 : Int32) kb kn kf).bind fun q13 => some (q13.1.toInt64, q13.2.1, q13.2.2.1, q13.2.2.2, q8.2.1, q8.2.2)) else ((f_X0_evaluate x1 x2 x3 q8.2.2).bind fun q9 => if q9 = (0 : Int64) then ((f_X6_refuse (-1000002 : Int32) kb kn kf).bind fun q12 => some (q12.1.toInt64, q12.2.1, q12.2.2.1, q12.2.2.2, q8.2.1, q8.2.2)) else ((f_X0_quotientMean x1 x2 x3 q8.2.2 rK rf).bind fun q10 => (f_X6_part (x3.toInt64 * q10) q9 x4).bind fun q11 => some (q11, kb, kn, kf, q8.2.1, q8.2.2)))) else ((f_X6_refuse (-1000001 : Int32) kb kn kf).bind fun q14 => some (q14.1.toInt64, q14.2.1, q14.2.2.1, q14.2.2.2, mc, mm))) else ((f_X6_refuse (-1000001 : Int32) kb kn kf).bind fun q6 => some (q6.1.toInt64, q6.2.1, q6.2.2.1, q6.2.2.2, mc, mm))) else ((f_X6_refuse (-1000001 : Int32) kb kn kf).bind fun q4 => some (q4.1.toInt64, q4.2.1, q4.2.2.1, q4.2.2.2, mc, mm))) else ((f_X6_refuse (-1000001 : Int32) kb kn kf).bind fun q2 => some (q2.1.toInt64, q2.2.1, q2.2.2.1, q2.2.2.2, mc, mm))
set_option maxHeartbeats 4000000 in
set_option maxRecDepth 100000 in
theorem c_X6_fraction (cy : Nat → ClassId) (kb : Int32) (kn : Int32) (kf : Int32) (rK : Int32) (rf : Nat → Int32) (rg : Nat → Int64) (rpd : Int32) (rpn : Nat → Int64) (sK : Int32) (sf : Nat → Int32) (sg : Nat → Int64) (spd : Int32) (spn : Nat → Int64) (mc : Int32) (mm : Nat → Int64) (nc : Int32) (nm : Nat → Int64) (pd : Int32) (pn : Nat → Int64) (vo : Int32) (vd : Int32) (vs : Nat → Int32) (tl : Int32) (tb : Nat → Int32) (eo : Int32) (et : Int32) (ed : Int32) (em : Bool) (ef : Int32) (ez : Int32) (ek : Nat → Int32) (es : Nat → Int32) (en : Nat → Int32) (fi : Nat → Int32) (x1 : Int32) (x2 : Int32) (x3 : Int32) (x4 : Int32) (res : (Int64 × Int32 × Int32 × Int32 × Int32 × (Nat → Int64))) (h : f_X6_fraction x1 x2 x3 x4 kb kn kf rK rf mc mm = some res) : MG cy yX6_fraction cX6_fraction 7 (some .long) 4 96 [.ref 0, .int x1, .int x2, .int x3, .int x4] (wSR cy kb kn kf rK rf rg rpd rpn sK sf sg spd spn mc mm nc nm pd pn vo vd vs tl tb eo et ed em ef ez ek es en fi) (some (.long res.1)) (wSR cy res.2.1 res.2.2.1 res.2.2.2.1 rK rf rg rpd rpn sK sf sg spd spn res.2.2.2.2.1 res.2.2.2.2.2 nc nm pd pn vo vd vs tl tb eo et ed em ef ez ek es en fi) := by
  refine MG_of (o := 6) (lv := [(0, .ref 0), (1, .int x1), (2, .int x2), (3, .int x3), (4, .int x4)]) ⟨by decide +kernel, rfl⟩ (Nat.le_of_ble_eq_true rfl) rfl (fun k C hR => ?_)
  rw [f_X6_fraction] at h
  refine G_r C [(.iload_n 1, 1, 0, 0, .null), (.iconst 1, 1, 0, 0, .int (1 : Int32)), (.iconst 3, 1, 0, 0, .int (3 : Int32))] 3 [(0, .ref 0), (1, .int x1), (2, .int x2), (3, .int x3), (4, .int x4)] [.int (3 : Int32), .int (1 : Int32), .int x1] (wSR cy kb kn kf rK rf rg rpd rpn sK sf sg spd spn mc mm nc nm pd pn vo vd vs tl tb eo et ed em ef ez ek es en fi) (by decide +kernel) rfl rfl ?_
  obtain ⟨q1, hq1, h⟩ := obd h
  refine G_cS C lk_6_101 ⟨Nat.le_of_ble_eq_true rfl, Nat.le_of_ble_eq_true rfl⟩ (by decide +kernel) [.int (bI q1)] (c_X6_isOutside cy x1 (1 : Int32) (3 : Int32) q1 hq1) rfl rfl (Nat.le_of_ble_eq_true rfl) rfl ?_
  refine G_if_ne C (off := 33) (tgt := 39) (by decide +kernel) rfl (fun c => ?_) (fun c => ?_)
  · rw [if_neg c] at h
    refine G_r C [(.aload_n 0, 1, 0, 0, .null)] 40 [(0, .ref 0), (1, .int x1), (2, .int x2), (3, .int x3), (4, .int x4)] [.ref 0] (wSR cy kb kn kf rK rf rg rpd rpn sK sf sg spd spn mc mm nc nm pd pn vo vd vs tl tb eo et ed em ef ez ek es en fi) (by decide +kernel) rfl rfl ?_
    refine G_ldc C co_6_105 (by decide +kernel) ?_
    obtain ⟨q2, hq2, h⟩ := obd h
    refine G_c0 C lk_6_73 ⟨Nat.le_of_ble_eq_true rfl, Nat.le_of_ble_eq_true rfl⟩ (by decide +kernel) [.int q2.1] (c_X6_refuse cy kb kn kf rK rf rg rpd rpn sK sf sg spd spn mc mm nc nm pd pn vo vd vs tl tb eo et ed em ef ez ek es en fi (-1000001 : Int32) q2 hq2) rfl rfl (Nat.le_of_ble_eq_true rfl) ⟨rfl, rfl⟩ rfl ?_
    refine G_r C [(.i2l, 1, 0, 0, .null)] 46 [(0, .ref 0), (1, .int x1), (2, .int x2), (3, .int x3), (4, .int x4)] [.long q2.1.toInt64] (wSR cy q2.2.1 q2.2.2.1 q2.2.2.2 rK rf rg rpd rpn sK sf sg spd spn mc mm nc nm pd pn vo vd vs tl tb eo et ed em ef ez ek es en fi) (by decide +kernel) rfl rfl ?_
    have h := Option.some.inj h
    subst h
    exact G_lret C hR (by decide +kernel)
  · rw [if_pos c] at h
    refine G_r C [(.iload_n 2, 1, 0, 0, .null), (.bipush (-20), 2, 0, 0, .int (-20 : Int32)), (.bipush 20, 2, 0, 0, .int (20 : Int32))] 14 [(0, .ref 0), (1, .int x1), (2, .int x2), (3, .int x3), (4, .int x4)] [.int (20 : Int32), .int (-20 : Int32), .int x2] (wSR cy kb kn kf rK rf rg rpd rpn sK sf sg spd spn mc mm nc nm pd pn vo vd vs tl tb eo et ed em ef ez ek es en fi) (by decide +kernel) rfl rfl ?_
    obtain ⟨q3, hq3, h⟩ := obd h
    refine G_cS C lk_6_101 ⟨Nat.le_of_ble_eq_true rfl, Nat.le_of_ble_eq_true rfl⟩ (by decide +kernel) [.int (bI q3)] (c_X6_isOutside cy x2 (-20 : Int32) (20 : Int32) q3 hq3) rfl rfl (Nat.le_of_ble_eq_true rfl) rfl ?_
    refine G_if_ne C (off := 22) (tgt := 39) (by decide +kernel) rfl (fun c => ?_) (fun c => ?_)
    · rw [if_neg c] at h
      refine G_r C [(.aload_n 0, 1, 0, 0, .null)] 40 [(0, .ref 0), (1, .int x1), (2, .int x2), (3, .int x3), (4, .int x4)] [.ref 0] (wSR cy kb kn kf rK rf rg rpd rpn sK sf sg spd spn mc mm nc nm pd pn vo vd vs tl tb eo et ed em ef ez ek es en fi) (by decide +kernel) rfl rfl ?_
      refine G_ldc C co_6_105 (by decide +kernel) ?_
      obtain ⟨q4, hq4, h⟩ := obd h
      refine G_c0 C lk_6_73 ⟨Nat.le_of_ble_eq_true rfl, Nat.le_of_ble_eq_true rfl⟩ (by decide +kernel) [.int q4.1] (c_X6_refuse cy kb kn kf rK rf rg rpd rpn sK sf sg spd spn mc mm nc nm pd pn vo vd vs tl tb eo et ed em ef ez ek es en fi (-1000001 : Int32) q4 hq4) rfl rfl (Nat.le_of_ble_eq_true rfl) ⟨rfl, rfl⟩ rfl ?_
      refine G_r C [(.i2l, 1, 0, 0, .null)] 46 [(0, .ref 0), (1, .int x1), (2, .int x2), (3, .int x3), (4, .int x4)] [.long q4.1.toInt64] (wSR cy q4.2.1 q4.2.2.1 q4.2.2.2 rK rf rg rpd rpn sK sf sg spd spn mc mm nc nm pd pn vo vd vs tl tb eo et ed em ef ez ek es en fi) (by decide +kernel) rfl rfl ?_
      have h := Option.some.inj h
      subst h
      exact G_lret C hR (by decide +kernel)
    · rw [if_pos c] at h
      refine G_r C [(.iload_n 3, 1, 0, 0, .null), (.iconst 1, 1, 0, 0, .int (1 : Int32)), (.iconst 4, 1, 0, 0, .int (4 : Int32))] 23 [(0, .ref 0), (1, .int x1), (2, .int x2), (3, .int x3), (4, .int x4)] [.int (4 : Int32), .int (1 : Int32), .int x3] (wSR cy kb kn kf rK rf rg rpd rpn sK sf sg spd spn mc mm nc nm pd pn vo vd vs tl tb eo et ed em ef ez ek es en fi) (by decide +kernel) rfl rfl ?_
      obtain ⟨q5, hq5, h⟩ := obd h
      refine G_cS C lk_6_101 ⟨Nat.le_of_ble_eq_true rfl, Nat.le_of_ble_eq_true rfl⟩ (by decide +kernel) [.int (bI q5)] (c_X6_isOutside cy x3 (1 : Int32) (4 : Int32) q5 hq5) rfl rfl (Nat.le_of_ble_eq_true rfl) rfl ?_
      refine G_if_ne C (off := 13) (tgt := 39) (by decide +kernel) rfl (fun c => ?_) (fun c => ?_)
      · rw [if_neg c] at h
        refine G_r C [(.aload_n 0, 1, 0, 0, .null)] 40 [(0, .ref 0), (1, .int x1), (2, .int x2), (3, .int x3), (4, .int x4)] [.ref 0] (wSR cy kb kn kf rK rf rg rpd rpn sK sf sg spd spn mc mm nc nm pd pn vo vd vs tl tb eo et ed em ef ez ek es en fi) (by decide +kernel) rfl rfl ?_
        refine G_ldc C co_6_105 (by decide +kernel) ?_
        obtain ⟨q6, hq6, h⟩ := obd h
        refine G_c0 C lk_6_73 ⟨Nat.le_of_ble_eq_true rfl, Nat.le_of_ble_eq_true rfl⟩ (by decide +kernel) [.int q6.1] (c_X6_refuse cy kb kn kf rK rf rg rpd rpn sK sf sg spd spn mc mm nc nm pd pn vo vd vs tl tb eo et ed em ef ez ek es en fi (-1000001 : Int32) q6 hq6) rfl rfl (Nat.le_of_ble_eq_true rfl) ⟨rfl, rfl⟩ rfl ?_
        refine G_r C [(.i2l, 1, 0, 0, .null)] 46 [(0, .ref 0), (1, .int x1), (2, .int x2), (3, .int x3), (4, .int x4)] [.long q6.1.toInt64] (wSR cy q6.2.1 q6.2.2.1 q6.2.2.2 rK rf rg rpd rpn sK sf sg spd spn mc mm nc nm pd pn vo vd vs tl tb eo et ed em ef ez ek es en fi) (by decide +kernel) rfl rfl ?_
        have h := Option.some.inj h
        subst h
        exact G_lret C hR (by decide +kernel)
      · rw [if_pos c] at h
        refine G_r C [(.iload 4, 2, 0, 0, .null), (.iconst 0, 1, 0, 0, .int (0 : Int32)), (.iconst 1, 1, 0, 0, .int (1 : Int32))] 33 [(0, .ref 0), (1, .int x1), (2, .int x2), (3, .int x3), (4, .int x4)] [.int (1 : Int32), .int (0 : Int32), .int x4] (wSR cy kb kn kf rK rf rg rpd rpn sK sf sg spd spn mc mm nc nm pd pn vo vd vs tl tb eo et ed em ef ez ek es en fi) (by decide +kernel) rfl rfl ?_
        obtain ⟨q7, hq7, h⟩ := obd h
        refine G_cS C lk_6_101 ⟨Nat.le_of_ble_eq_true rfl, Nat.le_of_ble_eq_true rfl⟩ (by decide +kernel) [.int (bI q7)] (c_X6_isOutside cy x4 (0 : Int32) (1 : Int32) q7 hq7) rfl rfl (Nat.le_of_ble_eq_true rfl) rfl ?_
        refine G_if_eq C (off := 11) (tgt := 47) (by decide +kernel) rfl (fun c => ?_) (fun c => ?_)
        · rw [if_pos c] at h
          refine G_r C [(.aload_n 0, 1, 0, 0, .null), (.iload_n 1, 1, 0, 0, .null)] 49 [(0, .ref 0), (1, .int x1), (2, .int x2), (3, .int x3), (4, .int x4)] [.int x1, .ref 0] (wSR cy kb kn kf rK rf rg rpd rpn sK sf sg spd spn mc mm nc nm pd pn vo vd vs tl tb eo et ed em ef ez ek es en fi) (by decide +kernel) rfl rfl ?_
          obtain ⟨q8, hq8, h⟩ := obd h
          refine G_c0 C lk_6_119 ⟨Nat.le_of_ble_eq_true rfl, Nat.le_of_ble_eq_true rfl⟩ (by decide +kernel) [.int (bI q8.1)] (c_X6_findPolynomial cy kb kn kf rK rf rg rpd rpn sK sf sg spd spn mc mm nc nm pd pn vo vd vs tl tb eo et ed em ef ez ek es en fi x1 q8 hq8) rfl rfl (Nat.le_of_ble_eq_true rfl) ⟨rfl, rfl⟩ rfl ?_
          refine G_if_ne C (off := 11) (tgt := 63) (by decide +kernel) rfl (fun c => ?_) (fun c => ?_)
          · rw [if_neg c] at h
            refine G_r C [(.aload_n 0, 1, 0, 0, .null), (.getfield 22, 3, 6, 2, .null), (.iload_n 1, 1, 0, 0, .null), (.iload_n 2, 1, 0, 0, .null), (.iload_n 3, 1, 0, 0, .null)] 70 [(0, .ref 0), (1, .int x1), (2, .int x2), (3, .int x3), (4, .int x4)] [.int x3, .int x2, .int x1, .ref 11] (wSR cy kb kn kf rK rf rg rpd rpn sK sf sg spd spn q8.2.1 q8.2.2 nc nm pd pn vo vd vs tl tb eo et ed em ef ez ek es en fi) (by decide +kernel) rfl rfl ?_
            obtain ⟨q9, hq9, h⟩ := obd h
            refine G_cV C lk_6_140 ⟨Nat.le_of_ble_eq_true rfl, Nat.le_of_ble_eq_true rfl⟩ (by decide +kernel) [11, 12] [.long q9] (wSR cy kb kn kf rK rf rg rpd rpn sK sf sg spd spn q8.2.1 q8.2.2 nc nm pd pn vo vd vs tl tb eo et ed em ef ez ek es en fi) (c_X0_evaluate cy q8.2.1 q8.2.2 x1 x2 x3 q9 hq9) rfl rfl (Nat.le_of_ble_eq_true rfl) rfl rfl ⟨rfl, rfl⟩ rfl rfl rfl ?_
            refine G_r C [(.lstore 5, 2, 0, 0, .null), (.lload 5, 2, 0, 0, .null), (.lconst 0, 1, 0, 0, .long (0 : Int64))] 78 [(5, .long q9), (0, .ref 0), (1, .int x1), (2, .int x2), (3, .int x3), (4, .int x4)] [.long (0 : Int64), .long q9] (wSR cy kb kn kf rK rf rg rpd rpn sK sf sg spd spn q8.2.1 q8.2.2 nc nm pd pn vo vd vs tl tb eo et ed em ef ez ek es en fi) (by decide +kernel) rfl rfl ?_
            refine G_lcmp_ne C (off := 11) (tgt := 90) (by decide +kernel) (by decide +kernel) rfl (fun c => ?_) (fun c => ?_)
            · rw [if_neg c] at h
              refine G_r C [(.iload_n 3, 1, 0, 0, .null), (.i2l, 1, 0, 0, .null), (.aload_n 0, 1, 0, 0, .null), (.getfield 22, 3, 6, 2, .null), (.aload_n 0, 1, 0, 0, .null), (.getfield 12, 3, 6, 0, .null), (.iload_n 1, 1, 0, 0, .null), (.iload_n 2, 1, 0, 0, .null), (.iload_n 3, 1, 0, 0, .null)] 103 [(5, .long q9), (0, .ref 0), (1, .int x1), (2, .int x2), (3, .int x3), (4, .int x4)] [.int x3, .int x2, .int x1, .ref 1, .ref 11, .long x3.toInt64] (wSR cy kb kn kf rK rf rg rpd rpn sK sf sg spd spn q8.2.1 q8.2.2 nc nm pd pn vo vd vs tl tb eo et ed em ef ez ek es en fi) (by decide +kernel) rfl rfl ?_
              obtain ⟨q10, hq10, h⟩ := obd h
              refine G_cV C lk_6_179 ⟨Nat.le_of_ble_eq_true rfl, Nat.le_of_ble_eq_true rfl⟩ (by decide +kernel) [11, 12, 1, 2, 3, 4, 5] [.long q10, .long x3.toInt64] (wSR cy kb kn kf rK rf rg rpd rpn sK sf sg spd spn q8.2.1 q8.2.2 nc nm pd pn vo vd vs tl tb eo et ed em ef ez ek es en fi) (c_X0_quotientMean cy q8.2.1 q8.2.2 rK rf rg rpd rpn x1 x2 x3 q10 hq10) rfl rfl (Nat.le_of_ble_eq_true rfl) rfl rfl ⟨rfl, rfl⟩ rfl rfl rfl ?_
              refine G_r C [(.lmul, 1, 0, 0, .null), (.lload 5, 2, 0, 0, .null), (.iload 4, 2, 0, 0, .null)] 111 [(5, .long q9), (0, .ref 0), (1, .int x1), (2, .int x2), (3, .int x3), (4, .int x4)] [.int x4, .long q9, .long (x3.toInt64 * q10)] (wSR cy kb kn kf rK rf rg rpd rpn sK sf sg spd spn q8.2.1 q8.2.2 nc nm pd pn vo vd vs tl tb eo et ed em ef ez ek es en fi) (by decide +kernel) rfl rfl ?_
              obtain ⟨q11, hq11, h⟩ := obd h
              refine G_cS C lk_6_127 ⟨Nat.le_of_ble_eq_true rfl, Nat.le_of_ble_eq_true rfl⟩ (by decide +kernel) [.long q11] (c_X6_part cy (x3.toInt64 * q10) q9 x4 q11 hq11) rfl rfl (Nat.le_of_ble_eq_true rfl) rfl ?_
              have h := Option.some.inj h
              subst h
              exact G_lret C hR (by decide +kernel)
            · rw [if_pos c] at h
              refine G_r C [(.aload_n 0, 1, 0, 0, .null)] 83 [(5, .long q9), (0, .ref 0), (1, .int x1), (2, .int x2), (3, .int x3), (4, .int x4)] [.ref 0] (wSR cy kb kn kf rK rf rg rpd rpn sK sf sg spd spn q8.2.1 q8.2.2 nc nm pd pn vo vd vs tl tb eo et ed em ef ez ek es en fi) (by decide +kernel) rfl rfl ?_
              refine G_ldc C co_6_110 (by decide +kernel) ?_
              obtain ⟨q12, hq12, h⟩ := obd h
              refine G_c0 C lk_6_73 ⟨Nat.le_of_ble_eq_true rfl, Nat.le_of_ble_eq_true rfl⟩ (by decide +kernel) [.int q12.1] (c_X6_refuse cy kb kn kf rK rf rg rpd rpn sK sf sg spd spn q8.2.1 q8.2.2 nc nm pd pn vo vd vs tl tb eo et ed em ef ez ek es en fi (-1000002 : Int32) q12 hq12) rfl rfl (Nat.le_of_ble_eq_true rfl) ⟨rfl, rfl⟩ rfl ?_
              refine G_r C [(.i2l, 1, 0, 0, .null)] 89 [(5, .long q9), (0, .ref 0), (1, .int x1), (2, .int x2), (3, .int x3), (4, .int x4)] [.long q12.1.toInt64] (wSR cy q12.2.1 q12.2.2.1 q12.2.2.2 rK rf rg rpd rpn sK sf sg spd spn q8.2.1 q8.2.2 nc nm pd pn vo vd vs tl tb eo et ed em ef ez ek es en fi) (by decide +kernel) rfl rfl ?_
              have h := Option.some.inj h
              subst h
              exact G_lret C hR (by decide +kernel)
          · rw [if_pos c] at h
            refine G_r C [(.aload_n 0, 1, 0, 0, .null)] 56 [(0, .ref 0), (1, .int x1), (2, .int x2), (3, .int x3), (4, .int x4)] [.ref 0] (wSR cy kb kn kf rK rf rg rpd rpn sK sf sg spd spn q8.2.1 q8.2.2 nc nm pd pn vo vd vs tl tb eo et ed em ef ez ek es en fi) (by decide +kernel) rfl rfl ?_
            refine G_ldc C co_6_110 (by decide +kernel) ?_
            obtain ⟨q13, hq13, h⟩ := obd h
            refine G_c0 C lk_6_73 ⟨Nat.le_of_ble_eq_true rfl, Nat.le_of_ble_eq_true rfl⟩ (by decide +kernel) [.int q13.1] (c_X6_refuse cy kb kn kf rK rf rg rpd rpn sK sf sg spd spn q8.2.1 q8.2.2 nc nm pd pn vo vd vs tl tb eo et ed em ef ez ek es en fi (-1000002 : Int32) q13 hq13) rfl rfl (Nat.le_of_ble_eq_true rfl) ⟨rfl, rfl⟩ rfl ?_
            refine G_r C [(.i2l, 1, 0, 0, .null)] 62 [(0, .ref 0), (1, .int x1), (2, .int x2), (3, .int x3), (4, .int x4)] [.long q13.1.toInt64] (wSR cy q13.2.1 q13.2.2.1 q13.2.2.2 rK rf rg rpd rpn sK sf sg spd spn q8.2.1 q8.2.2 nc nm pd pn vo vd vs tl tb eo et ed em ef ez ek es en fi) (by decide +kernel) rfl rfl ?_
            have h := Option.some.inj h
            subst h
            exact G_lret C hR (by decide +kernel)
        · rw [if_neg c] at h
          refine G_r C [(.aload_n 0, 1, 0, 0, .null)] 40 [(0, .ref 0), (1, .int x1), (2, .int x2), (3, .int x3), (4, .int x4)] [.ref 0] (wSR cy kb kn kf rK rf rg rpd rpn sK sf sg spd spn mc mm nc nm pd pn vo vd vs tl tb eo et ed em ef ez ek es en fi) (by decide +kernel) rfl rfl ?_
          refine G_ldc C co_6_105 (by decide +kernel) ?_
          obtain ⟨q14, hq14, h⟩ := obd h
          refine G_c0 C lk_6_73 ⟨Nat.le_of_ble_eq_true rfl, Nat.le_of_ble_eq_true rfl⟩ (by decide +kernel) [.int q14.1] (c_X6_refuse cy kb kn kf rK rf rg rpd rpn sK sf sg spd spn mc mm nc nm pd pn vo vd vs tl tb eo et ed em ef ez ek es en fi (-1000001 : Int32) q14 hq14) rfl rfl (Nat.le_of_ble_eq_true rfl) ⟨rfl, rfl⟩ rfl ?_
          refine G_r C [(.i2l, 1, 0, 0, .null)] 46 [(0, .ref 0), (1, .int x1), (2, .int x2), (3, .int x3), (4, .int x4)] [.long q14.1.toInt64] (wSR cy q14.2.1 q14.2.2.1 q14.2.2.2 rK rf rg rpd rpn sK sf sg spd spn mc mm nc nm pd pn vo vd vs tl tb eo et ed em ef ez ek es en fi) (by decide +kernel) rfl rfl ?_
          have h := Option.some.inj h
          subst h
          exact G_lret C hR (by decide +kernel)
