def f_X6_step (x1 : Int32) (x2 : Int32) (kb : Int32) (kn : Int32) (kf : Int32) (rK : Int32) (rf : Nat → Int32) (mc : Int32) (mm : Nat → Int64) (nc : Int32) (nm : Nat → Int64) : Option (Int64 × Int32 × Int32 × Int32 × Int32 × (Nat → Int64) × Int32 × (Nat → Int64)) := (f_X6_isOutside x1 (1 : Int32) (6 : Int32)).bind fun q1 => if (bI q1) = 0 then ((f_X6_isOutside x2 (0 : Int32) (1 : Int32)).bind fun q3 => if (bI q3) = 0 then (if (2 : Int32) = 0 then none else if (2 : Int32) = 0 then none else if (x1 - x1 / (2 : Int32) * (2 : Int32)) = (1 : Int32) then ((f_X3_hasTable (1 : Int32) ((x1 + (1 : Int32)) / (2 : Int32)) rK).bind fun q16 => if (bI q16) = 0 then ((f_X6_refuse (-1000002 : Int32) kb kn kf).bind fun q17 => some (q17.1.toInt64, q17.2.1, q17.2.2.1, q17.2.2.2, mc, mm, nc, nm)) else ((f_X0_fill (0 : Int32) mm rK rf).bind fun q18 => (f_X0_fill (1 : Int32) nm rK rf).bind fun q19 => (f_X0_det ((x1 + (1 : Int32)) / (2 : Int32)) q19.2).bind fun q20 => (f_X0_det (((x1 + (1 : Int32)) / (2 : Int32)) - (1 : Int32)) q18.2).bind fun q21 => (f_X0_det ((x1 + (1 : Int32)) / (2 : Int32)) q18.2).bind fun q22 => (f_X0_det (((x1 + (1 : Int32)) / (2 : Int32)) - (1 : Int32)) q19.2).bind fun q23 => if (q22 * q23) = (0 : Int64) then ((f_X6_refuse (-1000002 : Int32) kb kn kf).bind fun q25 => some (q25.1.toInt64, q25.2.1, q25.2.2.1, q25.2.2.2, q18.1, q18.2, q19.1, q19.2)) else ((f_X6_part (q20 * q21) (q22 * q23) x2).bind fun q24 => some (q24, kb, kn, kf, q18.1, q18.2, q19.1, q19.2)))) else ((f_X3_hasTable (1 : Int32) ((x1 + (1 : Int32)) / (2 : Int32)) rK).bind fun q4 => if (bI q4) = 0 then ((f_X6_refuse (-1000002 : Int32) kb kn kf).bind fun q5 => some (q5.1.toInt64, q5.2.1, q5.2.2.1, q5.2.2.2, mc, mm, nc, nm)) else ((f_X3_hasTable (0 : Int32) (((x1 + (1 : Int32)) / (2 : Int32)) + (1 : Int32)) rK).bind fun q6 => if (bI q6) = 0 then ((f_X6_refuse (-1000002 : Int32) kb kn kf).bind fun q15 => some (q15.1.toInt64, q15.2.1, q15.2.2.1, q15.2.2.2, mc, mm, nc, nm)) else ((f_X0_fill (0 : Int32) mm rK rf).bind fun q7 => (f_X0_fill (1 : Int32) nm rK rf).bind fun q8 => (f_X0_det (((x1 + (1 : Int32)) / (2 : Int32)) + (1 : Int32)) q7.2).bind fun q9 => (f_X0_det (((x1 + (1 : Int32)) / (2 : Int32)) - (1 : Int32)) q8.2).bind fun q10 => (f_X0_det ((x1 + (1 : Int32)) / (2 : Int32)) q7.2).bind fun q11 => (f_X0_det ((x1 + (1 : Int32)) / (2 : Int32)) q8.2).bind fun q12 => if (q11 * q12) = (0 : Int64) then ((f_X6_refuse (-1000002 : Int32) kb kn kf).bind fun q14 => some (q14.1.toInt64, q14.2.1, q14.2.2.1, q14.2.2.2, q7.1, q7.2, q8.1, q8.2)) else ((f_X6_part (q9 * q10) (q11 * q12) x2).bind fun q13 => some (q13, kb, kn, kf, q7.1, q7.2, q8.1, q8.2)))))) else ((f_X6_refuse (-1000001 : Int32) kb kn kf).bind fun q26 => some (q26.1.toInt64, q26.2.1, q26.2.2.1, q26.2.2.2, mc, mm, nc, nm))) else ((f_X6_refuse (-1000001 : Int32) kb kn kf).bind fun q2 => some (q2.1.toInt64, q2.2.1, q2.2.2.1, q2.2.2.2, mc, mm, nc, nm))
set_option maxHeartbeats 4000000 in
set_option maxRecDepth 100000 in
theorem c_X6_step (cy : Nat → ClassId) (kb : Int32) (kn : Int32) (kf : Int32) (rK : Int32) (rf : Nat → Int32) (rg : Nat → Int64) (rpd : Int32) (rpn : Nat → Int64) (sK : Int32) (sf : Nat → Int32) (sg : Nat → Int64) (spd : Int32) (spn : Nat → Int64) (mc : Int32) (mm : Nat → Int64) (nc : Int32) (nm : Nat → Int64) (pd : Int32) (pn : Nat → Int64) (vo : Int32) (vd : Int32) (vs : Nat → Int32) (tl : Int32) (tb : Nat → Int32) (eo : Int32) (et : Int32) (ed : Int32) (em : Bool) (ef : Int32) (ez : Int32) (ek : Nat → Int32) (es : Nat → Int32) (en : Nat → Int32) (fi : Nat → Int32) (x1 : Int32) (x2 : Int32) (res : (Int64 × Int32 × Int32 × Int32 × Int32 × (Nat → Int64) × Int32 × (Nat → Int64))) (h : f_X6_step x1 x2 kb kn kf rK rf mc mm nc nm = some res) : MG cy yX6_step cX6_step 9 (some .long) 3 75 [.ref 0, .int x1, .int x2] (wSR cy kb kn kf rK rf rg rpd rpn sK sf sg spd spn mc mm nc nm pd pn vo vd vs tl tb eo et ed em ef ez ek es en fi) (some (.long res.1)) (wSR cy res.2.1 res.2.2.1 res.2.2.2.1 rK rf rg rpd rpn sK sf sg spd spn res.2.2.2.2.1 res.2.2.2.2.2.1 res.2.2.2.2.2.2.1 res.2.2.2.2.2.2.2 pd pn vo vd vs tl tb eo et ed em ef ez ek es en fi) := by
  refine MG_of (o := 6) (lv := [(0, .ref 0), (1, .int x1), (2, .int x2)]) ⟨by decide +kernel, rfl⟩ (Nat.le_of_ble_eq_true rfl) rfl (fun k C hR => ?_)
  rw [f_X6_step] at h
  refine G_r C [(.iload_n 1, 1, 0, 0, .null), (.iconst 1, 1, 0, 0, .int (1 : Int32)), (.bipush 6, 2, 0, 0, .int (6 : Int32))] 4 [(0, .ref 0), (1, .int x1), (2, .int x2)] [.int (6 : Int32), .int (1 : Int32), .int x1] (wSR cy kb kn kf rK rf rg rpd rpn sK sf sg spd spn mc mm nc nm pd pn vo vd vs tl tb eo et ed em ef ez ek es en fi) (by decide +kernel) rfl rfl ?_
  obtain ⟨q1, hq1, h⟩ := obd h
  refine G_cS C lk_6_101 ⟨Nat.le_of_ble_eq_true rfl, Nat.le_of_ble_eq_true rfl⟩ (by decide +kernel) [.int (bI q1)] (c_X6_isOutside cy x1 (1 : Int32) (6 : Int32) q1 hq1) rfl rfl (Nat.le_of_ble_eq_true rfl) rfl ?_
  refine G_if_ne C (off := 12) (tgt := 19) (by decide +kernel) rfl (fun c => ?_) (fun c => ?_)
  · rw [if_neg c] at h
    refine G_r C [(.aload_n 0, 1, 0, 0, .null)] 20 [(0, .ref 0), (1, .int x1), (2, .int x2)] [.ref 0] (wSR cy kb kn kf rK rf rg rpd rpn sK sf sg spd spn mc mm nc nm pd pn vo vd vs tl tb eo et ed em ef ez ek es en fi) (by decide +kernel) rfl rfl ?_
    refine G_ldc C co_6_105 (by decide +kernel) ?_
    obtain ⟨q2, hq2, h⟩ := obd h
    refine G_c0 C lk_6_73 ⟨Nat.le_of_ble_eq_true rfl, Nat.le_of_ble_eq_true rfl⟩ (by decide +kernel) [.int q2.1] (c_X6_refuse cy kb kn kf rK rf rg rpd rpn sK sf sg spd spn mc mm nc nm pd pn vo vd vs tl tb eo et ed em ef ez ek es en fi (-1000001 : Int32) q2 hq2) rfl rfl (Nat.le_of_ble_eq_true rfl) ⟨rfl, rfl⟩ rfl ?_
    refine G_r C [(.i2l, 1, 0, 0, .null)] 26 [(0, .ref 0), (1, .int x1), (2, .int x2)] [.long q2.1.toInt64] (wSR cy q2.2.1 q2.2.2.1 q2.2.2.2 rK rf rg rpd rpn sK sf sg spd spn mc mm nc nm pd pn vo vd vs tl tb eo et ed em ef ez ek es en fi) (by decide +kernel) rfl rfl ?_
    have h := Option.some.inj h
    subst h
    exact G_lret C hR (by decide +kernel)
  · rw [if_pos c] at h
    refine G_r C [(.iload_n 2, 1, 0, 0, .null), (.iconst 0, 1, 0, 0, .int (0 : Int32)), (.iconst 1, 1, 0, 0, .int (1 : Int32))] 13 [(0, .ref 0), (1, .int x1), (2, .int x2)] [.int (1 : Int32), .int (0 : Int32), .int x2] (wSR cy kb kn kf rK rf rg rpd rpn sK sf sg spd spn mc mm nc nm pd pn vo vd vs tl tb eo et ed em ef ez ek es en fi) (by decide +kernel) rfl rfl ?_
    obtain ⟨q3, hq3, h⟩ := obd h
    refine G_cS C lk_6_101 ⟨Nat.le_of_ble_eq_true rfl, Nat.le_of_ble_eq_true rfl⟩ (by decide +kernel) [.int (bI q3)] (c_X6_isOutside cy x2 (0 : Int32) (1 : Int32) q3 hq3) rfl rfl (Nat.le_of_ble_eq_true rfl) rfl ?_
    refine G_if_eq C (off := 11) (tgt := 27) (by decide +kernel) rfl (fun c => ?_) (fun c => ?_)
    · rw [if_pos c] at h
      refine G_r C [(.iload_n 1, 1, 0, 0, .null), (.iconst 1, 1, 0, 0, .int (1 : Int32)), (.iadd, 1, 0, 0, .null), (.iconst 2, 1, 0, 0, .int (2 : Int32))] 31 [(0, .ref 0), (1, .int x1), (2, .int x2)] [.int (2 : Int32), .int (x1 + (1 : Int32))] (wSR cy kb kn kf rK rf rg rpd rpn sK sf sg spd spn mc mm nc nm pd pn vo vd vs tl tb eo et ed em ef ez ek es en fi) (by decide +kernel) rfl rfl ?_
      obtain ⟨cg, h⟩ := oob h
      refine G_idiv C (by decide +kernel) cg ?_
      refine G_r C [(.istore_n 3, 1, 0, 0, .null), (.iload_n 1, 1, 0, 0, .null), (.iconst 2, 1, 0, 0, .int (2 : Int32))] 35 [(3, .int ((x1 + (1 : Int32)) / (2 : Int32))), (0, .ref 0), (1, .int x1), (2, .int x2)] [.int (2 : Int32), .int x1] (wSR cy kb kn kf rK rf rg rpd rpn sK sf sg spd spn mc mm nc nm pd pn vo vd vs tl tb eo et ed em ef ez ek es en fi) (by decide +kernel) rfl rfl ?_
      obtain ⟨cg, h⟩ := oob h
      refine G_irem C (by decide +kernel) cg ?_
      refine G_r C [(.iconst 1, 1, 0, 0, .int (1 : Int32))] 37 [(3, .int ((x1 + (1 : Int32)) / (2 : Int32))), (0, .ref 0), (1, .int x1), (2, .int x2)] [.int (1 : Int32), .int (x1 - x1 / (2 : Int32) * (2 : Int32))] (wSR cy kb kn kf rK rf rg rpd rpn sK sf sg spd spn mc mm nc nm pd pn vo vd vs tl tb eo et ed em ef ez ek es en fi) (by decide +kernel) rfl rfl ?_
      refine G_icmp_ne C (off := 7) (tgt := 44) (by decide +kernel) rfl (fun c => ?_) (fun c => ?_)
      · rw [if_neg c] at h
        refine G_r C [(.iconst 0, 1, 0, 0, .int (0 : Int32)), (.istore 4, 2, 0, 0, .null), (.aload_n 0, 1, 0, 0, .null), (.getfield 12, 3, 6, 0, .null), (.iconst 1, 1, 0, 0, .int (1 : Int32)), (.iload_n 3, 1, 0, 0, .null)] 53 [(4, .int (0 : Int32)), (3, .int ((x1 + (1 : Int32)) / (2 : Int32))), (0, .ref 0), (1, .int x1), (2, .int x2)] [.int ((x1 + (1 : Int32)) / (2 : Int32)), .int (1 : Int32), .ref 1] (wSR cy kb kn kf rK rf rg rpd rpn sK sf sg spd spn mc mm nc nm pd pn vo vd vs tl tb eo et ed em ef ez ek es en fi) (by decide +kernel) rfl rfl ?_
        obtain ⟨q4, hq4, h⟩ := obd h
        refine G_cV C lk_6_106 ⟨Nat.le_of_ble_eq_true rfl, Nat.le_of_ble_eq_true rfl⟩ (by decide +kernel) [1, 2, 3, 4, 5] [.int (bI q4)] (wSR cy kb kn kf rK rf rg rpd rpn sK sf sg spd spn mc mm nc nm pd pn vo vd vs tl tb eo et ed em ef ez ek es en fi) (c_X3_hasTable cy rK rf rg rpd rpn (1 : Int32) ((x1 + (1 : Int32)) / (2 : Int32)) q4 hq4) rfl rfl (Nat.le_of_ble_eq_true rfl) rfl rfl ⟨rfl, rfl⟩ rfl rfl rfl ?_
        refine G_if_eq C (off := 22) (tgt := 78) (by decide +kernel) rfl (fun c => ?_) (fun c => ?_)
        · rw [if_pos c] at h
          refine G_r C [(.aload_n 0, 1, 0, 0, .null)] 79 [(4, .int (0 : Int32)), (3, .int ((x1 + (1 : Int32)) / (2 : Int32))), (0, .ref 0), (1, .int x1), (2, .int x2)] [.ref 0] (wSR cy kb kn kf rK rf rg rpd rpn sK sf sg spd spn mc mm nc nm pd pn vo vd vs tl tb eo et ed em ef ez ek es en fi) (by decide +kernel) rfl rfl ?_
          refine G_ldc C co_6_110 (by decide +kernel) ?_
          obtain ⟨q5, hq5, h⟩ := obd h
          refine G_c0 C lk_6_73 ⟨Nat.le_of_ble_eq_true rfl, Nat.le_of_ble_eq_true rfl⟩ (by decide +kernel) [.int q5.1] (c_X6_refuse cy kb kn kf rK rf rg rpd rpn sK sf sg spd spn mc mm nc nm pd pn vo vd vs tl tb eo et ed em ef ez ek es en fi (-1000002 : Int32) q5 hq5) rfl rfl (Nat.le_of_ble_eq_true rfl) ⟨rfl, rfl⟩ rfl ?_
          refine G_r C [(.i2l, 1, 0, 0, .null)] 85 [(4, .int (0 : Int32)), (3, .int ((x1 + (1 : Int32)) / (2 : Int32))), (0, .ref 0), (1, .int x1), (2, .int x2)] [.long q5.1.toInt64] (wSR cy q5.2.1 q5.2.2.1 q5.2.2.2 rK rf rg rpd rpn sK sf sg spd spn mc mm nc nm pd pn vo vd vs tl tb eo et ed em ef ez ek es en fi) (by decide +kernel) rfl rfl ?_
          have h := Option.some.inj h
          subst h
          exact G_lret C hR (by decide +kernel)
        · rw [if_neg c] at h
          refine G_r C [(.iload 4, 2, 0, 0, .null)] 61 [(4, .int (0 : Int32)), (3, .int ((x1 + (1 : Int32)) / (2 : Int32))), (0, .ref 0), (1, .int x1), (2, .int x2)] [.int (0 : Int32)] (wSR cy kb kn kf rK rf rg rpd rpn sK sf sg spd spn mc mm nc nm pd pn vo vd vs tl tb eo et ed em ef ez ek es en fi) (by decide +kernel) rfl rfl ?_
          refine G_if_ne C (off := 25) (tgt := 86) (by decide +kernel) rfl (fun c => absurd (by decide) c) (fun _ => ?_)
          refine G_r C [(.aload_n 0, 1, 0, 0, .null), (.getfield 12, 3, 6, 0, .null), (.iconst 0, 1, 0, 0, .int (0 : Int32)), (.iload_n 3, 1, 0, 0, .null), (.iconst 1, 1, 0, 0, .int (1 : Int32)), (.iadd, 1, 0, 0, .null)] 72 [(4, .int (0 : Int32)), (3, .int ((x1 + (1 : Int32)) / (2 : Int32))), (0, .ref 0), (1, .int x1), (2, .int x2)] [.int (((x1 + (1 : Int32)) / (2 : Int32)) + (1 : Int32)), .int (0 : Int32), .ref 1] (wSR cy kb kn kf rK rf rg rpd rpn sK sf sg spd spn mc mm nc nm pd pn vo vd vs tl tb eo et ed em ef ez ek es en fi) (by decide +kernel) rfl rfl ?_
          obtain ⟨q6, hq6, h⟩ := obd h
          refine G_cV C lk_6_106 ⟨Nat.le_of_ble_eq_true rfl, Nat.le_of_ble_eq_true rfl⟩ (by decide +kernel) [1, 2, 3, 4, 5] [.int (bI q6)] (wSR cy kb kn kf rK rf rg rpd rpn sK sf sg spd spn mc mm nc nm pd pn vo vd vs tl tb eo et ed em ef ez ek es en fi) (c_X3_hasTable cy rK rf rg rpd rpn (0 : Int32) (((x1 + (1 : Int32)) / (2 : Int32)) + (1 : Int32)) q6 hq6) rfl rfl (Nat.le_of_ble_eq_true rfl) rfl rfl ⟨rfl, rfl⟩ rfl rfl rfl ?_
          refine G_if_ne C (off := 11) (tgt := 86) (by decide +kernel) rfl (fun c => ?_) (fun c => ?_)
          · rw [if_neg c] at h
            refine G_r C [(.aload_n 0, 1, 0, 0, .null), (.getfield 22, 3, 6, 2, .null), (.aload_n 0, 1, 0, 0, .null), (.getfield 12, 3, 6, 0, .null), (.iconst 0, 1, 0, 0, .int (0 : Int32))] 95 [(4, .int (0 : Int32)), (3, .int ((x1 + (1 : Int32)) / (2 : Int32))), (0, .ref 0), (1, .int x1), (2, .int x2)] [.int (0 : Int32), .ref 1, .ref 11] (wSR cy kb kn kf rK rf rg rpd rpn sK sf sg spd spn mc mm nc nm pd pn vo vd vs tl tb eo et ed em ef ez ek es en fi) (by decide +kernel) rfl rfl ?_
            obtain ⟨q7, hq7, h⟩ := obd h
            refine G_cV C lk_6_111 ⟨Nat.le_of_ble_eq_true rfl, Nat.le_of_ble_eq_true rfl⟩ (by decide +kernel) [11, 12, 1, 2, 3, 4, 5] [] (wSR cy kb kn kf rK rf rg rpd rpn sK sf sg spd spn q7.1 q7.2 nc nm pd pn vo vd vs tl tb eo et ed em ef ez ek es en fi) (c_X0_fill cy mc mm rK rf rg rpd rpn (0 : Int32) q7 hq7) rfl rfl (Nat.le_of_ble_eq_true rfl) rfl rfl ⟨rfl, rfl⟩ rfl rfl rfl ?_
            refine G_r C [(.aload_n 0, 1, 0, 0, .null), (.getfield 26, 3, 6, 3, .null), (.aload_n 0, 1, 0, 0, .null), (.getfield 12, 3, 6, 0, .null), (.iconst 1, 1, 0, 0, .int (1 : Int32))] 107 [(4, .int (0 : Int32)), (3, .int ((x1 + (1 : Int32)) / (2 : Int32))), (0, .ref 0), (1, .int x1), (2, .int x2)] [.int (1 : Int32), .ref 1, .ref 13] (wSR cy kb kn kf rK rf rg rpd rpn sK sf sg spd spn q7.1 q7.2 nc nm pd pn vo vd vs tl tb eo et ed em ef ez ek es en fi) (by decide +kernel) rfl rfl ?_
            obtain ⟨q8, hq8, h⟩ := obd h
            refine G_cV C lk_6_111 ⟨Nat.le_of_ble_eq_true rfl, Nat.le_of_ble_eq_true rfl⟩ (by decide +kernel) [13, 14, 1, 2, 3, 4, 5] [] (wSR cy kb kn kf rK rf rg rpd rpn sK sf sg spd spn q7.1 q7.2 q8.1 q8.2 pd pn vo vd vs tl tb eo et ed em ef ez ek es en fi) (c_X0_fill cy nc nm rK rf rg rpd rpn (1 : Int32) q8 hq8) rfl rfl (Nat.le_of_ble_eq_true rfl) rfl rfl ⟨rfl, rfl⟩ rfl rfl rfl ?_
            refine G_r C [(.iload 4, 2, 0, 0, .null)] 112 [(4, .int (0 : Int32)), (3, .int ((x1 + (1 : Int32)) / (2 : Int32))), (0, .ref 0), (1, .int x1), (2, .int x2)] [.int (0 : Int32)] (wSR cy kb kn kf rK rf rg rpd rpn sK sf sg spd spn q7.1 q7.2 q8.1 q8.2 pd pn vo vd vs tl tb eo et ed em ef ez ek es en fi) (by decide +kernel) rfl rfl ?_
            refine G_if_eq C (off := 25) (tgt := 137) (by decide +kernel) rfl (fun _ => ?_) (fun c => absurd (by decide) c)
            refine G_r C [(.aload_n 0, 1, 0, 0, .null), (.getfield 22, 3, 6, 2, .null), (.iload_n 3, 1, 0, 0, .null), (.iconst 1, 1, 0, 0, .int (1 : Int32)), (.iadd, 1, 0, 0, .null)] 144 [(4, .int (0 : Int32)), (3, .int ((x1 + (1 : Int32)) / (2 : Int32))), (0, .ref 0), (1, .int x1), (2, .int x2)] [.int (((x1 + (1 : Int32)) / (2 : Int32)) + (1 : Int32)), .ref 11] (wSR cy kb kn kf rK rf rg rpd rpn sK sf sg spd spn q7.1 q7.2 q8.1 q8.2 pd pn vo vd vs tl tb eo et ed em ef ez ek es en fi) (by decide +kernel) rfl rfl ?_
            obtain ⟨q9, hq9, h⟩ := obd h
            refine G_cV C lk_6_115 ⟨Nat.le_of_ble_eq_true rfl, Nat.le_of_ble_eq_true rfl⟩ (by decide +kernel) [11, 12] [.long q9] (wSR cy kb kn kf rK rf rg rpd rpn sK sf sg spd spn q7.1 q7.2 q8.1 q8.2 pd pn vo vd vs tl tb eo et ed em ef ez ek es en fi) (c_X0_det cy q7.1 q7.2 (((x1 + (1 : Int32)) / (2 : Int32)) + (1 : Int32)) q9 hq9) rfl rfl (Nat.le_of_ble_eq_true rfl) rfl rfl ⟨rfl, rfl⟩ rfl rfl rfl ?_
            refine G_r C [(.aload_n 0, 1, 0, 0, .null), (.getfield 26, 3, 6, 3, .null), (.iload_n 3, 1, 0, 0, .null), (.iconst 1, 1, 0, 0, .int (1 : Int32)), (.isub, 1, 0, 0, .null)] 154 [(4, .int (0 : Int32)), (3, .int ((x1 + (1 : Int32)) / (2 : Int32))), (0, .ref 0), (1, .int x1), (2, .int x2)] [.int (((x1 + (1 : Int32)) / (2 : Int32)) - (1 : Int32)), .ref 13, .long q9] (wSR cy kb kn kf rK rf rg rpd rpn sK sf sg spd spn q7.1 q7.2 q8.1 q8.2 pd pn vo vd vs tl tb eo et ed em ef ez ek es en fi) (by decide +kernel) rfl rfl ?_
            obtain ⟨q10, hq10, h⟩ := obd h
            refine G_cV C lk_6_115 ⟨Nat.le_of_ble_eq_true rfl, Nat.le_of_ble_eq_true rfl⟩ (by decide +kernel) [13, 14] [.long q10, .long q9] (wSR cy kb kn kf rK rf rg rpd rpn sK sf sg spd spn q7.1 q7.2 q8.1 q8.2 pd pn vo vd vs tl tb eo et ed em ef ez ek es en fi) (c_X0_det cy q8.1 q8.2 (((x1 + (1 : Int32)) / (2 : Int32)) - (1 : Int32)) q10 hq10) rfl rfl (Nat.le_of_ble_eq_true rfl) rfl rfl ⟨rfl, rfl⟩ rfl rfl rfl ?_
            refine G_r C [(.lmul, 1, 0, 0, .null), (.lstore 5, 2, 0, 0, .null), (.aload_n 0, 1, 0, 0, .null), (.getfield 22, 3, 6, 2, .null), (.iload_n 3, 1, 0, 0, .null)] 165 [(5, .long (q9 * q10)), (4, .int (0 : Int32)), (3, .int ((x1 + (1 : Int32)) / (2 : Int32))), (0, .ref 0), (1, .int x1), (2, .int x2)] [.int ((x1 + (1 : Int32)) / (2 : Int32)), .ref 11] (wSR cy kb kn kf rK rf rg rpd rpn sK sf sg spd spn q7.1 q7.2 q8.1 q8.2 pd pn vo vd vs tl tb eo et ed em ef ez ek es en fi) (by decide +kernel) rfl rfl ?_
            obtain ⟨q11, hq11, h⟩ := obd h
            refine G_cV C lk_6_115 ⟨Nat.le_of_ble_eq_true rfl, Nat.le_of_ble_eq_true rfl⟩ (by decide +kernel) [11, 12] [.long q11] (wSR cy kb kn kf rK rf rg rpd rpn sK sf sg spd spn q7.1 q7.2 q8.1 q8.2 pd pn vo vd vs tl tb eo et ed em ef ez ek es en fi) (c_X0_det cy q7.1 q7.2 ((x1 + (1 : Int32)) / (2 : Int32)) q11 hq11) rfl rfl (Nat.le_of_ble_eq_true rfl) rfl rfl ⟨rfl, rfl⟩ rfl rfl rfl ?_
            refine G_r C [(.aload_n 0, 1, 0, 0, .null), (.getfield 26, 3, 6, 3, .null), (.iload 4, 2, 0, 0, .null)] 174 [(5, .long (q9 * q10)), (4, .int (0 : Int32)), (3, .int ((x1 + (1 : Int32)) / (2 : Int32))), (0, .ref 0), (1, .int x1), (2, .int x2)] [.int (0 : Int32), .ref 13, .long q11] (wSR cy kb kn kf rK rf rg rpd rpn sK sf sg spd spn q7.1 q7.2 q8.1 q8.2 pd pn vo vd vs tl tb eo et ed em ef ez ek es en fi) (by decide +kernel) rfl rfl ?_
            refine G_if_eq C (off := 9) (tgt := 183) (by decide +kernel) rfl (fun _ => ?_) (fun c => absurd (by decide) c)
            refine G_r C [(.iload_n 3, 1, 0, 0, .null)] 184 [(5, .long (q9 * q10)), (4, .int (0 : Int32)), (3, .int ((x1 + (1 : Int32)) / (2 : Int32))), (0, .ref 0), (1, .int x1), (2, .int x2)] [.int ((x1 + (1 : Int32)) / (2 : Int32)), .ref 13, .long q11] (wSR cy kb kn kf rK rf rg rpd rpn sK sf sg spd spn q7.1 q7.2 q8.1 q8.2 pd pn vo vd vs tl tb eo et ed em ef ez ek es en fi) (by decide +kernel) rfl rfl ?_
            obtain ⟨q12, hq12, h⟩ := obd h
            refine G_cV C lk_6_115 ⟨Nat.le_of_ble_eq_true rfl, Nat.le_of_ble_eq_true rfl⟩ (by decide +kernel) [13, 14] [.long q12, .long q11] (wSR cy kb kn kf rK rf rg rpd rpn sK sf sg spd spn q7.1 q7.2 q8.1 q8.2 pd pn vo vd vs tl tb eo et ed em ef ez ek es en fi) (c_X0_det cy q8.1 q8.2 ((x1 + (1 : Int32)) / (2 : Int32)) q12 hq12) rfl rfl (Nat.le_of_ble_eq_true rfl) rfl rfl ⟨rfl, rfl⟩ rfl rfl rfl ?_
            refine G_r C [(.lmul, 1, 0, 0, .null), (.lstore 7, 2, 0, 0, .null), (.lload 7, 2, 0, 0, .null), (.lconst 0, 1, 0, 0, .long (0 : Int64))] 193 [(7, .long (q11 * q12)), (5, .long (q9 * q10)), (4, .int (0 : Int32)), (3, .int ((x1 + (1 : Int32)) / (2 : Int32))), (0, .ref 0), (1, .int x1), (2, .int x2)] [.long (0 : Int64), .long (q11 * q12)] (wSR cy kb kn kf rK rf rg rpd rpn sK sf sg spd spn q7.1 q7.2 q8.1 q8.2 pd pn vo vd vs tl tb eo et ed em ef ez ek es en fi) (by decide +kernel) rfl rfl ?_
            refine G_lcmp_ne C (off := 11) (tgt := 205) (by decide +kernel) (by decide +kernel) rfl (fun c => ?_) (fun c => ?_)
            · rw [if_neg c] at h
              refine G_r C [(.lload 5, 2, 0, 0, .null), (.lload 7, 2, 0, 0, .null), (.iload_n 2, 1, 0, 0, .null)] 210 [(7, .long (q11 * q12)), (5, .long (q9 * q10)), (4, .int (0 : Int32)), (3, .int ((x1 + (1 : Int32)) / (2 : Int32))), (0, .ref 0), (1, .int x1), (2, .int x2)] [.int x2, .long (q11 * q12), .long (q9 * q10)] (wSR cy kb kn kf rK rf rg rpd rpn sK sf sg spd spn q7.1 q7.2 q8.1 q8.2 pd pn vo vd vs tl tb eo et ed em ef ez ek es en fi) (by decide +kernel) rfl rfl ?_
              obtain ⟨q13, hq13, h⟩ := obd h
              refine G_cS C lk_6_127 ⟨Nat.le_of_ble_eq_true rfl, Nat.le_of_ble_eq_true rfl⟩ (by decide +kernel) [.long q13] (c_X6_part cy (q9 * q10) (q11 * q12) x2 q13 hq13) rfl rfl (Nat.le_of_ble_eq_true rfl) rfl ?_
              have h := Option.some.inj h
              subst h
              exact G_lret C hR (by decide +kernel)
            · rw [if_pos c] at h
              refine G_r C [(.aload_n 0, 1, 0, 0, .null)] 198 [(7, .long (q11 * q12)), (5, .long (q9 * q10)), (4, .int (0 : Int32)), (3, .int ((x1 + (1 : Int32)) / (2 : Int32))), (0, .ref 0), (1, .int x1), (2, .int x2)] [.ref 0] (wSR cy kb kn kf rK rf rg rpd rpn sK sf sg spd spn q7.1 q7.2 q8.1 q8.2 pd pn vo vd vs tl tb eo et ed em ef ez ek es en fi) (by decide +kernel) rfl rfl ?_
              refine G_ldc C co_6_110 (by decide +kernel) ?_
              obtain ⟨q14, hq14, h⟩ := obd h
              refine G_c0 C lk_6_73 ⟨Nat.le_of_ble_eq_true rfl, Nat.le_of_ble_eq_true rfl⟩ (by decide +kernel) [.int q14.1] (c_X6_refuse cy kb kn kf rK rf rg rpd rpn sK sf sg spd spn q7.1 q7.2 q8.1 q8.2 pd pn vo vd vs tl tb eo et ed em ef ez ek es en fi (-1000002 : Int32) q14 hq14) rfl rfl (Nat.le_of_ble_eq_true rfl) ⟨rfl, rfl⟩ rfl ?_
              refine G_r C [(.i2l, 1, 0, 0, .null)] 204 [(7, .long (q11 * q12)), (5, .long (q9 * q10)), (4, .int (0 : Int32)), (3, .int ((x1 + (1 : Int32)) / (2 : Int32))), (0, .ref 0), (1, .int x1), (2, .int x2)] [.long q14.1.toInt64] (wSR cy q14.2.1 q14.2.2.1 q14.2.2.2 rK rf rg rpd rpn sK sf sg spd spn q7.1 q7.2 q8.1 q8.2 pd pn vo vd vs tl tb eo et ed em ef ez ek es en fi) (by decide +kernel) rfl rfl ?_
              have h := Option.some.inj h
              subst h
              exact G_lret C hR (by decide +kernel)
          · rw [if_pos c] at h
            refine G_r C [(.aload_n 0, 1, 0, 0, .null)] 79 [(4, .int (0 : Int32)), (3, .int ((x1 + (1 : Int32)) / (2 : Int32))), (0, .ref 0), (1, .int x1), (2, .int x2)] [.ref 0] (wSR cy kb kn kf rK rf rg rpd rpn sK sf sg spd spn mc mm nc nm pd pn vo vd vs tl tb eo et ed em ef ez ek es en fi) (by decide +kernel) rfl rfl ?_
            refine G_ldc C co_6_110 (by decide +kernel) ?_
            obtain ⟨q15, hq15, h⟩ := obd h
            refine G_c0 C lk_6_73 ⟨Nat.le_of_ble_eq_true rfl, Nat.le_of_ble_eq_true rfl⟩ (by decide +kernel) [.int q15.1] (c_X6_refuse cy kb kn kf rK rf rg rpd rpn sK sf sg spd spn mc mm nc nm pd pn vo vd vs tl tb eo et ed em ef ez ek es en fi (-1000002 : Int32) q15 hq15) rfl rfl (Nat.le_of_ble_eq_true rfl) ⟨rfl, rfl⟩ rfl ?_
            refine G_r C [(.i2l, 1, 0, 0, .null)] 85 [(4, .int (0 : Int32)), (3, .int ((x1 + (1 : Int32)) / (2 : Int32))), (0, .ref 0), (1, .int x1), (2, .int x2)] [.long q15.1.toInt64] (wSR cy q15.2.1 q15.2.2.1 q15.2.2.2 rK rf rg rpd rpn sK sf sg spd spn mc mm nc nm pd pn vo vd vs tl tb eo et ed em ef ez ek es en fi) (by decide +kernel) rfl rfl ?_
            have h := Option.some.inj h
            subst h
            exact G_lret C hR (by decide +kernel)
      · rw [if_pos c] at h
        refine G_r C [(.iconst 1, 1, 0, 0, .int (1 : Int32))] 41 [(3, .int ((x1 + (1 : Int32)) / (2 : Int32))), (0, .ref 0), (1, .int x1), (2, .int x2)] [.int (1 : Int32)] (wSR cy kb kn kf rK rf rg rpd rpn sK sf sg spd spn mc mm nc nm pd pn vo vd vs tl tb eo et ed em ef ez ek es en fi) (by decide +kernel) rfl rfl ?_
        refine G_goto C (off := 4) (tgt := 45) (by decide +kernel) rfl ?_
        refine G_r C [(.istore 4, 2, 0, 0, .null), (.aload_n 0, 1, 0, 0, .null), (.getfield 12, 3, 6, 0, .null), (.iconst 1, 1, 0, 0, .int (1 : Int32)), (.iload_n 3, 1, 0, 0, .null)] 53 [(4, .int (1 : Int32)), (3, .int ((x1 + (1 : Int32)) / (2 : Int32))), (0, .ref 0), (1, .int x1), (2, .int x2)] [.int ((x1 + (1 : Int32)) / (2 : Int32)), .int (1 : Int32), .ref 1] (wSR cy kb kn kf rK rf rg rpd rpn sK sf sg spd spn mc mm nc nm pd pn vo vd vs tl tb eo et ed em ef ez ek es en fi) (by decide +kernel) rfl rfl ?_
        obtain ⟨q16, hq16, h⟩ := obd h
        refine G_cV C lk_6_106 ⟨Nat.le_of_ble_eq_true rfl, Nat.le_of_ble_eq_true rfl⟩ (by decide +kernel) [1, 2, 3, 4, 5] [.int (bI q16)] (wSR cy kb kn kf rK rf rg rpd rpn sK sf sg spd spn mc mm nc nm pd pn vo vd vs tl tb eo et ed em ef ez ek es en fi) (c_X3_hasTable cy rK rf rg rpd rpn (1 : Int32) ((x1 + (1 : Int32)) / (2 : Int32)) q16 hq16) rfl rfl (Nat.le_of_ble_eq_true rfl) rfl rfl ⟨rfl, rfl⟩ rfl rfl rfl ?_
        refine G_if_eq C (off := 22) (tgt := 78) (by decide +kernel) rfl (fun c => ?_) (fun c => ?_)
        · rw [if_pos c] at h
          refine G_r C [(.aload_n 0, 1, 0, 0, .null)] 79 [(4, .int (1 : Int32)), (3, .int ((x1 + (1 : Int32)) / (2 : Int32))), (0, .ref 0), (1, .int x1), (2, .int x2)] [.ref 0] (wSR cy kb kn kf rK rf rg rpd rpn sK sf sg spd spn mc mm nc nm pd pn vo vd vs tl tb eo et ed em ef ez ek es en fi) (by decide +kernel) rfl rfl ?_
          refine G_ldc C co_6_110 (by decide +kernel) ?_
          obtain ⟨q17, hq17, h⟩ := obd h
          refine G_c0 C lk_6_73 ⟨Nat.le_of_ble_eq_true rfl, Nat.le_of_ble_eq_true rfl⟩ (by decide +kernel) [.int q17.1] (c_X6_refuse cy kb kn kf rK rf rg rpd rpn sK sf sg spd spn mc mm nc nm pd pn vo vd vs tl tb eo et ed em ef ez ek es en fi (-1000002 : Int32) q17 hq17) rfl rfl (Nat.le_of_ble_eq_true rfl) ⟨rfl, rfl⟩ rfl ?_
          refine G_r C [(.i2l, 1, 0, 0, .null)] 85 [(4, .int (1 : Int32)), (3, .int ((x1 + (1 : Int32)) / (2 : Int32))), (0, .ref 0), (1, .int x1), (2, .int x2)] [.long q17.1.toInt64] (wSR cy q17.2.1 q17.2.2.1 q17.2.2.2 rK rf rg rpd rpn sK sf sg spd spn mc mm nc nm pd pn vo vd vs tl tb eo et ed em ef ez ek es en fi) (by decide +kernel) rfl rfl ?_
          have h := Option.some.inj h
          subst h
          exact G_lret C hR (by decide +kernel)
        · rw [if_neg c] at h
          refine G_r C [(.iload 4, 2, 0, 0, .null)] 61 [(4, .int (1 : Int32)), (3, .int ((x1 + (1 : Int32)) / (2 : Int32))), (0, .ref 0), (1, .int x1), (2, .int x2)] [.int (1 : Int32)] (wSR cy kb kn kf rK rf rg rpd rpn sK sf sg spd spn mc mm nc nm pd pn vo vd vs tl tb eo et ed em ef ez ek es en fi) (by decide +kernel) rfl rfl ?_
          refine G_if_ne C (off := 25) (tgt := 86) (by decide +kernel) rfl (fun _ => ?_) (fun c => absurd c (by decide))
          refine G_r C [(.aload_n 0, 1, 0, 0, .null), (.getfield 22, 3, 6, 2, .null), (.aload_n 0, 1, 0, 0, .null), (.getfield 12, 3, 6, 0, .null), (.iconst 0, 1, 0, 0, .int (0 : Int32))] 95 [(4, .int (1 : Int32)), (3, .int ((x1 + (1 : Int32)) / (2 : Int32))), (0, .ref 0), (1, .int x1), (2, .int x2)] [.int (0 : Int32), .ref 1, .ref 11] (wSR cy kb kn kf rK rf rg rpd rpn sK sf sg spd spn mc mm nc nm pd pn vo vd vs tl tb eo et ed em ef ez ek es en fi) (by decide +kernel) rfl rfl ?_
          obtain ⟨q18, hq18, h⟩ := obd h
          refine G_cV C lk_6_111 ⟨Nat.le_of_ble_eq_true rfl, Nat.le_of_ble_eq_true rfl⟩ (by decide +kernel) [11, 12, 1, 2, 3, 4, 5] [] (wSR cy kb kn kf rK rf rg rpd rpn sK sf sg spd spn q18.1 q18.2 nc nm pd pn vo vd vs tl tb eo et ed em ef ez ek es en fi) (c_X0_fill cy mc mm rK rf rg rpd rpn (0 : Int32) q18 hq18) rfl rfl (Nat.le_of_ble_eq_true rfl) rfl rfl ⟨rfl, rfl⟩ rfl rfl rfl ?_
          refine G_r C [(.aload_n 0, 1, 0, 0, .null), (.getfield 26, 3, 6, 3, .null), (.aload_n 0, 1, 0, 0, .null), (.getfield 12, 3, 6, 0, .null), (.iconst 1, 1, 0, 0, .int (1 : Int32))] 107 [(4, .int (1 : Int32)), (3, .int ((x1 + (1 : Int32)) / (2 : Int32))), (0, .ref 0), (1, .int x1), (2, .int x2)] [.int (1 : Int32), .ref 1, .ref 13] (wSR cy kb kn kf rK rf rg rpd rpn sK sf sg spd spn q18.1 q18.2 nc nm pd pn vo vd vs tl tb eo et ed em ef ez ek es en fi) (by decide +kernel) rfl rfl ?_
          obtain ⟨q19, hq19, h⟩ := obd h
          refine G_cV C lk_6_111 ⟨Nat.le_of_ble_eq_true rfl, Nat.le_of_ble_eq_true rfl⟩ (by decide +kernel) [13, 14, 1, 2, 3, 4, 5] [] (wSR cy kb kn kf rK rf rg rpd rpn sK sf sg spd spn q18.1 q18.2 q19.1 q19.2 pd pn vo vd vs tl tb eo et ed em ef ez ek es en fi) (c_X0_fill cy nc nm rK rf rg rpd rpn (1 : Int32) q19 hq19) rfl rfl (Nat.le_of_ble_eq_true rfl) rfl rfl ⟨rfl, rfl⟩ rfl rfl rfl ?_
          refine G_r C [(.iload 4, 2, 0, 0, .null)] 112 [(4, .int (1 : Int32)), (3, .int ((x1 + (1 : Int32)) / (2 : Int32))), (0, .ref 0), (1, .int x1), (2, .int x2)] [.int (1 : Int32)] (wSR cy kb kn kf rK rf rg rpd rpn sK sf sg spd spn q18.1 q18.2 q19.1 q19.2 pd pn vo vd vs tl tb eo et ed em ef ez ek es en fi) (by decide +kernel) rfl rfl ?_
          refine G_if_eq C (off := 25) (tgt := 137) (by decide +kernel) rfl (fun c => absurd c (by decide)) (fun _ => ?_)
          refine G_r C [(.aload_n 0, 1, 0, 0, .null), (.getfield 26, 3, 6, 3, .null), (.iload_n 3, 1, 0, 0, .null)] 120 [(4, .int (1 : Int32)), (3, .int ((x1 + (1 : Int32)) / (2 : Int32))), (0, .ref 0), (1, .int x1), (2, .int x2)] [.int ((x1 + (1 : Int32)) / (2 : Int32)), .ref 13] (wSR cy kb kn kf rK rf rg rpd rpn sK sf sg spd spn q18.1 q18.2 q19.1 q19.2 pd pn vo vd vs tl tb eo et ed em ef ez ek es en fi) (by decide +kernel) rfl rfl ?_
          obtain ⟨q20, hq20, h⟩ := obd h
          refine G_cV C lk_6_115 ⟨Nat.le_of_ble_eq_true rfl, Nat.le_of_ble_eq_true rfl⟩ (by decide +kernel) [13, 14] [.long q20] (wSR cy kb kn kf rK rf rg rpd rpn sK sf sg spd spn q18.1 q18.2 q19.1 q19.2 pd pn vo vd vs tl tb eo et ed em ef ez ek es en fi) (c_X0_det cy q19.1 q19.2 ((x1 + (1 : Int32)) / (2 : Int32)) q20 hq20) rfl rfl (Nat.le_of_ble_eq_true rfl) rfl rfl ⟨rfl, rfl⟩ rfl rfl rfl ?_
          refine G_r C [(.aload_n 0, 1, 0, 0, .null), (.getfield 22, 3, 6, 2, .null), (.iload_n 3, 1, 0, 0, .null), (.iconst 1, 1, 0, 0, .int (1 : Int32)), (.isub, 1, 0, 0, .null)] 130 [(4, .int (1 : Int32)), (3, .int ((x1 + (1 : Int32)) / (2 : Int32))), (0, .ref 0), (1, .int x1), (2, .int x2)] [.int (((x1 + (1 : Int32)) / (2 : Int32)) - (1 : Int32)), .ref 11, .long q20] (wSR cy kb kn kf rK rf rg rpd rpn sK sf sg spd spn q18.1 q18.2 q19.1 q19.2 pd pn vo vd vs tl tb eo et ed em ef ez ek es en fi) (by decide +kernel) rfl rfl ?_
          obtain ⟨q21, hq21, h⟩ := obd h
          refine G_cV C lk_6_115 ⟨Nat.le_of_ble_eq_true rfl, Nat.le_of_ble_eq_true rfl⟩ (by decide +kernel) [11, 12] [.long q21, .long q20] (wSR cy kb kn kf rK rf rg rpd rpn sK sf sg spd spn q18.1 q18.2 q19.1 q19.2 pd pn vo vd vs tl tb eo et ed em ef ez ek es en fi) (c_X0_det cy q18.1 q18.2 (((x1 + (1 : Int32)) / (2 : Int32)) - (1 : Int32)) q21 hq21) rfl rfl (Nat.le_of_ble_eq_true rfl) rfl rfl ⟨rfl, rfl⟩ rfl rfl rfl ?_
          refine G_r C [(.lmul, 1, 0, 0, .null)] 134 [(4, .int (1 : Int32)), (3, .int ((x1 + (1 : Int32)) / (2 : Int32))), (0, .ref 0), (1, .int x1), (2, .int x2)] [.long (q20 * q21)] (wSR cy kb kn kf rK rf rg rpd rpn sK sf sg spd spn q18.1 q18.2 q19.1 q19.2 pd pn vo vd vs tl tb eo et ed em ef ez ek es en fi) (by decide +kernel) rfl rfl ?_
          refine G_goto C (off := 24) (tgt := 158) (by decide +kernel) rfl ?_
          refine G_r C [(.lstore 5, 2, 0, 0, .null), (.aload_n 0, 1, 0, 0, .null), (.getfield 22, 3, 6, 2, .null), (.iload_n 3, 1, 0, 0, .null)] 165 [(5, .long (q20 * q21)), (4, .int (1 : Int32)), (3, .int ((x1 + (1 : Int32)) / (2 : Int32))), (0, .ref 0), (1, .int x1), (2, .int x2)] [.int ((x1 + (1 : Int32)) / (2 : Int32)), .ref 11] (wSR cy kb kn kf rK rf rg rpd rpn sK sf sg spd spn q18.1 q18.2 q19.1 q19.2 pd pn vo vd vs tl tb eo et ed em ef ez ek es en fi) (by decide +kernel) rfl rfl ?_
          obtain ⟨q22, hq22, h⟩ := obd h
          refine G_cV C lk_6_115 ⟨Nat.le_of_ble_eq_true rfl, Nat.le_of_ble_eq_true rfl⟩ (by decide +kernel) [11, 12] [.long q22] (wSR cy kb kn kf rK rf rg rpd rpn sK sf sg spd spn q18.1 q18.2 q19.1 q19.2 pd pn vo vd vs tl tb eo et ed em ef ez ek es en fi) (c_X0_det cy q18.1 q18.2 ((x1 + (1 : Int32)) / (2 : Int32)) q22 hq22) rfl rfl (Nat.le_of_ble_eq_true rfl) rfl rfl ⟨rfl, rfl⟩ rfl rfl rfl ?_
          refine G_r C [(.aload_n 0, 1, 0, 0, .null), (.getfield 26, 3, 6, 3, .null), (.iload 4, 2, 0, 0, .null)] 174 [(5, .long (q20 * q21)), (4, .int (1 : Int32)), (3, .int ((x1 + (1 : Int32)) / (2 : Int32))), (0, .ref 0), (1, .int x1), (2, .int x2)] [.int (1 : Int32), .ref 13, .long q22] (wSR cy kb kn kf rK rf rg rpd rpn sK sf sg spd spn q18.1 q18.2 q19.1 q19.2 pd pn vo vd vs tl tb eo et ed em ef ez ek es en fi) (by decide +kernel) rfl rfl ?_
          refine G_if_eq C (off := 9) (tgt := 183) (by decide +kernel) rfl (fun c => absurd c (by decide)) (fun _ => ?_)
          refine G_r C [(.iload_n 3, 1, 0, 0, .null), (.iconst 1, 1, 0, 0, .int (1 : Int32)), (.isub, 1, 0, 0, .null)] 180 [(5, .long (q20 * q21)), (4, .int (1 : Int32)), (3, .int ((x1 + (1 : Int32)) / (2 : Int32))), (0, .ref 0), (1, .int x1), (2, .int x2)] [.int (((x1 + (1 : Int32)) / (2 : Int32)) - (1 : Int32)), .ref 13, .long q22] (wSR cy kb kn kf rK rf rg rpd rpn sK sf sg spd spn q18.1 q18.2 q19.1 q19.2 pd pn vo vd vs tl tb eo et ed em ef ez ek es en fi) (by decide +kernel) rfl rfl ?_
          refine G_goto C (off := 4) (tgt := 184) (by decide +kernel) rfl ?_
          obtain ⟨q23, hq23, h⟩ := obd h
          refine G_cV C lk_6_115 ⟨Nat.le_of_ble_eq_true rfl, Nat.le_of_ble_eq_true rfl⟩ (by decide +kernel) [13, 14] [.long q23, .long q22] (wSR cy kb kn kf rK rf rg rpd rpn sK sf sg spd spn q18.1 q18.2 q19.1 q19.2 pd pn vo vd vs tl tb eo et ed em ef ez ek es en fi) (c_X0_det cy q19.1 q19.2 (((x1 + (1 : Int32)) / (2 : Int32)) - (1 : Int32)) q23 hq23) rfl rfl (Nat.le_of_ble_eq_true rfl) rfl rfl ⟨rfl, rfl⟩ rfl rfl rfl ?_
          refine G_r C [(.lmul, 1, 0, 0, .null), (.lstore 7, 2, 0, 0, .null), (.lload 7, 2, 0, 0, .null), (.lconst 0, 1, 0, 0, .long (0 : Int64))] 193 [(7, .long (q22 * q23)), (5, .long (q20 * q21)), (4, .int (1 : Int32)), (3, .int ((x1 + (1 : Int32)) / (2 : Int32))), (0, .ref 0), (1, .int x1), (2, .int x2)] [.long (0 : Int64), .long (q22 * q23)] (wSR cy kb kn kf rK rf rg rpd rpn sK sf sg spd spn q18.1 q18.2 q19.1 q19.2 pd pn vo vd vs tl tb eo et ed em ef ez ek es en fi) (by decide +kernel) rfl rfl ?_
          refine G_lcmp_ne C (off := 11) (tgt := 205) (by decide +kernel) (by decide +kernel) rfl (fun c => ?_) (fun c => ?_)
          · rw [if_neg c] at h
            refine G_r C [(.lload 5, 2, 0, 0, .null), (.lload 7, 2, 0, 0, .null), (.iload_n 2, 1, 0, 0, .null)] 210 [(7, .long (q22 * q23)), (5, .long (q20 * q21)), (4, .int (1 : Int32)), (3, .int ((x1 + (1 : Int32)) / (2 : Int32))), (0, .ref 0), (1, .int x1), (2, .int x2)] [.int x2, .long (q22 * q23), .long (q20 * q21)] (wSR cy kb kn kf rK rf rg rpd rpn sK sf sg spd spn q18.1 q18.2 q19.1 q19.2 pd pn vo vd vs tl tb eo et ed em ef ez ek es en fi) (by decide +kernel) rfl rfl ?_
            obtain ⟨q24, hq24, h⟩ := obd h
            refine G_cS C lk_6_127 ⟨Nat.le_of_ble_eq_true rfl, Nat.le_of_ble_eq_true rfl⟩ (by decide +kernel) [.long q24] (c_X6_part cy (q20 * q21) (q22 * q23) x2 q24 hq24) rfl rfl (Nat.le_of_ble_eq_true rfl) rfl ?_
            have h := Option.some.inj h
            subst h
            exact G_lret C hR (by decide +kernel)
          · rw [if_pos c] at h
            refine G_r C [(.aload_n 0, 1, 0, 0, .null)] 198 [(7, .long (q22 * q23)), (5, .long (q20 * q21)), (4, .int (1 : Int32)), (3, .int ((x1 + (1 : Int32)) / (2 : Int32))), (0, .ref 0), (1, .int x1), (2, .int x2)] [.ref 0] (wSR cy kb kn kf rK rf rg rpd rpn sK sf sg spd spn q18.1 q18.2 q19.1 q19.2 pd pn vo vd vs tl tb eo et ed em ef ez ek es en fi) (by decide +kernel) rfl rfl ?_
            refine G_ldc C co_6_110 (by decide +kernel) ?_
            obtain ⟨q25, hq25, h⟩ := obd h
            refine G_c0 C lk_6_73 ⟨Nat.le_of_ble_eq_true rfl, Nat.le_of_ble_eq_true rfl⟩ (by decide +kernel) [.int q25.1] (c_X6_refuse cy kb kn kf rK rf rg rpd rpn sK sf sg spd spn q18.1 q18.2 q19.1 q19.2 pd pn vo vd vs tl tb eo et ed em ef ez ek es en fi (-1000002 : Int32) q25 hq25) rfl rfl (Nat.le_of_ble_eq_true rfl) ⟨rfl, rfl⟩ rfl ?_
            refine G_r C [(.i2l, 1, 0, 0, .null)] 204 [(7, .long (q22 * q23)), (5, .long (q20 * q21)), (4, .int (1 : Int32)), (3, .int ((x1 + (1 : Int32)) / (2 : Int32))), (0, .ref 0), (1, .int x1), (2, .int x2)] [.long q25.1.toInt64] (wSR cy q25.2.1 q25.2.2.1 q25.2.2.2 rK rf rg rpd rpn sK sf sg spd spn q18.1 q18.2 q19.1 q19.2 pd pn vo vd vs tl tb eo et ed em ef ez ek es en fi) (by decide +kernel) rfl rfl ?_
            have h := Option.some.inj h
            subst h
            exact G_lret C hR (by decide +kernel)
    · rw [if_neg c] at h
      refine G_r C [(.aload_n 0, 1, 0, 0, .null)] 20 [(0, .ref 0), (1, .int x1), (2, .int x2)] [.ref 0] (wSR cy kb kn kf rK rf rg rpd rpn sK sf sg spd spn mc mm nc nm pd pn vo vd vs tl tb eo et ed em ef ez ek es en fi) (by decide +kernel) rfl rfl ?_
      refine G_ldc C co_6_105 (by decide +kernel) ?_
      obtain ⟨q26, hq26, h⟩ := obd h
      refine G_c0 C lk_6_73 ⟨Nat.le_of_ble_eq_true rfl, Nat.le_of_ble_eq_true rfl⟩ (by decide +kernel) [.int q26.1] (c_X6_refuse cy kb kn kf rK rf rg rpd rpn sK sf sg spd spn mc mm nc nm pd pn vo vd vs tl tb eo et ed em ef ez ek es en fi (-1000001 : Int32) q26 hq26) rfl rfl (Nat.le_of_ble_eq_true rfl) ⟨rfl, rfl⟩ rfl ?_
      refine G_r C [(.i2l, 1, 0, 0, .null)] 26 [(0, .ref 0), (1, .int x1), (2, .int x2)] [.long q26.1.toInt64] (wSR cy q26.2.1 q26.2.2.1 q26.2.2.2 rK rf rg rpd rpn sK sf sg spd spn mc mm nc nm pd pn vo vd vs tl tb eo et ed em ef ez ek es en fi) (by decide +kernel) rfl rfl ?_
      have h := Option.some.inj h
      subst h
      exact G_lret C hR (by decide +kernel)
def f_X5_append (x1 : Int32) (tl : Int32) (tb : Nat → Int32) : Option (Bool × Int32 × (Nat → Int32)) := if tl < (100 : Int32) then (if tl < 0 ∨ 100 ≤ tl.toNatClampNeg then none else some (true, (tl + (1 : Int32)), (upd tb tl.toNatClampNeg (vp_nar .byte x1.toInt8.toInt32)))) else (some (false, tl, tb))
set_option maxHeartbeats 4000000 in
set_option maxRecDepth 100000 in
theorem c_X5_append (cy : Nat → ClassId) (tl : Int32) (tb : Nat → Int32) (x1 : Int32) (res : (Bool × Int32 × (Nat → Int32))) (h : f_X5_append x1 tl tb = some res) : MG cy yX5_append cX5_append 2 (some .boolean) 0 0 [.ref 0, .int x1] (wText cy 0 tl tb) (some (.int (bI res.1))) (wText cy 0 res.2.1 res.2.2) := by
  refine MG_of (o := 5) (lv := [(0, .ref 0), (1, .int x1)]) ⟨by decide +kernel, rfl⟩ (Nat.le_of_ble_eq_true rfl) rfl (fun k C hR => ?_)
  rw [f_X5_append] at h
  refine G_r C [(.aload_n 0, 1, 0, 0, .null), (.getfield 15, 3, 5, 1, .null), (.bipush 100, 2, 0, 0, .int (100 : Int32))] 6 [(0, .ref 0), (1, .int x1)] [.int (100 : Int32), .int tl] (wText cy 0 tl tb) (by decide +kernel) rfl rfl ?_
  refine G_icmp_lt C (off := 5) (tgt := 11) (by decide +kernel) rfl (fun c => ?_) (fun c => ?_)
  · rw [if_pos c] at h
    refine G_r C [(.aload_n 0, 1, 0, 0, .null), (.getfield 9, 3, 5, 0, .null), (.aload_n 0, 1, 0, 0, .null), (.getfield 15, 3, 5, 1, .null), (.iload_n 1, 1, 0, 0, .null), (.i2b, 1, 0, 0, .null)] 21 [(0, .ref 0), (1, .int x1)] [.int x1.toInt8.toInt32, .int tl, .ref 1] (wText cy 0 tl tb) (by decide +kernel) rfl rfl ?_
    obtain ⟨cg, h⟩ := oob h
    refine G_bast C (a := 1) (w' := (wText cy 0 tl (upd tb tl.toNatClampNeg (vp_nar .byte x1.toInt8.toInt32)))) rfl cg (by decide +kernel) rfl ?_
    refine G_r C [(.aload_n 0, 1, 0, 0, .null), (.dup, 1, 0, 0, .null), (.getfield 15, 3, 5, 1, .null), (.iconst 1, 1, 0, 0, .int (1 : Int32)), (.iadd, 1, 0, 0, .null), (.putfield 15, 3, 5, 1, .null), (.iconst 1, 1, 0, 0, .int (1 : Int32))] 33 [(0, .ref 0), (1, .int x1)] [.int (1 : Int32)] (wText cy 0 (tl + (1 : Int32)) (upd tb tl.toNatClampNeg (vp_nar .byte x1.toInt8.toInt32))) (by decide +kernel) rfl rfl ?_
    have h := Option.some.inj h
    subst h
    exact G_zret C (v := true) hR (by decide +kernel)
  · rw [if_neg c] at h
    refine G_r C [(.iconst 0, 1, 0, 0, .int (0 : Int32))] 10 [(0, .ref 0), (1, .int x1)] [.int (0 : Int32)] (wText cy 0 tl tb) (by decide +kernel) rfl rfl ?_
    have h := Option.some.inj h
    subst h
    exact G_zret C (v := false) hR (by decide +kernel)
def f_X5_length (tl : Int32) : Option Int32 := some tl
set_option maxHeartbeats 4000000 in
set_option maxRecDepth 100000 in
theorem c_X5_length (cy : Nat → ClassId) (tl : Int32) (tb : Nat → Int32)  (res : Int32) (h : f_X5_length tl = some res) : MG cy yX5_length cX5_length 1 (some .int) 0 0 [.ref 0] (wText cy 0 tl tb) (some (.int res)) (wText cy 0 tl tb) := by
  refine MG_of (o := 5) (lv := [(0, .ref 0)]) ⟨by decide +kernel, rfl⟩ (Nat.le_of_ble_eq_true rfl) rfl (fun k C hR => ?_)
  rw [f_X5_length] at h
  refine G_r C [(.aload_n 0, 1, 0, 0, .null), (.getfield 15, 3, 5, 1, .null)] 4 [(0, .ref 0)] [.int tl] (wText cy 0 tl tb) (by decide +kernel) rfl rfl ?_
  have h := Option.some.inj h
  subst h
  exact G_iret C hR (by decide +kernel)
def f_X6_type (x1 : Int32) (kb : Int32) (kn : Int32) (kf : Int32) (tl : Int32) (tb : Nat → Int32) : Option (Int32 × Int32 × Int32 × Int32 × Int32 × (Nat → Int32)) := (f_X6_isOutside x1 (0 : Int32) (127 : Int32)).bind fun q1 => if (bI q1) = 0 then ((f_X5_append x1 tl tb).bind fun q2 => if (bI q2.1) = 0 then ((f_X6_refuse (-1000003 : Int32) kb kn kf).bind fun q4 => some (q4.1, q4.2.1, q4.2.2.1, q4.2.2.2, q2.2.1, q2.2.2)) else ((f_X5_length q2.2.1).bind fun q3 => some (q3, kb, kn, kf, q2.2.1, q2.2.2))) else ((f_X6_refuse (-1000001 : Int32) kb kn kf).bind fun q5 => some (q5.1, q5.2.1, q5.2.2.1, q5.2.2.2, tl, tb))
set_option maxHeartbeats 4000000 in
set_option maxRecDepth 100000 in
theorem c_X6_type (cy : Nat → ClassId) (kb : Int32) (kn : Int32) (kf : Int32) (rK : Int32) (rf : Nat → Int32) (rg : Nat → Int64) (rpd : Int32) (rpn : Nat → Int64) (sK : Int32) (sf : Nat → Int32) (sg : Nat → Int64) (spd : Int32) (spn : Nat → Int64) (mc : Int32) (mm : Nat → Int64) (nc : Int32) (nm : Nat → Int64) (pd : Int32) (pn : Nat → Int64) (vo : Int32) (vd : Int32) (vs : Nat → Int32) (tl : Int32) (tb : Nat → Int32) (eo : Int32) (et : Int32) (ed : Int32) (em : Bool) (ef : Int32) (ez : Int32) (ek : Nat → Int32) (es : Nat → Int32) (en : Nat → Int32) (fi : Nat → Int32) (x1 : Int32) (res : (Int32 × Int32 × Int32 × Int32 × Int32 × (Nat → Int32))) (h : f_X6_type x1 kb kn kf tl tb = some res) : MG cy yX6_type cX6_type 2 (some .int) 1 22 [.ref 0, .int x1] (wSR cy kb kn kf rK rf rg rpd rpn sK sf sg spd spn mc mm nc nm pd pn vo vd vs tl tb eo et ed em ef ez ek es en fi) (some (.int res.1)) (wSR cy res.2.1 res.2.2.1 res.2.2.2.1 rK rf rg rpd rpn sK sf sg spd spn mc mm nc nm pd pn vo vd vs res.2.2.2.2.1 res.2.2.2.2.2 eo et ed em ef ez ek es en fi) := by
  refine MG_of (o := 6) (lv := [(0, .ref 0), (1, .int x1)]) ⟨by decide +kernel, rfl⟩ (Nat.le_of_ble_eq_true rfl) rfl (fun k C hR => ?_)
  rw [f_X6_type] at h
  refine G_r C [(.iload_n 1, 1, 0, 0, .null), (.iconst 0, 1, 0, 0, .int (0 : Int32)), (.bipush 127, 2, 0, 0, .int (127 : Int32))] 4 [(0, .ref 0), (1, .int x1)] [.int (127 : Int32), .int (0 : Int32), .int x1] (wSR cy kb kn kf rK rf rg rpd rpn sK sf sg spd spn mc mm nc nm pd pn vo vd vs tl tb eo et ed em ef ez ek es en fi) (by decide +kernel) rfl rfl ?_
  obtain ⟨q1, hq1, h⟩ := obd h
  refine G_cS C lk_6_101 ⟨Nat.le_of_ble_eq_true rfl, Nat.le_of_ble_eq_true rfl⟩ (by decide +kernel) [.int (bI q1)] (c_X6_isOutside cy x1 (0 : Int32) (127 : Int32) q1 hq1) rfl rfl (Nat.le_of_ble_eq_true rfl) rfl ?_
  refine G_if_eq C (off := 10) (tgt := 17) (by decide +kernel) rfl (fun c => ?_) (fun c => ?_)
  · rw [if_pos c] at h
    refine G_r C [(.aload_n 0, 1, 0, 0, .null), (.getfield 46, 3, 6, 6, .null), (.iload_n 1, 1, 0, 0, .null)] 22 [(0, .ref 0), (1, .int x1)] [.int x1, .ref 19] (wSR cy kb kn kf rK rf rg rpd rpn sK sf sg spd spn mc mm nc nm pd pn vo vd vs tl tb eo et ed em ef ez ek es en fi) (by decide +kernel) rfl rfl ?_
    obtain ⟨q2, hq2, h⟩ := obd h
    refine G_cV C lk_6_183 ⟨Nat.le_of_ble_eq_true rfl, Nat.le_of_ble_eq_true rfl⟩ (by decide +kernel) [19, 20] [.int (bI q2.1)] (wSR cy kb kn kf rK rf rg rpd rpn sK sf sg spd spn mc mm nc nm pd pn vo vd vs q2.2.1 q2.2.2 eo et ed em ef ez ek es en fi) (c_X5_append cy tl tb x1 q2 hq2) rfl rfl (Nat.le_of_ble_eq_true rfl) rfl rfl ⟨rfl, rfl⟩ rfl rfl rfl ?_
    refine G_if_ne C (off := 10) (tgt := 35) (by decide +kernel) rfl (fun c => ?_) (fun c => ?_)
    · rw [if_neg c] at h
      refine G_r C [(.aload_n 0, 1, 0, 0, .null), (.getfield 46, 3, 6, 6, .null)] 39 [(0, .ref 0), (1, .int x1)] [.ref 19] (wSR cy kb kn kf rK rf rg rpd rpn sK sf sg spd spn mc mm nc nm pd pn vo vd vs q2.2.1 q2.2.2 eo et ed em ef ez ek es en fi) (by decide +kernel) rfl rfl ?_
      obtain ⟨q3, hq3, h⟩ := obd h
      refine G_cV C lk_6_186 ⟨Nat.le_of_ble_eq_true rfl, Nat.le_of_ble_eq_true rfl⟩ (by decide +kernel) [19, 20] [.int q3] (wSR cy kb kn kf rK rf rg rpd rpn sK sf sg spd spn mc mm nc nm pd pn vo vd vs q2.2.1 q2.2.2 eo et ed em ef ez ek es en fi) (c_X5_length cy q2.2.1 q2.2.2 q3 hq3) rfl rfl (Nat.le_of_ble_eq_true rfl) rfl rfl ⟨rfl, rfl⟩ rfl rfl rfl ?_
      have h := Option.some.inj h
      subst h
      exact G_iret C hR (by decide +kernel)
    · rw [if_pos c] at h
      refine G_r C [(.aload_n 0, 1, 0, 0, .null)] 29 [(0, .ref 0), (1, .int x1)] [.ref 0] (wSR cy kb kn kf rK rf rg rpd rpn sK sf sg spd spn mc mm nc nm pd pn vo vd vs q2.2.1 q2.2.2 eo et ed em ef ez ek es en fi) (by decide +kernel) rfl rfl ?_
      refine G_ldc C co_6_185 (by decide +kernel) ?_
      obtain ⟨q4, hq4, h⟩ := obd h
      refine G_c0 C lk_6_73 ⟨Nat.le_of_ble_eq_true rfl, Nat.le_of_ble_eq_true rfl⟩ (by decide +kernel) [.int q4.1] (c_X6_refuse cy kb kn kf rK rf rg rpd rpn sK sf sg spd spn mc mm nc nm pd pn vo vd vs q2.2.1 q2.2.2 eo et ed em ef ez ek es en fi (-1000003 : Int32) q4 hq4) rfl rfl (Nat.le_of_ble_eq_true rfl) ⟨rfl, rfl⟩ rfl ?_
      have h := Option.some.inj h
      subst h
      exact G_iret C hR (by decide +kernel)
  · rw [if_neg c] at h
    refine G_r C [(.aload_n 0, 1, 0, 0, .null)] 11 [(0, .ref 0), (1, .int x1)] [.ref 0] (wSR cy kb kn kf rK rf rg rpd rpn sK sf sg spd spn mc mm nc nm pd pn vo vd vs tl tb eo et ed em ef ez ek es en fi) (by decide +kernel) rfl rfl ?_
    refine G_ldc C co_6_105 (by decide +kernel) ?_
    obtain ⟨q5, hq5, h⟩ := obd h
    refine G_c0 C lk_6_73 ⟨Nat.le_of_ble_eq_true rfl, Nat.le_of_ble_eq_true rfl⟩ (by decide +kernel) [.int q5.1] (c_X6_refuse cy kb kn kf rK rf rg rpd rpn sK sf sg spd spn mc mm nc nm pd pn vo vd vs tl tb eo et ed em ef ez ek es en fi (-1000001 : Int32) q5 hq5) rfl rfl (Nat.le_of_ble_eq_true rfl) ⟨rfl, rfl⟩ rfl ?_
    have h := Option.some.inj h
    subst h
    exact G_iret C hR (by decide +kernel)
def f_X5_empty : Option Int32 := some (0 : Int32)
set_option maxHeartbeats 4000000 in
set_option maxRecDepth 100000 in
theorem c_X5_empty (cy : Nat → ClassId) (tl : Int32) (tb : Nat → Int32)  (res : Int32) (h : f_X5_empty  = some res) : MG cy yX5_empty cX5_empty 1 none 0 0 [.ref 0] (wText cy 0 tl tb) none (wText cy 0 res tb) := by
  refine MG_of (o := 5) (lv := [(0, .ref 0)]) ⟨by decide +kernel, rfl⟩ (Nat.le_of_ble_eq_true rfl) rfl (fun k C hR => ?_)
  rw [f_X5_empty] at h
  refine G_r C [(.aload_n 0, 1, 0, 0, .null), (.iconst 0, 1, 0, 0, .int (0 : Int32)), (.putfield 15, 3, 5, 1, .null)] 5 [(0, .ref 0)] [] (wText cy 0 (0 : Int32) tb) (by decide +kernel) rfl rfl ?_
  have h := Option.some.inj h
  subst h
  exact G_vret C hR (by decide +kernel)
def f_X6_clear (tl : Int32) : Option (Int32 × Int32) := (f_X5_length tl).bind fun q1 => (f_X5_empty).bind fun q2 => some (q1, q2)
set_option maxHeartbeats 4000000 in
set_option maxRecDepth 100000 in
theorem c_X6_clear (cy : Nat → ClassId) (kb : Int32) (kn : Int32) (kf : Int32) (rK : Int32) (rf : Nat → Int32) (rg : Nat → Int64) (rpd : Int32) (rpn : Nat → Int64) (sK : Int32) (sf : Nat → Int32) (sg : Nat → Int64) (spd : Int32) (spn : Nat → Int64) (mc : Int32) (mm : Nat → Int64) (nc : Int32) (nm : Nat → Int64) (pd : Int32) (pn : Nat → Int64) (vo : Int32) (vd : Int32) (vs : Nat → Int32) (tl : Int32) (tb : Nat → Int32) (eo : Int32) (et : Int32) (ed : Int32) (em : Bool) (ef : Int32) (ez : Int32) (ek : Nat → Int32) (es : Nat → Int32) (en : Nat → Int32) (fi : Nat → Int32)  (res : (Int32 × Int32)) (h : f_X6_clear tl = some res) : MG cy yX6_clear cX6_clear 2 (some .int) 1 20 [.ref 0] (wSR cy kb kn kf rK rf rg rpd rpn sK sf sg spd spn mc mm nc nm pd pn vo vd vs tl tb eo et ed em ef ez ek es en fi) (some (.int res.1)) (wSR cy kb kn kf rK rf rg rpd rpn sK sf sg spd spn mc mm nc nm pd pn vo vd vs res.2 tb eo et ed em ef ez ek es en fi) := by
  refine MG_of (o := 6) (lv := [(0, .ref 0)]) ⟨by decide +kernel, rfl⟩ (Nat.le_of_ble_eq_true rfl) rfl (fun k C hR => ?_)
  rw [f_X6_clear] at h
  refine G_r C [(.aload_n 0, 1, 0, 0, .null), (.getfield 46, 3, 6, 6, .null)] 4 [(0, .ref 0)] [.ref 19] (wSR cy kb kn kf rK rf rg rpd rpn sK sf sg spd spn mc mm nc nm pd pn vo vd vs tl tb eo et ed em ef ez ek es en fi) (by decide +kernel) rfl rfl ?_
  obtain ⟨q1, hq1, h⟩ := obd h
  refine G_cV C lk_6_186 ⟨Nat.le_of_ble_eq_true rfl, Nat.le_of_ble_eq_true rfl⟩ (by decide +kernel) [19, 20] [.int q1] (wSR cy kb kn kf rK rf rg rpd rpn sK sf sg spd spn mc mm nc nm pd pn vo vd vs tl tb eo et ed em ef ez ek es en fi) (c_X5_length cy tl tb q1 hq1) rfl rfl (Nat.le_of_ble_eq_true rfl) rfl rfl ⟨rfl, rfl⟩ rfl rfl rfl ?_
  refine G_r C [(.istore_n 1, 1, 0, 0, .null), (.aload_n 0, 1, 0, 0, .null), (.getfield 46, 3, 6, 6, .null)] 12 [(1, .int q1), (0, .ref 0)] [.ref 19] (wSR cy kb kn kf rK rf rg rpd rpn sK sf sg spd spn mc mm nc nm pd pn vo vd vs tl tb eo et ed em ef ez ek es en fi) (by decide +kernel) rfl rfl ?_
  obtain ⟨q2, hq2, h⟩ := obd h
  refine G_cV C lk_6_189 ⟨Nat.le_of_ble_eq_true rfl, Nat.le_of_ble_eq_true rfl⟩ (by decide +kernel) [19, 20] [] (wSR cy kb kn kf rK rf rg rpd rpn sK sf sg spd spn mc mm nc nm pd pn vo vd vs q2 tb eo et ed em ef ez ek es en fi) (c_X5_empty cy tl tb q2 hq2) rfl rfl (Nat.le_of_ble_eq_true rfl) rfl rfl ⟨rfl, rfl⟩ rfl rfl rfl ?_
  refine G_r C [(.iload_n 1, 1, 0, 0, .null)] 16 [(1, .int q1), (0, .ref 0)] [.int q1] (wSR cy kb kn kf rK rf rg rpd rpn sK sf sg spd spn mc mm nc nm pd pn vo vd vs q2 tb eo et ed em ef ez ek es en fi) (by decide +kernel) rfl rfl ?_
  have h := Option.some.inj h
  subst h
  exact G_iret C hR (by decide +kernel)
def f_X2_forgetNumber : Option (Bool × Int32 × Int32) := some (false, (0 : Int32), (0 : Int32))
set_option maxHeartbeats 4000000 in
set_option maxRecDepth 100000 in
theorem c_X2_forgetNumber (cy : Nat → ClassId) (eo : Int32) (et : Int32) (ed : Int32) (em : Bool) (ef : Int32) (ez : Int32) (ek : Nat → Int32) (es : Nat → Int32) (en : Nat → Int32)  (res : (Bool × Int32 × Int32)) (h : f_X2_forgetNumber  = some res) : MG cy yX2_forgetNumber cX2_forgetNumber 1 none 0 0 [.ref 0] (wReader cy 0 eo et ed em ef ez ek es en) none (wReader cy 0 eo et ed res.1 res.2.1 res.2.2 ek es en) := by
  refine MG_of (o := 2) (lv := [(0, .ref 0)]) ⟨by decide +kernel, rfl⟩ (Nat.le_of_ble_eq_true rfl) rfl (fun k C hR => ?_)
  rw [f_X2_forgetNumber] at h
  refine G_r C [(.aload_n 0, 1, 0, 0, .null), (.iconst 0, 1, 0, 0, .int (0 : Int32))] 2 [(0, .ref 0)] [.int (0 : Int32), .ref 0] (wReader cy 0 eo et ed em ef ez ek es en) (by decide +kernel) rfl rfl ?_
  refine G_putZ C (idx := 51) (ci := 2) (kf := 6) (b := false) (w' := (wReader cy 0 eo et ed false ef ez ek es en)) (by decide +kernel) rfl (Nat.le_of_ble_eq_true rfl) rfl rfl (by decide +kernel) rfl ?_
  refine G_r C [(.aload_n 0, 1, 0, 0, .null), (.iconst 0, 1, 0, 0, .int (0 : Int32)), (.putfield 55, 3, 2, 7, .null), (.aload_n 0, 1, 0, 0, .null), (.iconst 0, 1, 0, 0, .int (0 : Int32)), (.putfield 74, 3, 2, 8, .null)] 15 [(0, .ref 0)] [] (wReader cy 0 eo et ed false (0 : Int32) (0 : Int32) ek es en) (by decide +kernel) rfl rfl ?_
  have h := Option.some.inj h
  subst h
  exact G_vret C hR (by decide +kernel)
def f_X5_at (x1 : Int32) (tl : Int32) (tb : Nat → Int32) : Option Int32 := if x1 < 0 then (some (-1 : Int32)) else (if tl ≤ x1 then (some (-1 : Int32)) else (if x1 < (100 : Int32) then (if x1 < 0 ∨ 100 ≤ x1.toNatClampNeg then none else some (tb x1.toNatClampNeg)) else (some (-1 : Int32))))
set_option maxHeartbeats 4000000 in
set_option maxRecDepth 100000 in
theorem c_X5_at (cy : Nat → ClassId) (tl : Int32) (tb : Nat → Int32) (x1 : Int32) (res : Int32) (h : f_X5_at x1 tl tb = some res) : MG cy yX5_at cX5_at 2 (some .int) 0 0 [.ref 0, .int x1] (wText cy 0 tl tb) (some (.int res)) (wText cy 0 tl tb) := by
  refine MG_of (o := 5) (lv := [(0, .ref 0), (1, .int x1)]) ⟨by decide +kernel, rfl⟩ (Nat.le_of_ble_eq_true rfl) rfl (fun k C hR => ?_)
  rw [f_X5_at] at h
  refine G_r C [(.iload_n 1, 1, 0, 0, .null)] 1 [(0, .ref 0), (1, .int x1)] [.int x1] (wText cy 0 tl tb) (by decide +kernel) rfl rfl ?_
  refine G_if_lt C (off := 17) (tgt := 18) (by decide +kernel) rfl (fun c => ?_) (fun c => ?_)
  · rw [if_pos c] at h
    refine G_r C [(.iconst (-1), 1, 0, 0, .int (-1 : Int32))] 19 [(0, .ref 0), (1, .int x1)] [.int (-1 : Int32)] (wText cy 0 tl tb) (by decide +kernel) rfl rfl ?_
    refine G_goto C (off := 9) (tgt := 28) (by decide +kernel) rfl ?_
    have h := Option.some.inj h
    subst h
    exact G_iret C hR (by decide +kernel)
  · rw [if_neg c] at h
    refine G_r C [(.iload_n 1, 1, 0, 0, .null), (.aload_n 0, 1, 0, 0, .null), (.getfield 15, 3, 5, 1, .null)] 9 [(0, .ref 0), (1, .int x1)] [.int tl, .int x1] (wText cy 0 tl tb) (by decide +kernel) rfl rfl ?_
    refine G_icmp_ge C (off := 9) (tgt := 18) (by decide +kernel) rfl (fun c => ?_) (fun c => ?_)
    · rw [if_pos c] at h
      refine G_r C [(.iconst (-1), 1, 0, 0, .int (-1 : Int32))] 19 [(0, .ref 0), (1, .int x1)] [.int (-1 : Int32)] (wText cy 0 tl tb) (by decide +kernel) rfl rfl ?_
      refine G_goto C (off := 9) (tgt := 28) (by decide +kernel) rfl ?_
      have h := Option.some.inj h
      subst h
      exact G_iret C hR (by decide +kernel)
    · rw [if_neg c] at h
      refine G_r C [(.iload_n 1, 1, 0, 0, .null), (.bipush 100, 2, 0, 0, .int (100 : Int32))] 15 [(0, .ref 0), (1, .int x1)] [.int (100 : Int32), .int x1] (wText cy 0 tl tb) (by decide +kernel) rfl rfl ?_
      refine G_icmp_lt C (off := 7) (tgt := 22) (by decide +kernel) rfl (fun c => ?_) (fun c => ?_)
      · rw [if_pos c] at h
        refine G_r C [(.aload_n 0, 1, 0, 0, .null), (.getfield 9, 3, 5, 0, .null), (.iload_n 1, 1, 0, 0, .null)] 27 [(0, .ref 0), (1, .int x1)] [.int x1, .ref 1] (wText cy 0 tl tb) (by decide +kernel) rfl rfl ?_
        obtain ⟨cg, h⟩ := oob h
        refine G_bald C (a := 1) rfl cg (by decide +kernel) ?_
        have h := Option.some.inj h
        subst h
        exact G_iret C hR (by decide +kernel)
      · rw [if_neg c] at h
        refine G_r C [(.iconst (-1), 1, 0, 0, .int (-1 : Int32))] 19 [(0, .ref 0), (1, .int x1)] [.int (-1 : Int32)] (wText cy 0 tl tb) (by decide +kernel) rfl rfl ?_
        refine G_goto C (off := 9) (tgt := 28) (by decide +kernel) rfl ?_
        have h := Option.some.inj h
        subst h
        exact G_iret C hR (by decide +kernel)
def f_X2_closeNumber (et : Int32) (em : Bool) (ef : Int32) (ez : Int32) (en : Nat → Int32) : Option (Int32 × Bool × Int32 × Int32 × (Nat → Int32)) := if ef ≤ 0 then ((f_X2_forgetNumber).bind fun q1 => some (et, q1.1, q1.2.1, q1.2.2, en)) else (if (100 : Int32) ≤ et then ((f_X2_forgetNumber).bind fun q2 => some (et, q2.1, q2.2.1, q2.2.2, en)) else (if (bI em) = 0 then (if et < 0 ∨ 100 ≤ et.toNatClampNeg then none else (f_X2_forgetNumber).bind fun q3 => some ((et + (1 : Int32)), q3.1, q3.2.1, q3.2.2, (upd en et.toNatClampNeg ez))) else (if et < 0 ∨ 100 ≤ et.toNatClampNeg then none else (f_X2_forgetNumber).bind fun q4 => some ((et + (1 : Int32)), q4.1, q4.2.1, q4.2.2, (upd en et.toNatClampNeg (-ez))))))
set_option maxHeartbeats 4000000 in
set_option maxRecDepth 100000 in
theorem c_X2_closeNumber (cy : Nat → ClassId) (eo : Int32) (et : Int32) (ed : Int32) (em : Bool) (ef : Int32) (ez : Int32) (ek : Nat → Int32) (es : Nat → Int32) (en : Nat → Int32)  (res : (Int32 × Bool × Int32 × Int32 × (Nat → Int32))) (h : f_X2_closeNumber et em ef ez en = some res) : MG cy yX2_closeNumber cX2_closeNumber 1 none 1 20 [.ref 0] (wReader cy 0 eo et ed em ef ez ek es en) none (wReader cy 0 eo res.1 ed res.2.1 res.2.2.1 res.2.2.2.1 ek es res.2.2.2.2) := by
  refine MG_of (o := 2) (lv := [(0, .ref 0)]) ⟨by decide +kernel, rfl⟩ (Nat.le_of_ble_eq_true rfl) rfl (fun k C hR => ?_)
  rw [f_X2_closeNumber] at h
  refine G_r C [(.aload_n 0, 1, 0, 0, .null), (.getfield 55, 3, 2, 7, .null)] 4 [(0, .ref 0)] [.int ef] (wReader cy 0 eo et ed em ef ez ek es en) (by decide +kernel) rfl rfl ?_
  refine G_if_le C (off := 50) (tgt := 54) (by decide +kernel) rfl (fun c => ?_) (fun c => ?_)
  · rw [if_pos c] at h
    refine G_r C [(.aload_n 0, 1, 0, 0, .null)] 55 [(0, .ref 0)] [.ref 0] (wReader cy 0 eo et ed em ef ez ek es en) (by decide +kernel) rfl rfl ?_
    obtain ⟨q1, hq1, h⟩ := obd h
    refine G_c0 C lk_2_31 ⟨Nat.le_of_ble_eq_true rfl, Nat.le_of_ble_eq_true rfl⟩ (by decide +kernel) [] (c_X2_forgetNumber cy eo et ed em ef ez ek es en q1 hq1) rfl rfl (Nat.le_of_ble_eq_true rfl) ⟨rfl, rfl⟩ rfl ?_
    have h := Option.some.inj h
    subst h
    exact G_vret C hR (by decide +kernel)
  · rw [if_neg c] at h
    refine G_r C [(.aload_n 0, 1, 0, 0, .null), (.getfield 25, 3, 2, 4, .null), (.bipush 100, 2, 0, 0, .int (100 : Int32))] 13 [(0, .ref 0)] [.int (100 : Int32), .int et] (wReader cy 0 eo et ed em ef ez ek es en) (by decide +kernel) rfl rfl ?_
    refine G_icmp_ge C (off := 41) (tgt := 54) (by decide +kernel) rfl (fun c => ?_) (fun c => ?_)
    · rw [if_pos c] at h
      refine G_r C [(.aload_n 0, 1, 0, 0, .null)] 55 [(0, .ref 0)] [.ref 0] (wReader cy 0 eo et ed em ef ez ek es en) (by decide +kernel) rfl rfl ?_
      obtain ⟨q2, hq2, h⟩ := obd h
      refine G_c0 C lk_2_31 ⟨Nat.le_of_ble_eq_true rfl, Nat.le_of_ble_eq_true rfl⟩ (by decide +kernel) [] (c_X2_forgetNumber cy eo et ed em ef ez ek es en q2 hq2) rfl rfl (Nat.le_of_ble_eq_true rfl) ⟨rfl, rfl⟩ rfl ?_
      have h := Option.some.inj h
      subst h
      exact G_vret C hR (by decide +kernel)
    · rw [if_neg c] at h
      refine G_r C [(.aload_n 0, 1, 0, 0, .null), (.getfield 18, 3, 2, 2, .null), (.aload_n 0, 1, 0, 0, .null), (.getfield 25, 3, 2, 4, .null), (.aload_n 0, 1, 0, 0, .null), (.getfield 51, 3, 2, 6, .null)] 28 [(0, .ref 0)] [.int (bI em), .int et, .ref 3] (wReader cy 0 eo et ed em ef ez ek es en) (by decide +kernel) rfl rfl ?_
      refine G_if_eq C (off := 11) (tgt := 39) (by decide +kernel) rfl (fun c => ?_) (fun c => ?_)
      · rw [if_pos c] at h
        refine G_r C [(.aload_n 0, 1, 0, 0, .null), (.getfield 74, 3, 2, 8, .null)] 43 [(0, .ref 0)] [.int ez, .int et, .ref 3] (wReader cy 0 eo et ed em ef ez ek es en) (by decide +kernel) rfl rfl ?_
        obtain ⟨cg, h⟩ := oob h
        refine G_iast C (a := 3) (w' := (wReader cy 0 eo et ed em ef ez ek es (upd en et.toNatClampNeg ez))) rfl cg (by decide +kernel) rfl ?_
        refine G_r C [(.aload_n 0, 1, 0, 0, .null), (.dup, 1, 0, 0, .null), (.getfield 25, 3, 2, 4, .null), (.iconst 1, 1, 0, 0, .int (1 : Int32)), (.iadd, 1, 0, 0, .null), (.putfield 25, 3, 2, 4, .null), (.aload_n 0, 1, 0, 0, .null)] 55 [(0, .ref 0)] [.ref 0] (wReader cy 0 eo (et + (1 : Int32)) ed em ef ez ek es (upd en et.toNatClampNeg ez)) (by decide +kernel) rfl rfl ?_
        obtain ⟨q3, hq3, h⟩ := obd h
        refine G_c0 C lk_2_31 ⟨Nat.le_of_ble_eq_true rfl, Nat.le_of_ble_eq_true rfl⟩ (by decide +kernel) [] (c_X2_forgetNumber cy eo (et + (1 : Int32)) ed em ef ez ek es (upd en et.toNatClampNeg ez) q3 hq3) rfl rfl (Nat.le_of_ble_eq_true rfl) ⟨rfl, rfl⟩ rfl ?_
        have h := Option.some.inj h
        subst h
        exact G_vret C hR (by decide +kernel)
      · rw [if_neg c] at h
        refine G_r C [(.aload_n 0, 1, 0, 0, .null), (.getfield 74, 3, 2, 8, .null), (.ineg, 1, 0, 0, .null)] 36 [(0, .ref 0)] [.int (-ez), .int et, .ref 3] (wReader cy 0 eo et ed em ef ez ek es en) (by decide +kernel) rfl rfl ?_
        refine G_goto C (off := 7) (tgt := 43) (by decide +kernel) rfl ?_
        obtain ⟨cg, h⟩ := oob h
        refine G_iast C (a := 3) (w' := (wReader cy 0 eo et ed em ef ez ek es (upd en et.toNatClampNeg (-ez)))) rfl cg (by decide +kernel) rfl ?_
        refine G_r C [(.aload_n 0, 1, 0, 0, .null), (.dup, 1, 0, 0, .null), (.getfield 25, 3, 2, 4, .null), (.iconst 1, 1, 0, 0, .int (1 : Int32)), (.iadd, 1, 0, 0, .null), (.putfield 25, 3, 2, 4, .null), (.aload_n 0, 1, 0, 0, .null)] 55 [(0, .ref 0)] [.ref 0] (wReader cy 0 eo (et + (1 : Int32)) ed em ef ez ek es (upd en et.toNatClampNeg (-ez))) (by decide +kernel) rfl rfl ?_
        obtain ⟨q4, hq4, h⟩ := obd h
        refine G_c0 C lk_2_31 ⟨Nat.le_of_ble_eq_true rfl, Nat.le_of_ble_eq_true rfl⟩ (by decide +kernel) [] (c_X2_forgetNumber cy eo (et + (1 : Int32)) ed em ef ez ek es (upd en et.toNatClampNeg (-ez)) q4 hq4) rfl rfl (Nat.le_of_ble_eq_true rfl) ⟨rfl, rfl⟩ rfl ?_
        have h := Option.some.inj h
        subst h
        exact G_vret C hR (by decide +kernel)
def f_X2_given (eo : Int32) (et : Int32) (es : Nat → Int32) : Option Int32 := if eo < (50 : Int32) then (if eo < 0 ∨ 51 ≤ eo.toNatClampNeg then none else some (et - (es eo.toNatClampNeg))) else (some (0 : Int32))
set_option maxHeartbeats 4000000 in
set_option maxRecDepth 100000 in
theorem c_X2_given (cy : Nat → ClassId) (eo : Int32) (et : Int32) (ed : Int32) (em : Bool) (ef : Int32) (ez : Int32) (ek : Nat → Int32) (es : Nat → Int32) (en : Nat → Int32)  (res : Int32) (h : f_X2_given eo et es = some res) : MG cy yX2_given cX2_given 1 (some .int) 0 0 [.ref 0] (wReader cy 0 eo et ed em ef ez ek es en) (some (.int res)) (wReader cy 0 eo et ed em ef ez ek es en) := by
  refine MG_of (o := 2) (lv := [(0, .ref 0)]) ⟨by decide +kernel, rfl⟩ (Nat.le_of_ble_eq_true rfl) rfl (fun k C hR => ?_)
  rw [f_X2_given] at h
  refine G_r C [(.aload_n 0, 1, 0, 0, .null), (.getfield 21, 3, 2, 3, .null), (.bipush 50, 2, 0, 0, .int (50 : Int32))] 6 [(0, .ref 0)] [.int (50 : Int32), .int eo] (wReader cy 0 eo et ed em ef ez ek es en) (by decide +kernel) rfl rfl ?_
  refine G_icmp_lt C (off := 7) (tgt := 13) (by decide +kernel) rfl (fun c => ?_) (fun c => ?_)
  · rw [if_pos c] at h
    refine G_r C [(.aload_n 0, 1, 0, 0, .null), (.getfield 25, 3, 2, 4, .null), (.aload_n 0, 1, 0, 0, .null), (.getfield 15, 3, 2, 1, .null), (.aload_n 0, 1, 0, 0, .null), (.getfield 21, 3, 2, 3, .null)] 25 [(0, .ref 0)] [.int eo, .ref 2, .int et] (wReader cy 0 eo et ed em ef ez ek es en) (by decide +kernel) rfl rfl ?_
    obtain ⟨cg, h⟩ := oob h
    refine G_iald C (a := 2) rfl cg (by decide +kernel) ?_
    refine G_r C [(.isub, 1, 0, 0, .null)] 27 [(0, .ref 0)] [.int (et - (es eo.toNatClampNeg))] (wReader cy 0 eo et ed em ef ez ek es en) (by decide +kernel) rfl rfl ?_
    have h := Option.some.inj h
    subst h
    exact G_iret C hR (by decide +kernel)
  · rw [if_neg c] at h
    refine G_r C [(.iconst 0, 1, 0, 0, .int (0 : Int32))] 10 [(0, .ref 0)] [.int (0 : Int32)] (wReader cy 0 eo et ed em ef ez ek es en) (by decide +kernel) rfl rfl ?_
    refine G_goto C (off := 17) (tgt := 27) (by decide +kernel) rfl ?_
    have h := Option.some.inj h
    subst h
    exact G_iret C hR (by decide +kernel)
def f_X2_mostNumbers (x0 : Int32) : Option Int32 := if x0 = (107 : Int32) then (some (1 : Int32)) else if x0 = (108 : Int32) then (some (0 : Int32)) else if x0 = (109 : Int32) then (some (7 : Int32)) else if x0 = (112 : Int32) then (some (2 : Int32)) else if x0 = (115 : Int32) then (some (1 : Int32)) else if x0 = (118 : Int32) then (some (1 : Int32)) else if x0 = (119 : Int32) then (some (1 : Int32)) else (some (-1 : Int32))
theorem sw_X2_mostNumbers_1 (z : Int) (h107 : ¬ z = 107) (h108 : ¬ z = 108) (h109 : ¬ z = 109) (h112 : ¬ z = 112) (h115 : ¬ z = 115) (h118 : ¬ z = 118) (h119 : ¬ z = 119) : ((1 : Nat) : Int) + tabOff 76 107 119 #[72, 74, 67, 76, 76, 70, 76, 76, 72, 76, 76, 72, 72] z = ((77 : Nat) : Int) := by
  unfold tabOff
  by_cases c : z < 107 ∨ 119 < z
  · rw [if_pos c]; rfl
  · rcases (by omega : z = 110 ∨ z = 111 ∨ z = 113 ∨ z = 114 ∨ z = 116 ∨ z = 117) with rfl | rfl | rfl | rfl | rfl | rfl
    · rfl
    · rfl
    · rfl
    · rfl
    · rfl
    · rfl
set_option maxHeartbeats 4000000 in
set_option maxRecDepth 100000 in
theorem c_X2_mostNumbers (cy : Nat → ClassId)  (x0 : Int32) (res : Int32) (h : f_X2_mostNumbers x0 = some res) : MG cy yX2_mostNumbers cX2_mostNumbers 1 (some .int) 0 0 [.int x0] [] (some (.int res)) [] := by
  refine MG_of (o := 2) (lv := [(0, .int x0)]) ⟨by decide +kernel, rfl⟩ (Nat.le_of_ble_eq_true rfl) rfl (fun k C hR => ?_)
  rw [f_X2_mostNumbers] at h
  refine G_r C [(.iload_n 0, 1, 0, 0, .null)] 1 [(0, .int x0)] [.int x0] [] (by decide +kernel) rfl rfl ?_
  by_cases c107 : x0 = (107 : Int32)
  · rw [if_pos c107] at h
    refine G_tab C (dflt := 76) (lo1 := 107) (hi := 119) (offs := #[72, 74, 67, 76, 76, 70, 76, 76, 72, 76, 76, 72, 72]) (len := 67) (tgt := 73) (by decide +kernel) rfl (by rw [c107]; rfl) ?_
    refine G_r C [(.iconst 1, 1, 0, 0, .int (1 : Int32))] 74 [(0, .int x0)] [.int (1 : Int32)] [] (by decide +kernel) rfl rfl ?_
    have h := Option.some.inj h
    subst h
    exact G_iret C hR (by decide +kernel)
  · rw [if_neg c107] at h
    by_cases c108 : x0 = (108 : Int32)
    · rw [if_pos c108] at h
      refine G_tab C (dflt := 76) (lo1 := 107) (hi := 119) (offs := #[72, 74, 67, 76, 76, 70, 76, 76, 72, 76, 76, 72, 72]) (len := 67) (tgt := 75) (by decide +kernel) rfl (by rw [c108]; rfl) ?_
      refine G_r C [(.iconst 0, 1, 0, 0, .int (0 : Int32))] 76 [(0, .int x0)] [.int (0 : Int32)] [] (by decide +kernel) rfl rfl ?_
      have h := Option.some.inj h
      subst h
      exact G_iret C hR (by decide +kernel)
    · rw [if_neg c108] at h
      by_cases c109 : x0 = (109 : Int32)
      · rw [if_pos c109] at h
        refine G_tab C (dflt := 76) (lo1 := 107) (hi := 119) (offs := #[72, 74, 67, 76, 76, 70, 76, 76, 72, 76, 76, 72, 72]) (len := 67) (tgt := 68) (by decide +kernel) rfl (by rw [c109]; rfl) ?_
        refine G_r C [(.bipush 7, 2, 0, 0, .int (7 : Int32))] 70 [(0, .int x0)] [.int (7 : Int32)] [] (by decide +kernel) rfl rfl ?_
        have h := Option.some.inj h
        subst h
        exact G_iret C hR (by decide +kernel)
      · rw [if_neg c109] at h
        by_cases c112 : x0 = (112 : Int32)
        · rw [if_pos c112] at h
          refine G_tab C (dflt := 76) (lo1 := 107) (hi := 119) (offs := #[72, 74, 67, 76, 76, 70, 76, 76, 72, 76, 76, 72, 72]) (len := 67) (tgt := 71) (by decide +kernel) rfl (by rw [c112]; rfl) ?_
          refine G_r C [(.iconst 2, 1, 0, 0, .int (2 : Int32))] 72 [(0, .int x0)] [.int (2 : Int32)] [] (by decide +kernel) rfl rfl ?_
          have h := Option.some.inj h
          subst h
          exact G_iret C hR (by decide +kernel)
        · rw [if_neg c112] at h
          by_cases c115 : x0 = (115 : Int32)
          · rw [if_pos c115] at h
            refine G_tab C (dflt := 76) (lo1 := 107) (hi := 119) (offs := #[72, 74, 67, 76, 76, 70, 76, 76, 72, 76, 76, 72, 72]) (len := 67) (tgt := 73) (by decide +kernel) rfl (by rw [c115]; rfl) ?_
            refine G_r C [(.iconst 1, 1, 0, 0, .int (1 : Int32))] 74 [(0, .int x0)] [.int (1 : Int32)] [] (by decide +kernel) rfl rfl ?_
            have h := Option.some.inj h
            subst h
            exact G_iret C hR (by decide +kernel)
          · rw [if_neg c115] at h
            by_cases c118 : x0 = (118 : Int32)
            · rw [if_pos c118] at h
              refine G_tab C (dflt := 76) (lo1 := 107) (hi := 119) (offs := #[72, 74, 67, 76, 76, 70, 76, 76, 72, 76, 76, 72, 72]) (len := 67) (tgt := 73) (by decide +kernel) rfl (by rw [c118]; rfl) ?_
              refine G_r C [(.iconst 1, 1, 0, 0, .int (1 : Int32))] 74 [(0, .int x0)] [.int (1 : Int32)] [] (by decide +kernel) rfl rfl ?_
              have h := Option.some.inj h
              subst h
              exact G_iret C hR (by decide +kernel)
            · rw [if_neg c118] at h
              by_cases c119 : x0 = (119 : Int32)
              · rw [if_pos c119] at h
                refine G_tab C (dflt := 76) (lo1 := 107) (hi := 119) (offs := #[72, 74, 67, 76, 76, 70, 76, 76, 72, 76, 76, 72, 72]) (len := 67) (tgt := 73) (by decide +kernel) rfl (by rw [c119]; rfl) ?_
                refine G_r C [(.iconst 1, 1, 0, 0, .int (1 : Int32))] 74 [(0, .int x0)] [.int (1 : Int32)] [] (by decide +kernel) rfl rfl ?_
                have h := Option.some.inj h
                subst h
                exact G_iret C hR (by decide +kernel)
              · rw [if_neg c119] at h
                refine G_tab C (dflt := 76) (lo1 := 107) (hi := 119) (offs := #[72, 74, 67, 76, 76, 70, 76, 76, 72, 76, 76, 72, 72]) (len := 67) (tgt := 77) (by decide +kernel) rfl (sw_X2_mostNumbers_1 _ (neT c107) (neT c108) (neT c109) (neT c112) (neT c115) (neT c118) (neT c119)) ?_
                refine G_r C [(.iconst (-1), 1, 0, 0, .int (-1 : Int32))] 78 [(0, .int x0)] [.int (-1 : Int32)] [] (by decide +kernel) rfl rfl ?_
                have h := Option.some.inj h
                subst h
                exact G_iret C hR (by decide +kernel)
